theorem s_yX6_build : kMS yX6_build cX6_build 5 (some .int) 3 := ⟨mT_439, mT_51, by decide +kernel⟩
theorem v_yX6_build : kMV yX6_build := ⟨mT_437, mT_438⟩
def f_x_build (f : Ob) (w : Ob) (pt : Ob) (rg : Nat → Ob) (x : Int32) (y : Int32) (v : Int32) : Option (Int32 × Ob × Ob × (Nat → Ob)) := if x < 0 then (some ((-1000000002), w, pt, rg)) else (if 2 < x then (some ((-1000000002), w, pt, rg)) else (if y < 1 then (some ((-1000000002), w, pt, rg)) else (if 8 < y then (some ((-1000000002), w, pt, rg)) else (if v < 0 then (some ((-1000000002), w, pt, rg)) else (if v ≤ 10 then (bd (f_remember pt w rg) (fun q41 => bd (f_becomeNew w x y v) (fun q60 => some (w 0 2, q60, q41.1, q41.2)))) else (some ((-1000000002), w, pt, rg)))))))
set_option maxHeartbeats 4000000 in
set_option maxRecDepth 100000 in
theorem c_x_build (l : Launch) (D : va_G) (cI cZ cR : ClassId) (fa wa pta i0a i1a bka kna tra jda w1 w2 w3 w4 w5 w6 w7 w8 w9 rr : Nat) (ra : Nat → Nat → Nat) (f : Ob) (w : Ob) (pt : Ob) (rg : Nat → Ob) (x : Int32) (y : Int32) (v : Int32) (sz : Nat) (r : Int32) (u : Ob × Ob × (Nat → Ob)) (hf : f_x_build f w pt rg x y v = some (r, u)) : kCi l yX6_build cX6_build 5 (some .int) { frames := 3, cells := 0, slots := 0, locals := 82 } [.ref fa, .int x, .int y, .int v] D cI cZ cR ((cFF fa wa pta i0a i1a bka kna tra jda f ++ (cWeb cI wa w1 w2 w3 w4 w5 w6 w7 w8 w9 w ++ (cPst pta rr pt))) ++ cRing cI cR rr ra rg) sz ((cFF fa wa pta i0a i1a bka kna tra jda f ++ (cWeb cI wa w1 w2 w3 w4 w5 w6 w7 w8 w9 u.1 ++ (cPst pta rr u.2.1))) ++ cRing cI cR rr ra u.2.2) r := by
  refine kMwi (wf := (fun u : Ob × Ob × (Nat → Ob) => (cFF fa wa pta i0a i1a bka kna tra jda f ++ (cWeb cI wa w1 w2 w3 w4 w5 w6 w7 w8 w9 u.1 ++ (cPst pta rr u.2.1))) ++ cRing cI cR rr ra u.2.2)) (u := u) (by decide) (Nat.le_of_ble_eq_true rfl) ?_
  intro p e s m below meth c Q A hx hb hml hown hts hk hP hD hA hS hret ls hl
  have hS0 := hS
  have hK := hk.1
  have hl : lv_has ls 5 [(0, .ref fa), (1, .int x), (2, .int y), (3, .int v)] := hl
  rw [f_x_build] at hf
  refine lv_iload_n hx hb dX6_build_0 rfl (lv_at hl 1 rfl) ?_
  refine lv_if_lt (tgt := 30) hx hb dX6_build_1 (by decide) (fun c1 => ?_) (fun c1 => ?_)
  · have hf := ite_t c1 hf
    refine lv_ldc (v := (-1000000002)) hx hb hown (hts _ mT_379) dX6_build_30 ?_
    exact hret _ _ _ (w, pt, rg) _ _ hf dX6_build_32 hP hD hS
  · have hf := ite_f c1 hf
    refine lv_iload_n hx hb dX6_build_4 rfl (lv_at hl 1 rfl) ?_
    refine lv_iconst (v := 2) hx hb dX6_build_5 (by decide) ?_
    refine lv_icmp_gt (tgt := 30) hx hb dX6_build_6 (by decide) (fun c6 => ?_) (fun c6 => ?_)
    · have hf := ite_t c6 hf
      refine lv_ldc (v := (-1000000002)) hx hb hown (hts _ mT_379) dX6_build_30 ?_
      exact hret _ _ _ (w, pt, rg) _ _ hf dX6_build_32 hP hD hS
    · have hf := ite_f c6 hf
      refine lv_iload_n hx hb dX6_build_9 rfl (lv_at hl 2 rfl) ?_
      refine lv_iconst (v := 1) hx hb dX6_build_10 (by decide) ?_
      refine lv_icmp_lt (tgt := 30) hx hb dX6_build_11 (by decide) (fun c11 => ?_) (fun c11 => ?_)
      · have hf := ite_t c11 hf
        refine lv_ldc (v := (-1000000002)) hx hb hown (hts _ mT_379) dX6_build_30 ?_
        exact hret _ _ _ (w, pt, rg) _ _ hf dX6_build_32 hP hD hS
      · have hf := ite_f c11 hf
        refine lv_iload_n hx hb dX6_build_14 rfl (lv_at hl 2 rfl) ?_
        refine lv_bipush (v := 8) hx hb dX6_build_15 (by decide) ?_
        refine lv_icmp_gt (tgt := 30) hx hb dX6_build_17 (by decide) (fun c17 => ?_) (fun c17 => ?_)
        · have hf := ite_t c17 hf
          refine lv_ldc (v := (-1000000002)) hx hb hown (hts _ mT_379) dX6_build_30 ?_
          exact hret _ _ _ (w, pt, rg) _ _ hf dX6_build_32 hP hD hS
        · have hf := ite_f c17 hf
          refine lv_iload_n hx hb dX6_build_20 rfl (lv_at hl 3 rfl) ?_
          refine lv_if_lt (tgt := 30) hx hb dX6_build_21 (by decide) (fun c21 => ?_) (fun c21 => ?_)
          · have hf := ite_t c21 hf
            refine lv_ldc (v := (-1000000002)) hx hb hown (hts _ mT_379) dX6_build_30 ?_
            exact hret _ _ _ (w, pt, rg) _ _ hf dX6_build_32 hP hD hS
          · have hf := ite_f c21 hf
            refine lv_iload_n hx hb dX6_build_24 rfl (lv_at hl 3 rfl) ?_
            refine lv_bipush (v := 10) hx hb dX6_build_25 (by decide) ?_
            refine lv_icmp_le (tgt := 33) hx hb dX6_build_27 (by decide) (fun c27 => ?_) (fun c27 => ?_)
            · have hf := ite_t c27 hf
              refine lv_aload_n hx hb dX6_build_33 rfl (lv_at hl 0 rfl) ?_
              refine va_get (D := D) (ci := 6) (v := .ref pta) (C := RX6) (T := TX6) (N := 9) hx hb hts inT6 hown hK hP 0 rfl rfl 1 (by decide) (hts _ mT_227) (fun _ h9 => h9) rfl dX6_build_34 ?_
              refine lv_aload_n hx hb dX6_build_37 rfl (lv_at hl 0 rfl) ?_
              refine va_get (D := D) (ci := 6) (v := .ref wa) (C := RX6) (T := TX6) (N := 9) hx hb hts inT6 hown hK hP 0 rfl rfl 0 (by decide) (hts _ mT_226) (fun _ h9 => h9) rfl dX6_build_38 ?_
              obtain ⟨q41, h41, hf⟩ := bd_some hf
              refine kx_wvT (As := [.ref wa]) (rest := []) (ws := (cFF fa wa pta i0a i1a bka kna tra jda f ++ (cWeb cI wa w1 w2 w3 w4 w5 w6 w7 w8 w9 w ++ (cPst pta rr pt))) ++ cRing cI cR rr ra rg) (wn := (cFF fa wa pta i0a i1a bka kna tra jda f ++ (cWeb cI wa w1 w2 w3 w4 w5 w6 w7 w8 w9 w ++ (cPst pta rr q41.1))) ++ cRing cI cR rr ra q41.2) hx hb hml hown hts hk hP hD hS hA hl.1 s_yX3_remember v_yX3_remember (c_remember l D cI cZ cR pta rr wa w1 w2 w3 w4 w5 w6 w7 w8 w9 ra pt w rg s.heap.size _ h41) mT_440 rfl rfl ⟨Nat.le_of_ble_eq_true rfl, Nat.le_of_ble_eq_true rfl⟩ (pmU (T := cRing cI cR rr ra rg) (pmx (we := cFF fa wa pta i0a i1a bka kna tra jda f ++ (cWeb cI wa w1 w2 w3 w4 w5 w6 w7 w8 w9 w ++ (cPst pta rr pt))) (wx := (cPst pta rr pt ++ (cWeb cI wa w1 w2 w3 w4 w5 w6 w7 w8 w9 w)) ++ [(fa, .inr (6, [.ref wa, .ref pta, .ref i0a, .ref i1a, .ref bka, .ref kna, .ref tra, .ref jda, .int (f 0 0)]))]) 12 [11, 1, 2, 3, 4, 5, 6, 7, 8, 9, 10, 0] rfl (by decide +kernel) rfl)) (pmU' (T := cRing cI cR rr ra q41.2) (pmx (we := (cPst pta rr q41.1 ++ (cWeb cI wa w1 w2 w3 w4 w5 w6 w7 w8 w9 w)) ++ [(fa, .inr (6, [.ref wa, .ref pta, .ref i0a, .ref i1a, .ref bka, .ref kna, .ref tra, .ref jda, .int (f 0 0)]))]) (wx := cFF fa wa pta i0a i1a bka kna tra jda f ++ (cWeb cI wa w1 w2 w3 w4 w5 w6 w7 w8 w9 w ++ (cPst pta rr q41.1))) 12 [11, 1, 2, 3, 4, 5, 6, 7, 8, 9, 10, 0] rfl (by decide +kernel) rfl)) (ci := 3) (q0 := 0) rfl rfl rfl (Nat.le_of_ble_eq_true rfl) ⟨Nat.zero_le _, Nat.zero_le _⟩ dX6_build_41 (fun H locs hP hD hS => ?_)
              refine lv_aload_n hx hb dX6_build_44 rfl (lv_at hl 0 rfl) ?_
              refine va_get (D := D) (ci := 6) (v := .ref wa) (C := RX6) (T := TX6) (N := 9) hx hb hts inT6 hown hK hP 0 rfl rfl 0 (by decide) (hts _ mT_226) (fun _ h9 => h9) rfl dX6_build_45 ?_
              refine va_get (D := D) (ci := 4) (v := .int (w 0 2)) (C := RX4) (T := TX4) (N := 12) hx hb hts inT4 hown hK hP 1 rfl rfl 2 (by decide) (hts _ mT_82) (fun _ h9 => h9) rfl dX6_build_48 ?_
              refine lv_istore (lv' := [(4, .int (w 0 2)), (0, .ref fa), (1, .int x), (2, .int y), (3, .int v)]) hx hb dX6_build_51 hl (by decide) rfl (fun ls hl => ?_)
              refine lv_aload_n hx hb dX6_build_53 rfl (lv_at hl 1 rfl) ?_
              refine va_get (D := D) (ci := 6) (v := .ref wa) (C := RX6) (T := TX6) (N := 9) hx hb hts inT6 hown hK hP 0 rfl rfl 0 (by decide) (hts _ mT_226) (fun _ h9 => h9) rfl dX6_build_54 ?_
              refine lv_iload_n hx hb dX6_build_57 rfl (lv_at hl 2 rfl) ?_
              refine lv_iload_n hx hb dX6_build_58 rfl (lv_at hl 3 rfl) ?_
              refine lv_iload_n hx hb dX6_build_59 rfl (lv_at hl 4 rfl) ?_
              obtain ⟨q60, h60, hf⟩ := bd_some hf
              refine kx_wvT (As := [.int x, .int y, .int v]) (rest := []) (ws := (cFF fa wa pta i0a i1a bka kna tra jda f ++ (cWeb cI wa w1 w2 w3 w4 w5 w6 w7 w8 w9 w ++ (cPst pta rr q41.1))) ++ cRing cI cR rr ra q41.2) (wn := (cFF fa wa pta i0a i1a bka kna tra jda f ++ (cWeb cI wa w1 w2 w3 w4 w5 w6 w7 w8 w9 q60 ++ (cPst pta rr q41.1))) ++ cRing cI cR rr ra q41.2) hx hb hml hown hts hk hP hD hS hA hl.1 s_yX4_becomeNew v_yX4_becomeNew (c_becomeNew l D cI cZ cR wa w1 w2 w3 w4 w5 w6 w7 w8 w9 w x y v H.size _ h60) mT_215 rfl rfl ⟨Nat.le_of_ble_eq_true rfl, Nat.le_of_ble_eq_true rfl⟩ (pmT (T := cRing cI cR rr ra q41.2) (pmx (we := cFF fa wa pta i0a i1a bka kna tra jda f ++ (cWeb cI wa w1 w2 w3 w4 w5 w6 w7 w8 w9 w ++ (cPst pta rr q41.1))) (wx := (cWeb cI wa w1 w2 w3 w4 w5 w6 w7 w8 w9 w) ++ [(fa, .inr (6, [.ref wa, .ref pta, .ref i0a, .ref i1a, .ref bka, .ref kna, .ref tra, .ref jda, .int (f 0 0)])), (pta, .inr (3, [.int (q41.1 0 0), .int (q41.1 0 1), .ref rr]))]) 12 [1, 2, 3, 4, 5, 6, 7, 8, 9, 10, 0, 11] rfl (by decide +kernel) rfl)) (pmT' (T := cRing cI cR rr ra q41.2) (pmx (we := (cWeb cI wa w1 w2 w3 w4 w5 w6 w7 w8 w9 q60) ++ [(fa, .inr (6, [.ref wa, .ref pta, .ref i0a, .ref i1a, .ref bka, .ref kna, .ref tra, .ref jda, .int (f 0 0)])), (pta, .inr (3, [.int (q41.1 0 0), .int (q41.1 0 1), .ref rr]))]) (wx := cFF fa wa pta i0a i1a bka kna tra jda f ++ (cWeb cI wa w1 w2 w3 w4 w5 w6 w7 w8 w9 q60 ++ (cPst pta rr q41.1))) 12 [10, 0, 1, 2, 3, 4, 5, 6, 7, 8, 9, 11] rfl (by decide +kernel) rfl)) (ci := 4) (q0 := 0) rfl rfl rfl (Nat.le_of_ble_eq_true rfl) ⟨Nat.zero_le _, Nat.zero_le _⟩ dX6_build_60 (fun H locs hP hD hS => ?_)
              refine lv_iload hx hb dX6_build_63 (lv_at hl 0 rfl) ?_
              exact hret _ _ _ (q60, q41.1, q41.2) _ _ hf dX6_build_65 hP hD hS
            · have hf := ite_f c27 hf
              refine lv_ldc (v := (-1000000002)) hx hb hown (hts _ mT_379) dX6_build_30 ?_
              exact hret _ _ _ (w, pt, rg) _ _ hf dX6_build_32 hP hD hS
theorem s_yX6_cell : kMS yX6_cell cX6_cell 4 (some .int) 3 := ⟨mT_457, mT_51, by decide +kernel⟩
theorem v_yX6_cell : kMV yX6_cell := ⟨mT_455, mT_456⟩
def f_x_cell (f : Ob) (w : Ob) (pt : Ob) (rg : Nat → Ob) (x : Int32) (y : Int32) (v : Int32) : Option (Int32 × Ob × Ob × (Nat → Ob)) := bd (f_hasValue w x) (fun q5 => if q5 = 0 then (some ((-1000000001), w, pt, rg)) else (bd (f_hasValue w y) (fun q16 => if q16 = 0 then (some ((-1000000001), w, pt, rg)) else (bd (f_hasValue w v) (fun q27 => if q27 = 0 then (some ((-1000000001), w, pt, rg)) else (bd (f_remember pt w rg) (fun q44 => gd (ck ((x * 8) + y) 64) (bd (f_brokenLaw (sA w 1 (upd (w 1) (Int32.toNatClampNeg ((x * 8) + y)) v))) (fun q66 => some (q66, sA w 1 (upd (w 1) (Int32.toNatClampNeg ((x * 8) + y)) v), q44.1, q44.2))))))))))
set_option maxHeartbeats 4000000 in
set_option maxRecDepth 100000 in
theorem c_x_cell (l : Launch) (D : va_G) (cI cZ cR : ClassId) (fa wa pta i0a i1a bka kna tra jda w1 w2 w3 w4 w5 w6 w7 w8 w9 rr : Nat) (ra : Nat → Nat → Nat) (f : Ob) (w : Ob) (pt : Ob) (rg : Nat → Ob) (x : Int32) (y : Int32) (v : Int32) (sz : Nat) (r : Int32) (u : Ob × Ob × (Nat → Ob)) (hf : f_x_cell f w pt rg x y v = some (r, u)) : kCi l yX6_cell cX6_cell 4 (some .int) { frames := 3, cells := 0, slots := 0, locals := 82 } [.ref fa, .int x, .int y, .int v] D cI cZ cR ((cFF fa wa pta i0a i1a bka kna tra jda f ++ (cWeb cI wa w1 w2 w3 w4 w5 w6 w7 w8 w9 w ++ (cPst pta rr pt))) ++ cRing cI cR rr ra rg) sz ((cFF fa wa pta i0a i1a bka kna tra jda f ++ (cWeb cI wa w1 w2 w3 w4 w5 w6 w7 w8 w9 u.1 ++ (cPst pta rr u.2.1))) ++ cRing cI cR rr ra u.2.2) r := by
  refine kMwi (wf := (fun u : Ob × Ob × (Nat → Ob) => (cFF fa wa pta i0a i1a bka kna tra jda f ++ (cWeb cI wa w1 w2 w3 w4 w5 w6 w7 w8 w9 u.1 ++ (cPst pta rr u.2.1))) ++ cRing cI cR rr ra u.2.2)) (u := u) (by decide) (Nat.le_of_ble_eq_true rfl) ?_
  intro p e s m below meth c Q A hx hb hml hown hts hk hP hD hA hS hret ls hl
  have hS0 := hS
  have hK := hk.1
  have hl : lv_has ls 4 [(0, .ref fa), (1, .int x), (2, .int y), (3, .int v)] := hl
  rw [f_x_cell] at hf
  refine lv_aload_n hx hb dX6_cell_0 rfl (lv_at hl 0 rfl) ?_
  refine va_get (D := D) (ci := 6) (v := .ref wa) (C := RX6) (T := TX6) (N := 9) hx hb hts inT6 hown hK hP 0 rfl rfl 0 (by decide) (hts _ mT_226) (fun _ h9 => h9) rfl dX6_cell_1 ?_
  refine lv_iload_n hx hb dX6_cell_4 rfl (lv_at hl 1 rfl) ?_
  obtain ⟨q5, h5, hf⟩ := bd_some hf
  refine kx_rv (As := [.int x]) (rest := []) hx hb hml hown hts hk (hP.sub (ws' := cWeb cI wa w1 w2 w3 w4 w5 w6 w7 w8 w9 w) [1, 2, 3, 4, 5, 6, 7, 8, 9, 10] rfl) hl.1 s_yX4_hasValue v_yX4_hasValue (c_hasValue l D cI cZ cR wa w1 w2 w3 w4 w5 w6 w7 w8 w9 w x _ h5) mT_384 rfl rfl ⟨Nat.le_of_ble_eq_true rfl, Nat.le_of_ble_eq_true rfl⟩ (ci := 4) (q0 := 0) rfl rfl rfl (Nat.le_of_ble_eq_true rfl) ⟨Nat.zero_le _, Nat.zero_le _⟩ dX6_cell_5 ?_
  refine lv_if_eq (tgt := 33) hx hb dX6_cell_8 (by decide) (fun c8 => ?_) (fun c8 => ?_)
  · have hf := ite_t c8 hf
    refine lv_ldc (v := (-1000000001)) hx hb hown (hts _ mT_388) dX6_cell_33 ?_
    exact hret _ _ _ (w, pt, rg) _ _ hf dX6_cell_35 hP hD hS
  · have hf := ite_f c8 hf
    refine lv_aload_n hx hb dX6_cell_11 rfl (lv_at hl 0 rfl) ?_
    refine va_get (D := D) (ci := 6) (v := .ref wa) (C := RX6) (T := TX6) (N := 9) hx hb hts inT6 hown hK hP 0 rfl rfl 0 (by decide) (hts _ mT_226) (fun _ h9 => h9) rfl dX6_cell_12 ?_
    refine lv_iload_n hx hb dX6_cell_15 rfl (lv_at hl 2 rfl) ?_
    obtain ⟨q16, h16, hf⟩ := bd_some hf
    refine kx_rv (As := [.int y]) (rest := []) hx hb hml hown hts hk (hP.sub (ws' := cWeb cI wa w1 w2 w3 w4 w5 w6 w7 w8 w9 w) [1, 2, 3, 4, 5, 6, 7, 8, 9, 10] rfl) hl.1 s_yX4_hasValue v_yX4_hasValue (c_hasValue l D cI cZ cR wa w1 w2 w3 w4 w5 w6 w7 w8 w9 w y _ h16) mT_384 rfl rfl ⟨Nat.le_of_ble_eq_true rfl, Nat.le_of_ble_eq_true rfl⟩ (ci := 4) (q0 := 0) rfl rfl rfl (Nat.le_of_ble_eq_true rfl) ⟨Nat.zero_le _, Nat.zero_le _⟩ dX6_cell_16 ?_
    refine lv_if_eq (tgt := 33) hx hb dX6_cell_19 (by decide) (fun c19 => ?_) (fun c19 => ?_)
    · have hf := ite_t c19 hf
      refine lv_ldc (v := (-1000000001)) hx hb hown (hts _ mT_388) dX6_cell_33 ?_
      exact hret _ _ _ (w, pt, rg) _ _ hf dX6_cell_35 hP hD hS
    · have hf := ite_f c19 hf
      refine lv_aload_n hx hb dX6_cell_22 rfl (lv_at hl 0 rfl) ?_
      refine va_get (D := D) (ci := 6) (v := .ref wa) (C := RX6) (T := TX6) (N := 9) hx hb hts inT6 hown hK hP 0 rfl rfl 0 (by decide) (hts _ mT_226) (fun _ h9 => h9) rfl dX6_cell_23 ?_
      refine lv_iload_n hx hb dX6_cell_26 rfl (lv_at hl 3 rfl) ?_
      obtain ⟨q27, h27, hf⟩ := bd_some hf
      refine kx_rv (As := [.int v]) (rest := []) hx hb hml hown hts hk (hP.sub (ws' := cWeb cI wa w1 w2 w3 w4 w5 w6 w7 w8 w9 w) [1, 2, 3, 4, 5, 6, 7, 8, 9, 10] rfl) hl.1 s_yX4_hasValue v_yX4_hasValue (c_hasValue l D cI cZ cR wa w1 w2 w3 w4 w5 w6 w7 w8 w9 w v _ h27) mT_384 rfl rfl ⟨Nat.le_of_ble_eq_true rfl, Nat.le_of_ble_eq_true rfl⟩ (ci := 4) (q0 := 0) rfl rfl rfl (Nat.le_of_ble_eq_true rfl) ⟨Nat.zero_le _, Nat.zero_le _⟩ dX6_cell_27 ?_
      refine lv_if_ne (tgt := 36) hx hb dX6_cell_30 (by decide) (fun c30 => ?_) (fun c30 => ?_)
      · have hf := ite_f c30 hf
        refine lv_aload_n hx hb dX6_cell_36 rfl (lv_at hl 0 rfl) ?_
        refine va_get (D := D) (ci := 6) (v := .ref pta) (C := RX6) (T := TX6) (N := 9) hx hb hts inT6 hown hK hP 0 rfl rfl 1 (by decide) (hts _ mT_227) (fun _ h9 => h9) rfl dX6_cell_37 ?_
        refine lv_aload_n hx hb dX6_cell_40 rfl (lv_at hl 0 rfl) ?_
        refine va_get (D := D) (ci := 6) (v := .ref wa) (C := RX6) (T := TX6) (N := 9) hx hb hts inT6 hown hK hP 0 rfl rfl 0 (by decide) (hts _ mT_226) (fun _ h9 => h9) rfl dX6_cell_41 ?_
        obtain ⟨q44, h44, hf⟩ := bd_some hf
        refine kx_wvT (As := [.ref wa]) (rest := []) (ws := (cFF fa wa pta i0a i1a bka kna tra jda f ++ (cWeb cI wa w1 w2 w3 w4 w5 w6 w7 w8 w9 w ++ (cPst pta rr pt))) ++ cRing cI cR rr ra rg) (wn := (cFF fa wa pta i0a i1a bka kna tra jda f ++ (cWeb cI wa w1 w2 w3 w4 w5 w6 w7 w8 w9 w ++ (cPst pta rr q44.1))) ++ cRing cI cR rr ra q44.2) hx hb hml hown hts hk hP hD hS hA hl.1 s_yX3_remember v_yX3_remember (c_remember l D cI cZ cR pta rr wa w1 w2 w3 w4 w5 w6 w7 w8 w9 ra pt w rg s.heap.size _ h44) mT_440 rfl rfl ⟨Nat.le_of_ble_eq_true rfl, Nat.le_of_ble_eq_true rfl⟩ (pmU (T := cRing cI cR rr ra rg) (pmx (we := cFF fa wa pta i0a i1a bka kna tra jda f ++ (cWeb cI wa w1 w2 w3 w4 w5 w6 w7 w8 w9 w ++ (cPst pta rr pt))) (wx := (cPst pta rr pt ++ (cWeb cI wa w1 w2 w3 w4 w5 w6 w7 w8 w9 w)) ++ [(fa, .inr (6, [.ref wa, .ref pta, .ref i0a, .ref i1a, .ref bka, .ref kna, .ref tra, .ref jda, .int (f 0 0)]))]) 12 [11, 1, 2, 3, 4, 5, 6, 7, 8, 9, 10, 0] rfl (by decide +kernel) rfl)) (pmU' (T := cRing cI cR rr ra q44.2) (pmx (we := (cPst pta rr q44.1 ++ (cWeb cI wa w1 w2 w3 w4 w5 w6 w7 w8 w9 w)) ++ [(fa, .inr (6, [.ref wa, .ref pta, .ref i0a, .ref i1a, .ref bka, .ref kna, .ref tra, .ref jda, .int (f 0 0)]))]) (wx := cFF fa wa pta i0a i1a bka kna tra jda f ++ (cWeb cI wa w1 w2 w3 w4 w5 w6 w7 w8 w9 w ++ (cPst pta rr q44.1))) 12 [11, 1, 2, 3, 4, 5, 6, 7, 8, 9, 10, 0] rfl (by decide +kernel) rfl)) (ci := 3) (q0 := 0) rfl rfl rfl (Nat.le_of_ble_eq_true rfl) ⟨Nat.zero_le _, Nat.zero_le _⟩ dX6_cell_44 (fun H locs hP hD hS => ?_)
        refine lv_aload_n hx hb dX6_cell_47 rfl (lv_at hl 0 rfl) ?_
        refine va_get (D := D) (ci := 6) (v := .ref wa) (C := RX6) (T := TX6) (N := 9) hx hb hts inT6 hown hK hP 0 rfl rfl 0 (by decide) (hts _ mT_226) (fun _ h9 => h9) rfl dX6_cell_48 ?_
        refine va_get (D := D) (ci := 4) (v := .ref w1) (C := RX4) (T := TX4) (N := 12) hx hb hts inT4 hown hK hP 1 rfl rfl 3 (by decide) (hts _ mT_85) (fun _ h9 => h9) rfl dX6_cell_51 ?_
        refine lv_iload_n hx hb dX6_cell_54 rfl (lv_at hl 1 rfl) ?_
        refine lv_bipush (v := 8) hx hb dX6_cell_55 (by decide) ?_
        refine lv_imul hx hb dX6_cell_57 ?_
        refine lv_iload_n hx hb dX6_cell_58 rfl (lv_at hl 2 rfl) ?_
        refine lv_iadd hx hb dX6_cell_59 ?_
        refine lv_iload_n hx hb dX6_cell_60 rfl (lv_at hl 3 rfl) ?_
        obtain ⟨b61, hf⟩ := gd_some hf
        refine va_iast (n := 64) (f := w 1) hx hb hK hP hD hS 2 0 rfl rfl (ck_in b61) dX6_cell_61 (fun H locs hP hD hS => ?_)
        have hP : va_P D vwCl ((cFF fa wa pta i0a i1a bka kna tra jda f ++ ([(wa, .inr (4, [.int (w 0 0), .int (w 0 1), .int (w 0 2), .ref w1, .ref w2, .ref w3, .ref w4, .ref w5, .ref w6, .ref w7, .ref w8, .ref w9])), (w1, .inl (cI, 64, .inl (upd (w 1) (Int32.toNatClampNeg ((x * 8) + y)) v))), (w2, .inl (cI, 10, .inl (w 2))), (w3, .inl (cI, 10, .inl (w 3))), (w4, .inl (cI, 20, .inl (w 4))), (w5, .inl (cI, 20, .inl (w 5))), (w6, .inl (cI, 160, .inl (w 6))), (w7, .inl (cI, 20, .inl (w 7))), (w8, .inl (cI, 20, .inl (w 8))), (w9, .inl (cI, 20, .inl (w 9)))] ++ (cPst pta rr q44.1))) ++ cRing cI cR rr ra q44.2) H := hP
        have hD : va_D A ((cFF fa wa pta i0a i1a bka kna tra jda f ++ ([(wa, .inr (4, [.int (w 0 0), .int (w 0 1), .int (w 0 2), .ref w1, .ref w2, .ref w3, .ref w4, .ref w5, .ref w6, .ref w7, .ref w8, .ref w9])), (w1, .inl (cI, 64, .inl (upd (w 1) (Int32.toNatClampNeg ((x * 8) + y)) v))), (w2, .inl (cI, 10, .inl (w 2))), (w3, .inl (cI, 10, .inl (w 3))), (w4, .inl (cI, 20, .inl (w 4))), (w5, .inl (cI, 20, .inl (w 5))), (w6, .inl (cI, 160, .inl (w 6))), (w7, .inl (cI, 20, .inl (w 7))), (w8, .inl (cI, 20, .inl (w 8))), (w9, .inl (cI, 20, .inl (w 9)))] ++ (cPst pta rr q44.1))) ++ cRing cI cR rr ra q44.2) := hD
        refine lv_aload_n hx hb dX6_cell_62 rfl (lv_at hl 0 rfl) ?_
        refine va_get (D := D) (ci := 6) (v := .ref wa) (C := RX6) (T := TX6) (N := 9) hx hb hts inT6 hown hK hP 0 rfl rfl 0 (by decide) (hts _ mT_226) (fun _ h9 => h9) rfl dX6_cell_63 ?_
        obtain ⟨q66, h66, hf⟩ := bd_some hf
        refine kx_rv (As := []) (rest := []) hx hb hml hown hts hk (hP.sub (ws' := cWeb cI wa w1 w2 w3 w4 w5 w6 w7 w8 w9 (sA w 1 (upd (w 1) (Int32.toNatClampNeg ((x * 8) + y)) v))) [1, 2, 3, 4, 5, 6, 7, 8, 9, 10] rfl) hl.1 s_yX4_brokenLaw v_yX4_brokenLaw (c_brokenLaw l D cI cZ cR wa w1 w2 w3 w4 w5 w6 w7 w8 w9 (sA w 1 (upd (w 1) (Int32.toNatClampNeg ((x * 8) + y)) v)) _ h66) mT_258 rfl rfl ⟨Nat.le_of_ble_eq_true rfl, Nat.le_of_ble_eq_true rfl⟩ (ci := 4) (q0 := 0) rfl rfl rfl (Nat.le_of_ble_eq_true rfl) ⟨Nat.zero_le _, Nat.zero_le _⟩ dX6_cell_66 ?_
        exact hret _ _ _ (sA w 1 (upd (w 1) (Int32.toNatClampNeg ((x * 8) + y)) v), q44.1, q44.2) _ _ hf dX6_cell_69 hP hD hS
      · have hf := ite_t c30 hf
        refine lv_ldc (v := (-1000000001)) hx hb hown (hts _ mT_388) dX6_cell_33 ?_
        exact hret _ _ _ (w, pt, rg) _ _ hf dX6_cell_35 hP hD hS
theorem s_yX6_start : kMS yX6_start cX6_start 4 (some .int) 3 := ⟨mT_461, mT_51, by decide +kernel⟩
theorem v_yX6_start : kMV yX6_start := ⟨mT_459, mT_460⟩
def f_x_start (f : Ob) (w : Ob) (pt : Ob) (rg : Nat → Ob) (x : Int32) (y : Int32) (v : Int32) : Option (Int32 × Ob × Ob × (Nat → Ob)) := bd (f_hasPlace w x) (fun q5 => if q5 = 0 then (some ((-1000000001), w, pt, rg)) else (bd (f_hasValue w y) (fun q16 => if q16 = 0 then (some ((-1000000001), w, pt, rg)) else (bd (f_isSet v) (fun q26 => if q26 = 0 then (some ((-1000000002), w, pt, rg)) else (bd (f_remember pt w rg) (fun q43 => gd (ck x 10) (some (1, sA w 2 (upd (w 2) (Int32.toNatClampNeg x) ((y * 256) + v)), q43.1, q43.2)))))))))
set_option maxHeartbeats 4000000 in
set_option maxRecDepth 100000 in
theorem c_x_start (l : Launch) (D : va_G) (cI cZ cR : ClassId) (fa wa pta i0a i1a bka kna tra jda w1 w2 w3 w4 w5 w6 w7 w8 w9 rr : Nat) (ra : Nat → Nat → Nat) (f : Ob) (w : Ob) (pt : Ob) (rg : Nat → Ob) (x : Int32) (y : Int32) (v : Int32) (sz : Nat) (r : Int32) (u : Ob × Ob × (Nat → Ob)) (hf : f_x_start f w pt rg x y v = some (r, u)) : kCi l yX6_start cX6_start 4 (some .int) { frames := 3, cells := 0, slots := 0, locals := 82 } [.ref fa, .int x, .int y, .int v] D cI cZ cR ((cFF fa wa pta i0a i1a bka kna tra jda f ++ (cWeb cI wa w1 w2 w3 w4 w5 w6 w7 w8 w9 w ++ (cPst pta rr pt))) ++ cRing cI cR rr ra rg) sz ((cFF fa wa pta i0a i1a bka kna tra jda f ++ (cWeb cI wa w1 w2 w3 w4 w5 w6 w7 w8 w9 u.1 ++ (cPst pta rr u.2.1))) ++ cRing cI cR rr ra u.2.2) r := by
  refine kMwi (wf := (fun u : Ob × Ob × (Nat → Ob) => (cFF fa wa pta i0a i1a bka kna tra jda f ++ (cWeb cI wa w1 w2 w3 w4 w5 w6 w7 w8 w9 u.1 ++ (cPst pta rr u.2.1))) ++ cRing cI cR rr ra u.2.2)) (u := u) (by decide) (Nat.le_of_ble_eq_true rfl) ?_
  intro p e s m below meth c Q A hx hb hml hown hts hk hP hD hA hS hret ls hl
  have hS0 := hS
  have hK := hk.1
  have hl : lv_has ls 4 [(0, .ref fa), (1, .int x), (2, .int y), (3, .int v)] := hl
  rw [f_x_start] at hf
  refine lv_aload_n hx hb dX6_start_0 rfl (lv_at hl 0 rfl) ?_
  refine va_get (D := D) (ci := 6) (v := .ref wa) (C := RX6) (T := TX6) (N := 9) hx hb hts inT6 hown hK hP 0 rfl rfl 0 (by decide) (hts _ mT_226) (fun _ h9 => h9) rfl dX6_start_1 ?_
  refine lv_iload_n hx hb dX6_start_4 rfl (lv_at hl 1 rfl) ?_
  obtain ⟨q5, h5, hf⟩ := bd_some hf
  refine kx_rv (As := [.int x]) (rest := []) hx hb hml hown hts hk (hP.sub (ws' := cWeb cI wa w1 w2 w3 w4 w5 w6 w7 w8 w9 w) [1, 2, 3, 4, 5, 6, 7, 8, 9, 10] rfl) hl.1 s_yX4_hasPlace v_yX4_hasPlace (c_hasPlace l D cI cZ cR wa w1 w2 w3 w4 w5 w6 w7 w8 w9 w x _ h5) mT_399 rfl rfl ⟨Nat.le_of_ble_eq_true rfl, Nat.le_of_ble_eq_true rfl⟩ (ci := 4) (q0 := 0) rfl rfl rfl (Nat.le_of_ble_eq_true rfl) ⟨Nat.zero_le _, Nat.zero_le _⟩ dX6_start_5 ?_
  refine lv_if_eq (tgt := 22) hx hb dX6_start_8 (by decide) (fun c8 => ?_) (fun c8 => ?_)
  · have hf := ite_t c8 hf
    refine lv_ldc (v := (-1000000001)) hx hb hown (hts _ mT_388) dX6_start_22 ?_
    exact hret _ _ _ (w, pt, rg) _ _ hf dX6_start_24 hP hD hS
  · have hf := ite_f c8 hf
    refine lv_aload_n hx hb dX6_start_11 rfl (lv_at hl 0 rfl) ?_
    refine va_get (D := D) (ci := 6) (v := .ref wa) (C := RX6) (T := TX6) (N := 9) hx hb hts inT6 hown hK hP 0 rfl rfl 0 (by decide) (hts _ mT_226) (fun _ h9 => h9) rfl dX6_start_12 ?_
    refine lv_iload_n hx hb dX6_start_15 rfl (lv_at hl 2 rfl) ?_
    obtain ⟨q16, h16, hf⟩ := bd_some hf
    refine kx_rv (As := [.int y]) (rest := []) hx hb hml hown hts hk (hP.sub (ws' := cWeb cI wa w1 w2 w3 w4 w5 w6 w7 w8 w9 w) [1, 2, 3, 4, 5, 6, 7, 8, 9, 10] rfl) hl.1 s_yX4_hasValue v_yX4_hasValue (c_hasValue l D cI cZ cR wa w1 w2 w3 w4 w5 w6 w7 w8 w9 w y _ h16) mT_384 rfl rfl ⟨Nat.le_of_ble_eq_true rfl, Nat.le_of_ble_eq_true rfl⟩ (ci := 4) (q0 := 0) rfl rfl rfl (Nat.le_of_ble_eq_true rfl) ⟨Nat.zero_le _, Nat.zero_le _⟩ dX6_start_16 ?_
    refine lv_if_ne (tgt := 25) hx hb dX6_start_19 (by decide) (fun c19 => ?_) (fun c19 => ?_)
    · have hf := ite_f c19 hf
      refine lv_iload_n hx hb dX6_start_25 rfl (lv_at hl 3 rfl) ?_
      obtain ⟨q26, h26, hf⟩ := bd_some hf
      refine kx_rs (As := [.int v]) (rest := []) hx hb hml hown hts hk hl.1 s_yX6_isSet mT_463 (c_isSet l D cI cZ cR v _ h26) mT_462 rfl rfl ⟨Nat.le_of_ble_eq_true rfl, Nat.le_of_ble_eq_true rfl⟩ rfl (Nat.le_of_ble_eq_true rfl) ⟨Nat.zero_le _, Nat.zero_le _⟩ dX6_start_26 ?_
      refine lv_if_ne (tgt := 35) hx hb dX6_start_29 (by decide) (fun c29 => ?_) (fun c29 => ?_)
      · have hf := ite_f c29 hf
        refine lv_aload_n hx hb dX6_start_35 rfl (lv_at hl 0 rfl) ?_
        refine va_get (D := D) (ci := 6) (v := .ref pta) (C := RX6) (T := TX6) (N := 9) hx hb hts inT6 hown hK hP 0 rfl rfl 1 (by decide) (hts _ mT_227) (fun _ h9 => h9) rfl dX6_start_36 ?_
        refine lv_aload_n hx hb dX6_start_39 rfl (lv_at hl 0 rfl) ?_
        refine va_get (D := D) (ci := 6) (v := .ref wa) (C := RX6) (T := TX6) (N := 9) hx hb hts inT6 hown hK hP 0 rfl rfl 0 (by decide) (hts _ mT_226) (fun _ h9 => h9) rfl dX6_start_40 ?_
        obtain ⟨q43, h43, hf⟩ := bd_some hf
        refine kx_wvT (As := [.ref wa]) (rest := []) (ws := (cFF fa wa pta i0a i1a bka kna tra jda f ++ (cWeb cI wa w1 w2 w3 w4 w5 w6 w7 w8 w9 w ++ (cPst pta rr pt))) ++ cRing cI cR rr ra rg) (wn := (cFF fa wa pta i0a i1a bka kna tra jda f ++ (cWeb cI wa w1 w2 w3 w4 w5 w6 w7 w8 w9 w ++ (cPst pta rr q43.1))) ++ cRing cI cR rr ra q43.2) hx hb hml hown hts hk hP hD hS hA hl.1 s_yX3_remember v_yX3_remember (c_remember l D cI cZ cR pta rr wa w1 w2 w3 w4 w5 w6 w7 w8 w9 ra pt w rg s.heap.size _ h43) mT_440 rfl rfl ⟨Nat.le_of_ble_eq_true rfl, Nat.le_of_ble_eq_true rfl⟩ (pmU (T := cRing cI cR rr ra rg) (pmx (we := cFF fa wa pta i0a i1a bka kna tra jda f ++ (cWeb cI wa w1 w2 w3 w4 w5 w6 w7 w8 w9 w ++ (cPst pta rr pt))) (wx := (cPst pta rr pt ++ (cWeb cI wa w1 w2 w3 w4 w5 w6 w7 w8 w9 w)) ++ [(fa, .inr (6, [.ref wa, .ref pta, .ref i0a, .ref i1a, .ref bka, .ref kna, .ref tra, .ref jda, .int (f 0 0)]))]) 12 [11, 1, 2, 3, 4, 5, 6, 7, 8, 9, 10, 0] rfl (by decide +kernel) rfl)) (pmU' (T := cRing cI cR rr ra q43.2) (pmx (we := (cPst pta rr q43.1 ++ (cWeb cI wa w1 w2 w3 w4 w5 w6 w7 w8 w9 w)) ++ [(fa, .inr (6, [.ref wa, .ref pta, .ref i0a, .ref i1a, .ref bka, .ref kna, .ref tra, .ref jda, .int (f 0 0)]))]) (wx := cFF fa wa pta i0a i1a bka kna tra jda f ++ (cWeb cI wa w1 w2 w3 w4 w5 w6 w7 w8 w9 w ++ (cPst pta rr q43.1))) 12 [11, 1, 2, 3, 4, 5, 6, 7, 8, 9, 10, 0] rfl (by decide +kernel) rfl)) (ci := 3) (q0 := 0) rfl rfl rfl (Nat.le_of_ble_eq_true rfl) ⟨Nat.zero_le _, Nat.zero_le _⟩ dX6_start_43 (fun H locs hP hD hS => ?_)
        refine lv_aload_n hx hb dX6_start_46 rfl (lv_at hl 0 rfl) ?_
        refine va_get (D := D) (ci := 6) (v := .ref wa) (C := RX6) (T := TX6) (N := 9) hx hb hts inT6 hown hK hP 0 rfl rfl 0 (by decide) (hts _ mT_226) (fun _ h9 => h9) rfl dX6_start_47 ?_
        refine va_get (D := D) (ci := 4) (v := .ref w2) (C := RX4) (T := TX4) (N := 12) hx hb hts inT4 hown hK hP 1 rfl rfl 4 (by decide) (hts _ mT_87) (fun _ h9 => h9) rfl dX6_start_50 ?_
        refine lv_iload_n hx hb dX6_start_53 rfl (lv_at hl 1 rfl) ?_
        refine lv_iload_n hx hb dX6_start_54 rfl (lv_at hl 2 rfl) ?_
        refine lv_sipush (v := 256) hx hb dX6_start_55 (by decide) ?_
        refine lv_imul hx hb dX6_start_58 ?_
        refine lv_iload_n hx hb dX6_start_59 rfl (lv_at hl 3 rfl) ?_
        refine lv_iadd hx hb dX6_start_60 ?_
        obtain ⟨b61, hf⟩ := gd_some hf
        refine va_iast (n := 10) (f := w 2) hx hb hK hP hD hS 3 0 rfl rfl (ck_in b61) dX6_start_61 (fun H locs hP hD hS => ?_)
        have hP : va_P D vwCl ((cFF fa wa pta i0a i1a bka kna tra jda f ++ ([(wa, .inr (4, [.int (w 0 0), .int (w 0 1), .int (w 0 2), .ref w1, .ref w2, .ref w3, .ref w4, .ref w5, .ref w6, .ref w7, .ref w8, .ref w9])), (w1, .inl (cI, 64, .inl (w 1))), (w2, .inl (cI, 10, .inl (upd (w 2) (Int32.toNatClampNeg x) ((y * 256) + v)))), (w3, .inl (cI, 10, .inl (w 3))), (w4, .inl (cI, 20, .inl (w 4))), (w5, .inl (cI, 20, .inl (w 5))), (w6, .inl (cI, 160, .inl (w 6))), (w7, .inl (cI, 20, .inl (w 7))), (w8, .inl (cI, 20, .inl (w 8))), (w9, .inl (cI, 20, .inl (w 9)))] ++ (cPst pta rr q43.1))) ++ cRing cI cR rr ra q43.2) H := hP
        have hD : va_D A ((cFF fa wa pta i0a i1a bka kna tra jda f ++ ([(wa, .inr (4, [.int (w 0 0), .int (w 0 1), .int (w 0 2), .ref w1, .ref w2, .ref w3, .ref w4, .ref w5, .ref w6, .ref w7, .ref w8, .ref w9])), (w1, .inl (cI, 64, .inl (w 1))), (w2, .inl (cI, 10, .inl (upd (w 2) (Int32.toNatClampNeg x) ((y * 256) + v)))), (w3, .inl (cI, 10, .inl (w 3))), (w4, .inl (cI, 20, .inl (w 4))), (w5, .inl (cI, 20, .inl (w 5))), (w6, .inl (cI, 160, .inl (w 6))), (w7, .inl (cI, 20, .inl (w 7))), (w8, .inl (cI, 20, .inl (w 8))), (w9, .inl (cI, 20, .inl (w 9)))] ++ (cPst pta rr q43.1))) ++ cRing cI cR rr ra q43.2) := hD
        refine lv_iconst (v := 1) hx hb dX6_start_62 (by decide) ?_
        exact hret _ _ _ (sA w 2 (upd (w 2) (Int32.toNatClampNeg x) ((y * 256) + v)), q43.1, q43.2) _ _ hf dX6_start_63 hP hD hS
      · have hf := ite_t c29 hf
        refine lv_ldc (v := (-1000000002)) hx hb hown (hts _ mT_379) dX6_start_32 ?_
        exact hret _ _ _ (w, pt, rg) _ _ hf dX6_start_34 hP hD hS
    · have hf := ite_t c19 hf
      refine lv_ldc (v := (-1000000001)) hx hb hown (hts _ mT_388) dX6_start_22 ?_
      exact hret _ _ _ (w, pt, rg) _ _ hf dX6_start_24 hP hD hS
theorem s_yX6_way : kMS yX6_way cX6_way 3 (some .int) 2 := ⟨mT_468, mT_51, by decide +kernel⟩
theorem v_yX6_way : kMV yX6_way := ⟨mT_466, mT_467⟩
def f_x_way (f : Ob) (w : Ob) (pt : Ob) (rg : Nat → Ob) (x : Int32) (y : Int32) : Option (Int32 × Ob × Ob × (Nat → Ob)) := bd (f_hasPlace w x) (fun q5 => if q5 = 0 then (some ((-1000000001), w, pt, rg)) else (bd (f_hasPlace w y) (fun q16 => if q16 = 0 then (some ((-1000000001), w, pt, rg)) else (if (w 0 2) < 20 then (bd (f_remember pt w rg) (fun q48 => bd (f_addWay w x y) (fun q57 => some (q57.1, q57.2, q48.1, q48.2)))) else (some ((-1000000004), w, pt, rg))))))
set_option maxHeartbeats 4000000 in
set_option maxRecDepth 100000 in
theorem c_x_way (l : Launch) (D : va_G) (cI cZ cR : ClassId) (fa wa pta i0a i1a bka kna tra jda w1 w2 w3 w4 w5 w6 w7 w8 w9 rr : Nat) (ra : Nat → Nat → Nat) (f : Ob) (w : Ob) (pt : Ob) (rg : Nat → Ob) (x : Int32) (y : Int32) (sz : Nat) (r : Int32) (u : Ob × Ob × (Nat → Ob)) (hf : f_x_way f w pt rg x y = some (r, u)) : kCi l yX6_way cX6_way 3 (some .int) { frames := 3, cells := 0, slots := 0, locals := 82 } [.ref fa, .int x, .int y] D cI cZ cR ((cFF fa wa pta i0a i1a bka kna tra jda f ++ (cWeb cI wa w1 w2 w3 w4 w5 w6 w7 w8 w9 w ++ (cPst pta rr pt))) ++ cRing cI cR rr ra rg) sz ((cFF fa wa pta i0a i1a bka kna tra jda f ++ (cWeb cI wa w1 w2 w3 w4 w5 w6 w7 w8 w9 u.1 ++ (cPst pta rr u.2.1))) ++ cRing cI cR rr ra u.2.2) r := by
  refine kMwi (wf := (fun u : Ob × Ob × (Nat → Ob) => (cFF fa wa pta i0a i1a bka kna tra jda f ++ (cWeb cI wa w1 w2 w3 w4 w5 w6 w7 w8 w9 u.1 ++ (cPst pta rr u.2.1))) ++ cRing cI cR rr ra u.2.2)) (u := u) (by decide) (Nat.le_of_ble_eq_true rfl) ?_
  intro p e s m below meth c Q A hx hb hml hown hts hk hP hD hA hS hret ls hl
  have hS0 := hS
  have hK := hk.1
  have hl : lv_has ls 3 [(0, .ref fa), (1, .int x), (2, .int y)] := hl
  rw [f_x_way] at hf
  refine lv_aload_n hx hb dX6_way_0 rfl (lv_at hl 0 rfl) ?_
  refine va_get (D := D) (ci := 6) (v := .ref wa) (C := RX6) (T := TX6) (N := 9) hx hb hts inT6 hown hK hP 0 rfl rfl 0 (by decide) (hts _ mT_226) (fun _ h9 => h9) rfl dX6_way_1 ?_
  refine lv_iload_n hx hb dX6_way_4 rfl (lv_at hl 1 rfl) ?_
  obtain ⟨q5, h5, hf⟩ := bd_some hf
  refine kx_rv (As := [.int x]) (rest := []) hx hb hml hown hts hk (hP.sub (ws' := cWeb cI wa w1 w2 w3 w4 w5 w6 w7 w8 w9 w) [1, 2, 3, 4, 5, 6, 7, 8, 9, 10] rfl) hl.1 s_yX4_hasPlace v_yX4_hasPlace (c_hasPlace l D cI cZ cR wa w1 w2 w3 w4 w5 w6 w7 w8 w9 w x _ h5) mT_399 rfl rfl ⟨Nat.le_of_ble_eq_true rfl, Nat.le_of_ble_eq_true rfl⟩ (ci := 4) (q0 := 0) rfl rfl rfl (Nat.le_of_ble_eq_true rfl) ⟨Nat.zero_le _, Nat.zero_le _⟩ dX6_way_5 ?_
  refine lv_if_eq (tgt := 22) hx hb dX6_way_8 (by decide) (fun c8 => ?_) (fun c8 => ?_)
  · have hf := ite_t c8 hf
    refine lv_ldc (v := (-1000000001)) hx hb hown (hts _ mT_388) dX6_way_22 ?_
    exact hret _ _ _ (w, pt, rg) _ _ hf dX6_way_24 hP hD hS
  · have hf := ite_f c8 hf
    refine lv_aload_n hx hb dX6_way_11 rfl (lv_at hl 0 rfl) ?_
    refine va_get (D := D) (ci := 6) (v := .ref wa) (C := RX6) (T := TX6) (N := 9) hx hb hts inT6 hown hK hP 0 rfl rfl 0 (by decide) (hts _ mT_226) (fun _ h9 => h9) rfl dX6_way_12 ?_
    refine lv_iload_n hx hb dX6_way_15 rfl (lv_at hl 2 rfl) ?_
    obtain ⟨q16, h16, hf⟩ := bd_some hf
    refine kx_rv (As := [.int y]) (rest := []) hx hb hml hown hts hk (hP.sub (ws' := cWeb cI wa w1 w2 w3 w4 w5 w6 w7 w8 w9 w) [1, 2, 3, 4, 5, 6, 7, 8, 9, 10] rfl) hl.1 s_yX4_hasPlace v_yX4_hasPlace (c_hasPlace l D cI cZ cR wa w1 w2 w3 w4 w5 w6 w7 w8 w9 w y _ h16) mT_399 rfl rfl ⟨Nat.le_of_ble_eq_true rfl, Nat.le_of_ble_eq_true rfl⟩ (ci := 4) (q0 := 0) rfl rfl rfl (Nat.le_of_ble_eq_true rfl) ⟨Nat.zero_le _, Nat.zero_le _⟩ dX6_way_16 ?_
    refine lv_if_ne (tgt := 25) hx hb dX6_way_19 (by decide) (fun c19 => ?_) (fun c19 => ?_)
    · have hf := ite_f c19 hf
      refine lv_aload_n hx hb dX6_way_25 rfl (lv_at hl 0 rfl) ?_
      refine va_get (D := D) (ci := 6) (v := .ref wa) (C := RX6) (T := TX6) (N := 9) hx hb hts inT6 hown hK hP 0 rfl rfl 0 (by decide) (hts _ mT_226) (fun _ h9 => h9) rfl dX6_way_26 ?_
      refine va_get (D := D) (ci := 4) (v := .int (w 0 2)) (C := RX4) (T := TX4) (N := 12) hx hb hts inT4 hown hK hP 1 rfl rfl 2 (by decide) (hts _ mT_82) (fun _ h9 => h9) rfl dX6_way_29 ?_
      refine lv_bipush (v := 20) hx hb dX6_way_32 (by decide) ?_
      refine lv_icmp_lt (tgt := 40) hx hb dX6_way_34 (by decide) (fun c34 => ?_) (fun c34 => ?_)
      · have hf := ite_t c34 hf
        refine lv_aload_n hx hb dX6_way_40 rfl (lv_at hl 0 rfl) ?_
        refine va_get (D := D) (ci := 6) (v := .ref pta) (C := RX6) (T := TX6) (N := 9) hx hb hts inT6 hown hK hP 0 rfl rfl 1 (by decide) (hts _ mT_227) (fun _ h9 => h9) rfl dX6_way_41 ?_
        refine lv_aload_n hx hb dX6_way_44 rfl (lv_at hl 0 rfl) ?_
        refine va_get (D := D) (ci := 6) (v := .ref wa) (C := RX6) (T := TX6) (N := 9) hx hb hts inT6 hown hK hP 0 rfl rfl 0 (by decide) (hts _ mT_226) (fun _ h9 => h9) rfl dX6_way_45 ?_
        obtain ⟨q48, h48, hf⟩ := bd_some hf
        refine kx_wvT (As := [.ref wa]) (rest := []) (ws := (cFF fa wa pta i0a i1a bka kna tra jda f ++ (cWeb cI wa w1 w2 w3 w4 w5 w6 w7 w8 w9 w ++ (cPst pta rr pt))) ++ cRing cI cR rr ra rg) (wn := (cFF fa wa pta i0a i1a bka kna tra jda f ++ (cWeb cI wa w1 w2 w3 w4 w5 w6 w7 w8 w9 w ++ (cPst pta rr q48.1))) ++ cRing cI cR rr ra q48.2) hx hb hml hown hts hk hP hD hS hA hl.1 s_yX3_remember v_yX3_remember (c_remember l D cI cZ cR pta rr wa w1 w2 w3 w4 w5 w6 w7 w8 w9 ra pt w rg s.heap.size _ h48) mT_440 rfl rfl ⟨Nat.le_of_ble_eq_true rfl, Nat.le_of_ble_eq_true rfl⟩ (pmU (T := cRing cI cR rr ra rg) (pmx (we := cFF fa wa pta i0a i1a bka kna tra jda f ++ (cWeb cI wa w1 w2 w3 w4 w5 w6 w7 w8 w9 w ++ (cPst pta rr pt))) (wx := (cPst pta rr pt ++ (cWeb cI wa w1 w2 w3 w4 w5 w6 w7 w8 w9 w)) ++ [(fa, .inr (6, [.ref wa, .ref pta, .ref i0a, .ref i1a, .ref bka, .ref kna, .ref tra, .ref jda, .int (f 0 0)]))]) 12 [11, 1, 2, 3, 4, 5, 6, 7, 8, 9, 10, 0] rfl (by decide +kernel) rfl)) (pmU' (T := cRing cI cR rr ra q48.2) (pmx (we := (cPst pta rr q48.1 ++ (cWeb cI wa w1 w2 w3 w4 w5 w6 w7 w8 w9 w)) ++ [(fa, .inr (6, [.ref wa, .ref pta, .ref i0a, .ref i1a, .ref bka, .ref kna, .ref tra, .ref jda, .int (f 0 0)]))]) (wx := cFF fa wa pta i0a i1a bka kna tra jda f ++ (cWeb cI wa w1 w2 w3 w4 w5 w6 w7 w8 w9 w ++ (cPst pta rr q48.1))) 12 [11, 1, 2, 3, 4, 5, 6, 7, 8, 9, 10, 0] rfl (by decide +kernel) rfl)) (ci := 3) (q0 := 0) rfl rfl rfl (Nat.le_of_ble_eq_true rfl) ⟨Nat.zero_le _, Nat.zero_le _⟩ dX6_way_48 (fun H locs hP hD hS => ?_)
        refine lv_aload_n hx hb dX6_way_51 rfl (lv_at hl 0 rfl) ?_
        refine va_get (D := D) (ci := 6) (v := .ref wa) (C := RX6) (T := TX6) (N := 9) hx hb hts inT6 hown hK hP 0 rfl rfl 0 (by decide) (hts _ mT_226) (fun _ h9 => h9) rfl dX6_way_52 ?_
        refine lv_iload_n hx hb dX6_way_55 rfl (lv_at hl 1 rfl) ?_
        refine lv_iload_n hx hb dX6_way_56 rfl (lv_at hl 2 rfl) ?_
        obtain ⟨q57, h57, hf⟩ := bd_some hf
        refine kx_wiT (As := [.int x, .int y]) (rest := []) (ws := (cFF fa wa pta i0a i1a bka kna tra jda f ++ (cWeb cI wa w1 w2 w3 w4 w5 w6 w7 w8 w9 w ++ (cPst pta rr q48.1))) ++ cRing cI cR rr ra q48.2) (wn := (cFF fa wa pta i0a i1a bka kna tra jda f ++ (cWeb cI wa w1 w2 w3 w4 w5 w6 w7 w8 w9 q57.2 ++ (cPst pta rr q48.1))) ++ cRing cI cR rr ra q48.2) hx hb hml hown hts hk hP hD hS hA hl.1 s_yX4_addWay v_yX4_addWay (c_addWay l D cI cZ cR wa w1 w2 w3 w4 w5 w6 w7 w8 w9 w x y H.size _ _ h57) mT_470 rfl rfl ⟨Nat.le_of_ble_eq_true rfl, Nat.le_of_ble_eq_true rfl⟩ (pmT (T := cRing cI cR rr ra q48.2) (pmx (we := cFF fa wa pta i0a i1a bka kna tra jda f ++ (cWeb cI wa w1 w2 w3 w4 w5 w6 w7 w8 w9 w ++ (cPst pta rr q48.1))) (wx := (cWeb cI wa w1 w2 w3 w4 w5 w6 w7 w8 w9 w) ++ [(fa, .inr (6, [.ref wa, .ref pta, .ref i0a, .ref i1a, .ref bka, .ref kna, .ref tra, .ref jda, .int (f 0 0)])), (pta, .inr (3, [.int (q48.1 0 0), .int (q48.1 0 1), .ref rr]))]) 12 [1, 2, 3, 4, 5, 6, 7, 8, 9, 10, 0, 11] rfl (by decide +kernel) rfl)) (pmT' (T := cRing cI cR rr ra q48.2) (pmx (we := (cWeb cI wa w1 w2 w3 w4 w5 w6 w7 w8 w9 q57.2) ++ [(fa, .inr (6, [.ref wa, .ref pta, .ref i0a, .ref i1a, .ref bka, .ref kna, .ref tra, .ref jda, .int (f 0 0)])), (pta, .inr (3, [.int (q48.1 0 0), .int (q48.1 0 1), .ref rr]))]) (wx := cFF fa wa pta i0a i1a bka kna tra jda f ++ (cWeb cI wa w1 w2 w3 w4 w5 w6 w7 w8 w9 q57.2 ++ (cPst pta rr q48.1))) 12 [10, 0, 1, 2, 3, 4, 5, 6, 7, 8, 9, 11] rfl (by decide +kernel) rfl)) (ci := 4) (q0 := 0) rfl rfl rfl (Nat.le_of_ble_eq_true rfl) ⟨Nat.zero_le _, Nat.zero_le _⟩ dX6_way_57 (fun H locs hP hD hS => ?_)
        exact hret _ _ _ (q57.2, q48.1, q48.2) _ _ hf dX6_way_60 hP hD hS
      · have hf := ite_f c34 hf
        refine lv_ldc (v := (-1000000004)) hx hb hown (hts _ mT_469) dX6_way_37 ?_
        exact hret _ _ _ (w, pt, rg) _ _ hf dX6_way_39 hP hD hS
    · have hf := ite_t c19 hf
      refine lv_ldc (v := (-1000000001)) hx hb hown (hts _ mT_388) dX6_way_22 ?_
      exact hret _ _ _ (w, pt, rg) _ _ hf dX6_way_24 hP hD hS
theorem s_yX6_drop : kMS yX6_drop cX6_drop 2 (some .int) 1 := ⟨mT_477, mT_51, by decide +kernel⟩
theorem v_yX6_drop : kMV yX6_drop := ⟨mT_475, mT_476⟩
def f_x_drop (f : Ob) (w : Ob) (pt : Ob) (rg : Nat → Ob) (x : Int32) : Option (Int32 × Ob × Ob × (Nat → Ob)) := bd (f_hasWay w x) (fun q5 => if q5 = 0 then (some ((-1000000001), w, pt, rg)) else (bd (f_remember pt w rg) (fun q22 => bd (f_removeWay w x) (fun q30 => some (q30 0 2, q30, q22.1, q22.2)))))
set_option maxHeartbeats 4000000 in
set_option maxRecDepth 100000 in
theorem c_x_drop (l : Launch) (D : va_G) (cI cZ cR : ClassId) (fa wa pta i0a i1a bka kna tra jda w1 w2 w3 w4 w5 w6 w7 w8 w9 rr : Nat) (ra : Nat → Nat → Nat) (f : Ob) (w : Ob) (pt : Ob) (rg : Nat → Ob) (x : Int32) (sz : Nat) (r : Int32) (u : Ob × Ob × (Nat → Ob)) (hf : f_x_drop f w pt rg x = some (r, u)) : kCi l yX6_drop cX6_drop 2 (some .int) { frames := 3, cells := 0, slots := 0, locals := 82 } [.ref fa, .int x] D cI cZ cR ((cFF fa wa pta i0a i1a bka kna tra jda f ++ (cWeb cI wa w1 w2 w3 w4 w5 w6 w7 w8 w9 w ++ (cPst pta rr pt))) ++ cRing cI cR rr ra rg) sz ((cFF fa wa pta i0a i1a bka kna tra jda f ++ (cWeb cI wa w1 w2 w3 w4 w5 w6 w7 w8 w9 u.1 ++ (cPst pta rr u.2.1))) ++ cRing cI cR rr ra u.2.2) r := by
  refine kMwi (wf := (fun u : Ob × Ob × (Nat → Ob) => (cFF fa wa pta i0a i1a bka kna tra jda f ++ (cWeb cI wa w1 w2 w3 w4 w5 w6 w7 w8 w9 u.1 ++ (cPst pta rr u.2.1))) ++ cRing cI cR rr ra u.2.2)) (u := u) (by decide) (Nat.le_of_ble_eq_true rfl) ?_
  intro p e s m below meth c Q A hx hb hml hown hts hk hP hD hA hS hret ls hl
  have hS0 := hS
  have hK := hk.1
  have hl : lv_has ls 2 [(0, .ref fa), (1, .int x)] := hl
  rw [f_x_drop] at hf
  refine lv_aload_n hx hb dX6_drop_0 rfl (lv_at hl 0 rfl) ?_
  refine va_get (D := D) (ci := 6) (v := .ref wa) (C := RX6) (T := TX6) (N := 9) hx hb hts inT6 hown hK hP 0 rfl rfl 0 (by decide) (hts _ mT_226) (fun _ h9 => h9) rfl dX6_drop_1 ?_
  refine lv_iload_n hx hb dX6_drop_4 rfl (lv_at hl 1 rfl) ?_
  obtain ⟨q5, h5, hf⟩ := bd_some hf
  refine kx_rv (As := [.int x]) (rest := []) hx hb hml hown hts hk (hP.sub (ws' := cWeb cI wa w1 w2 w3 w4 w5 w6 w7 w8 w9 w) [1, 2, 3, 4, 5, 6, 7, 8, 9, 10] rfl) hl.1 s_yX4_hasWay v_yX4_hasWay (c_hasWay l D cI cZ cR wa w1 w2 w3 w4 w5 w6 w7 w8 w9 w x _ h5) mT_415 rfl rfl ⟨Nat.le_of_ble_eq_true rfl, Nat.le_of_ble_eq_true rfl⟩ (ci := 4) (q0 := 0) rfl rfl rfl (Nat.le_of_ble_eq_true rfl) ⟨Nat.zero_le _, Nat.zero_le _⟩ dX6_drop_5 ?_
  refine lv_if_ne (tgt := 14) hx hb dX6_drop_8 (by decide) (fun c8 => ?_) (fun c8 => ?_)
  · have hf := ite_f c8 hf
    refine lv_aload_n hx hb dX6_drop_14 rfl (lv_at hl 0 rfl) ?_
    refine va_get (D := D) (ci := 6) (v := .ref pta) (C := RX6) (T := TX6) (N := 9) hx hb hts inT6 hown hK hP 0 rfl rfl 1 (by decide) (hts _ mT_227) (fun _ h9 => h9) rfl dX6_drop_15 ?_
    refine lv_aload_n hx hb dX6_drop_18 rfl (lv_at hl 0 rfl) ?_
    refine va_get (D := D) (ci := 6) (v := .ref wa) (C := RX6) (T := TX6) (N := 9) hx hb hts inT6 hown hK hP 0 rfl rfl 0 (by decide) (hts _ mT_226) (fun _ h9 => h9) rfl dX6_drop_19 ?_
    obtain ⟨q22, h22, hf⟩ := bd_some hf
    refine kx_wvT (As := [.ref wa]) (rest := []) (ws := (cFF fa wa pta i0a i1a bka kna tra jda f ++ (cWeb cI wa w1 w2 w3 w4 w5 w6 w7 w8 w9 w ++ (cPst pta rr pt))) ++ cRing cI cR rr ra rg) (wn := (cFF fa wa pta i0a i1a bka kna tra jda f ++ (cWeb cI wa w1 w2 w3 w4 w5 w6 w7 w8 w9 w ++ (cPst pta rr q22.1))) ++ cRing cI cR rr ra q22.2) hx hb hml hown hts hk hP hD hS hA hl.1 s_yX3_remember v_yX3_remember (c_remember l D cI cZ cR pta rr wa w1 w2 w3 w4 w5 w6 w7 w8 w9 ra pt w rg s.heap.size _ h22) mT_440 rfl rfl ⟨Nat.le_of_ble_eq_true rfl, Nat.le_of_ble_eq_true rfl⟩ (pmU (T := cRing cI cR rr ra rg) (pmx (we := cFF fa wa pta i0a i1a bka kna tra jda f ++ (cWeb cI wa w1 w2 w3 w4 w5 w6 w7 w8 w9 w ++ (cPst pta rr pt))) (wx := (cPst pta rr pt ++ (cWeb cI wa w1 w2 w3 w4 w5 w6 w7 w8 w9 w)) ++ [(fa, .inr (6, [.ref wa, .ref pta, .ref i0a, .ref i1a, .ref bka, .ref kna, .ref tra, .ref jda, .int (f 0 0)]))]) 12 [11, 1, 2, 3, 4, 5, 6, 7, 8, 9, 10, 0] rfl (by decide +kernel) rfl)) (pmU' (T := cRing cI cR rr ra q22.2) (pmx (we := (cPst pta rr q22.1 ++ (cWeb cI wa w1 w2 w3 w4 w5 w6 w7 w8 w9 w)) ++ [(fa, .inr (6, [.ref wa, .ref pta, .ref i0a, .ref i1a, .ref bka, .ref kna, .ref tra, .ref jda, .int (f 0 0)]))]) (wx := cFF fa wa pta i0a i1a bka kna tra jda f ++ (cWeb cI wa w1 w2 w3 w4 w5 w6 w7 w8 w9 w ++ (cPst pta rr q22.1))) 12 [11, 1, 2, 3, 4, 5, 6, 7, 8, 9, 10, 0] rfl (by decide +kernel) rfl)) (ci := 3) (q0 := 0) rfl rfl rfl (Nat.le_of_ble_eq_true rfl) ⟨Nat.zero_le _, Nat.zero_le _⟩ dX6_drop_22 (fun H locs hP hD hS => ?_)
    refine lv_aload_n hx hb dX6_drop_25 rfl (lv_at hl 0 rfl) ?_
    refine va_get (D := D) (ci := 6) (v := .ref wa) (C := RX6) (T := TX6) (N := 9) hx hb hts inT6 hown hK hP 0 rfl rfl 0 (by decide) (hts _ mT_226) (fun _ h9 => h9) rfl dX6_drop_26 ?_
    refine lv_iload_n hx hb dX6_drop_29 rfl (lv_at hl 1 rfl) ?_
    obtain ⟨q30, h30, hf⟩ := bd_some hf
    refine kx_wvT (As := [.int x]) (rest := []) (ws := (cFF fa wa pta i0a i1a bka kna tra jda f ++ (cWeb cI wa w1 w2 w3 w4 w5 w6 w7 w8 w9 w ++ (cPst pta rr q22.1))) ++ cRing cI cR rr ra q22.2) (wn := (cFF fa wa pta i0a i1a bka kna tra jda f ++ (cWeb cI wa w1 w2 w3 w4 w5 w6 w7 w8 w9 q30 ++ (cPst pta rr q22.1))) ++ cRing cI cR rr ra q22.2) hx hb hml hown hts hk hP hD hS hA hl.1 s_yX4_removeWay v_yX4_removeWay (c_removeWay l D cI cZ cR wa w1 w2 w3 w4 w5 w6 w7 w8 w9 w x H.size _ h30) mT_478 rfl rfl ⟨Nat.le_of_ble_eq_true rfl, Nat.le_of_ble_eq_true rfl⟩ (pmT (T := cRing cI cR rr ra q22.2) (pmx (we := cFF fa wa pta i0a i1a bka kna tra jda f ++ (cWeb cI wa w1 w2 w3 w4 w5 w6 w7 w8 w9 w ++ (cPst pta rr q22.1))) (wx := (cWeb cI wa w1 w2 w3 w4 w5 w6 w7 w8 w9 w) ++ [(fa, .inr (6, [.ref wa, .ref pta, .ref i0a, .ref i1a, .ref bka, .ref kna, .ref tra, .ref jda, .int (f 0 0)])), (pta, .inr (3, [.int (q22.1 0 0), .int (q22.1 0 1), .ref rr]))]) 12 [1, 2, 3, 4, 5, 6, 7, 8, 9, 10, 0, 11] rfl (by decide +kernel) rfl)) (pmT' (T := cRing cI cR rr ra q22.2) (pmx (we := (cWeb cI wa w1 w2 w3 w4 w5 w6 w7 w8 w9 q30) ++ [(fa, .inr (6, [.ref wa, .ref pta, .ref i0a, .ref i1a, .ref bka, .ref kna, .ref tra, .ref jda, .int (f 0 0)])), (pta, .inr (3, [.int (q22.1 0 0), .int (q22.1 0 1), .ref rr]))]) (wx := cFF fa wa pta i0a i1a bka kna tra jda f ++ (cWeb cI wa w1 w2 w3 w4 w5 w6 w7 w8 w9 q30 ++ (cPst pta rr q22.1))) 12 [10, 0, 1, 2, 3, 4, 5, 6, 7, 8, 9, 11] rfl (by decide +kernel) rfl)) (ci := 4) (q0 := 0) rfl rfl rfl (Nat.le_of_ble_eq_true rfl) ⟨Nat.zero_le _, Nat.zero_le _⟩ dX6_drop_30 (fun H locs hP hD hS => ?_)
    refine lv_aload_n hx hb dX6_drop_33 rfl (lv_at hl 0 rfl) ?_
    refine va_get (D := D) (ci := 6) (v := .ref wa) (C := RX6) (T := TX6) (N := 9) hx hb hts inT6 hown hK hP 0 rfl rfl 0 (by decide) (hts _ mT_226) (fun _ h9 => h9) rfl dX6_drop_34 ?_
    refine va_get (D := D) (ci := 4) (v := .int (q30 0 2)) (C := RX4) (T := TX4) (N := 12) hx hb hts inT4 hown hK hP 1 rfl rfl 2 (by decide) (hts _ mT_82) (fun _ h9 => h9) rfl dX6_drop_37 ?_
    exact hret _ _ _ (q30, q22.1, q22.2) _ _ hf dX6_drop_40 hP hD hS
  · have hf := ite_t c8 hf
    refine lv_ldc (v := (-1000000001)) hx hb hown (hts _ mT_388) dX6_drop_11 ?_
    exact hret _ _ _ (w, pt, rg) _ _ hf dX6_drop_13 hP hD hS
theorem s_yX6_map : kMS yX6_map cX6_map 6 (some .int) 3 := ⟨mT_485, mT_51, by decide +kernel⟩
theorem v_yX6_map : kMV yX6_map := ⟨mT_483, mT_484⟩
def f_x_map (f : Ob) (w : Ob) (pt : Ob) (rg : Nat → Ob) (x : Int32) (y : Int32) (v : Int32) : Option (Int32 × Ob × Ob × (Nat → Ob)) := bd (f_hasWay w x) (fun q5 => if q5 = 0 then (some ((-1000000001), w, pt, rg)) else (bd (f_hasValue w y) (fun q16 => if q16 = 0 then (some ((-1000000001), w, pt, rg)) else (bd (f_hasValue w v) (fun q27 => if q27 = 0 then (some ((-1000000001), w, pt, rg)) else (bd (f_remember pt w rg) (fun q44 => gd (ck ((x * 8) + y) 160) (gd (ck ((x * 8) + y) 160) (some ((w 6) (Int32.toNatClampNeg ((x * 8) + y)), sA w 6 (upd (w 6) (Int32.toNatClampNeg ((x * 8) + y)) v), q44.1, q44.2))))))))))
set_option maxHeartbeats 4000000 in
set_option maxRecDepth 100000 in
theorem c_x_map (l : Launch) (D : va_G) (cI cZ cR : ClassId) (fa wa pta i0a i1a bka kna tra jda w1 w2 w3 w4 w5 w6 w7 w8 w9 rr : Nat) (ra : Nat → Nat → Nat) (f : Ob) (w : Ob) (pt : Ob) (rg : Nat → Ob) (x : Int32) (y : Int32) (v : Int32) (sz : Nat) (r : Int32) (u : Ob × Ob × (Nat → Ob)) (hf : f_x_map f w pt rg x y v = some (r, u)) : kCi l yX6_map cX6_map 6 (some .int) { frames := 3, cells := 0, slots := 0, locals := 82 } [.ref fa, .int x, .int y, .int v] D cI cZ cR ((cFF fa wa pta i0a i1a bka kna tra jda f ++ (cWeb cI wa w1 w2 w3 w4 w5 w6 w7 w8 w9 w ++ (cPst pta rr pt))) ++ cRing cI cR rr ra rg) sz ((cFF fa wa pta i0a i1a bka kna tra jda f ++ (cWeb cI wa w1 w2 w3 w4 w5 w6 w7 w8 w9 u.1 ++ (cPst pta rr u.2.1))) ++ cRing cI cR rr ra u.2.2) r := by
  refine kMwi (wf := (fun u : Ob × Ob × (Nat → Ob) => (cFF fa wa pta i0a i1a bka kna tra jda f ++ (cWeb cI wa w1 w2 w3 w4 w5 w6 w7 w8 w9 u.1 ++ (cPst pta rr u.2.1))) ++ cRing cI cR rr ra u.2.2)) (u := u) (by decide) (Nat.le_of_ble_eq_true rfl) ?_
  intro p e s m below meth c Q A hx hb hml hown hts hk hP hD hA hS hret ls hl
  have hS0 := hS
  have hK := hk.1
  have hl : lv_has ls 6 [(0, .ref fa), (1, .int x), (2, .int y), (3, .int v)] := hl
  rw [f_x_map] at hf
  refine lv_aload_n hx hb dX6_map_0 rfl (lv_at hl 0 rfl) ?_
  refine va_get (D := D) (ci := 6) (v := .ref wa) (C := RX6) (T := TX6) (N := 9) hx hb hts inT6 hown hK hP 0 rfl rfl 0 (by decide) (hts _ mT_226) (fun _ h9 => h9) rfl dX6_map_1 ?_
  refine lv_iload_n hx hb dX6_map_4 rfl (lv_at hl 1 rfl) ?_
  obtain ⟨q5, h5, hf⟩ := bd_some hf
  refine kx_rv (As := [.int x]) (rest := []) hx hb hml hown hts hk (hP.sub (ws' := cWeb cI wa w1 w2 w3 w4 w5 w6 w7 w8 w9 w) [1, 2, 3, 4, 5, 6, 7, 8, 9, 10] rfl) hl.1 s_yX4_hasWay v_yX4_hasWay (c_hasWay l D cI cZ cR wa w1 w2 w3 w4 w5 w6 w7 w8 w9 w x _ h5) mT_415 rfl rfl ⟨Nat.le_of_ble_eq_true rfl, Nat.le_of_ble_eq_true rfl⟩ (ci := 4) (q0 := 0) rfl rfl rfl (Nat.le_of_ble_eq_true rfl) ⟨Nat.zero_le _, Nat.zero_le _⟩ dX6_map_5 ?_
  refine lv_if_eq (tgt := 33) hx hb dX6_map_8 (by decide) (fun c8 => ?_) (fun c8 => ?_)
  · have hf := ite_t c8 hf
    refine lv_ldc (v := (-1000000001)) hx hb hown (hts _ mT_388) dX6_map_33 ?_
    exact hret _ _ _ (w, pt, rg) _ _ hf dX6_map_35 hP hD hS
  · have hf := ite_f c8 hf
    refine lv_aload_n hx hb dX6_map_11 rfl (lv_at hl 0 rfl) ?_
    refine va_get (D := D) (ci := 6) (v := .ref wa) (C := RX6) (T := TX6) (N := 9) hx hb hts inT6 hown hK hP 0 rfl rfl 0 (by decide) (hts _ mT_226) (fun _ h9 => h9) rfl dX6_map_12 ?_
    refine lv_iload_n hx hb dX6_map_15 rfl (lv_at hl 2 rfl) ?_
    obtain ⟨q16, h16, hf⟩ := bd_some hf
    refine kx_rv (As := [.int y]) (rest := []) hx hb hml hown hts hk (hP.sub (ws' := cWeb cI wa w1 w2 w3 w4 w5 w6 w7 w8 w9 w) [1, 2, 3, 4, 5, 6, 7, 8, 9, 10] rfl) hl.1 s_yX4_hasValue v_yX4_hasValue (c_hasValue l D cI cZ cR wa w1 w2 w3 w4 w5 w6 w7 w8 w9 w y _ h16) mT_384 rfl rfl ⟨Nat.le_of_ble_eq_true rfl, Nat.le_of_ble_eq_true rfl⟩ (ci := 4) (q0 := 0) rfl rfl rfl (Nat.le_of_ble_eq_true rfl) ⟨Nat.zero_le _, Nat.zero_le _⟩ dX6_map_16 ?_
    refine lv_if_eq (tgt := 33) hx hb dX6_map_19 (by decide) (fun c19 => ?_) (fun c19 => ?_)
    · have hf := ite_t c19 hf
      refine lv_ldc (v := (-1000000001)) hx hb hown (hts _ mT_388) dX6_map_33 ?_
      exact hret _ _ _ (w, pt, rg) _ _ hf dX6_map_35 hP hD hS
    · have hf := ite_f c19 hf
      refine lv_aload_n hx hb dX6_map_22 rfl (lv_at hl 0 rfl) ?_
      refine va_get (D := D) (ci := 6) (v := .ref wa) (C := RX6) (T := TX6) (N := 9) hx hb hts inT6 hown hK hP 0 rfl rfl 0 (by decide) (hts _ mT_226) (fun _ h9 => h9) rfl dX6_map_23 ?_
      refine lv_iload_n hx hb dX6_map_26 rfl (lv_at hl 3 rfl) ?_
      obtain ⟨q27, h27, hf⟩ := bd_some hf
      refine kx_rv (As := [.int v]) (rest := []) hx hb hml hown hts hk (hP.sub (ws' := cWeb cI wa w1 w2 w3 w4 w5 w6 w7 w8 w9 w) [1, 2, 3, 4, 5, 6, 7, 8, 9, 10] rfl) hl.1 s_yX4_hasValue v_yX4_hasValue (c_hasValue l D cI cZ cR wa w1 w2 w3 w4 w5 w6 w7 w8 w9 w v _ h27) mT_384 rfl rfl ⟨Nat.le_of_ble_eq_true rfl, Nat.le_of_ble_eq_true rfl⟩ (ci := 4) (q0 := 0) rfl rfl rfl (Nat.le_of_ble_eq_true rfl) ⟨Nat.zero_le _, Nat.zero_le _⟩ dX6_map_27 ?_
      refine lv_if_ne (tgt := 36) hx hb dX6_map_30 (by decide) (fun c30 => ?_) (fun c30 => ?_)
      · have hf := ite_f c30 hf
        refine lv_aload_n hx hb dX6_map_36 rfl (lv_at hl 0 rfl) ?_
        refine va_get (D := D) (ci := 6) (v := .ref pta) (C := RX6) (T := TX6) (N := 9) hx hb hts inT6 hown hK hP 0 rfl rfl 1 (by decide) (hts _ mT_227) (fun _ h9 => h9) rfl dX6_map_37 ?_
        refine lv_aload_n hx hb dX6_map_40 rfl (lv_at hl 0 rfl) ?_
        refine va_get (D := D) (ci := 6) (v := .ref wa) (C := RX6) (T := TX6) (N := 9) hx hb hts inT6 hown hK hP 0 rfl rfl 0 (by decide) (hts _ mT_226) (fun _ h9 => h9) rfl dX6_map_41 ?_
        obtain ⟨q44, h44, hf⟩ := bd_some hf
        refine kx_wvT (As := [.ref wa]) (rest := []) (ws := (cFF fa wa pta i0a i1a bka kna tra jda f ++ (cWeb cI wa w1 w2 w3 w4 w5 w6 w7 w8 w9 w ++ (cPst pta rr pt))) ++ cRing cI cR rr ra rg) (wn := (cFF fa wa pta i0a i1a bka kna tra jda f ++ (cWeb cI wa w1 w2 w3 w4 w5 w6 w7 w8 w9 w ++ (cPst pta rr q44.1))) ++ cRing cI cR rr ra q44.2) hx hb hml hown hts hk hP hD hS hA hl.1 s_yX3_remember v_yX3_remember (c_remember l D cI cZ cR pta rr wa w1 w2 w3 w4 w5 w6 w7 w8 w9 ra pt w rg s.heap.size _ h44) mT_440 rfl rfl ⟨Nat.le_of_ble_eq_true rfl, Nat.le_of_ble_eq_true rfl⟩ (pmU (T := cRing cI cR rr ra rg) (pmx (we := cFF fa wa pta i0a i1a bka kna tra jda f ++ (cWeb cI wa w1 w2 w3 w4 w5 w6 w7 w8 w9 w ++ (cPst pta rr pt))) (wx := (cPst pta rr pt ++ (cWeb cI wa w1 w2 w3 w4 w5 w6 w7 w8 w9 w)) ++ [(fa, .inr (6, [.ref wa, .ref pta, .ref i0a, .ref i1a, .ref bka, .ref kna, .ref tra, .ref jda, .int (f 0 0)]))]) 12 [11, 1, 2, 3, 4, 5, 6, 7, 8, 9, 10, 0] rfl (by decide +kernel) rfl)) (pmU' (T := cRing cI cR rr ra q44.2) (pmx (we := (cPst pta rr q44.1 ++ (cWeb cI wa w1 w2 w3 w4 w5 w6 w7 w8 w9 w)) ++ [(fa, .inr (6, [.ref wa, .ref pta, .ref i0a, .ref i1a, .ref bka, .ref kna, .ref tra, .ref jda, .int (f 0 0)]))]) (wx := cFF fa wa pta i0a i1a bka kna tra jda f ++ (cWeb cI wa w1 w2 w3 w4 w5 w6 w7 w8 w9 w ++ (cPst pta rr q44.1))) 12 [11, 1, 2, 3, 4, 5, 6, 7, 8, 9, 10, 0] rfl (by decide +kernel) rfl)) (ci := 3) (q0 := 0) rfl rfl rfl (Nat.le_of_ble_eq_true rfl) ⟨Nat.zero_le _, Nat.zero_le _⟩ dX6_map_44 (fun H locs hP hD hS => ?_)
        refine lv_iload_n hx hb dX6_map_47 rfl (lv_at hl 1 rfl) ?_
        refine lv_bipush (v := 8) hx hb dX6_map_48 (by decide) ?_
        refine lv_imul hx hb dX6_map_50 ?_
        refine lv_iload_n hx hb dX6_map_51 rfl (lv_at hl 2 rfl) ?_
        refine lv_iadd hx hb dX6_map_52 ?_
        refine lv_istore (lv' := [(4, .int ((x * 8) + y)), (0, .ref fa), (1, .int x), (2, .int y), (3, .int v)]) hx hb dX6_map_53 hl (by decide) rfl (fun ls hl => ?_)
        refine lv_aload_n hx hb dX6_map_55 rfl (lv_at hl 1 rfl) ?_
        refine va_get (D := D) (ci := 6) (v := .ref wa) (C := RX6) (T := TX6) (N := 9) hx hb hts inT6 hown hK hP 0 rfl rfl 0 (by decide) (hts _ mT_226) (fun _ h9 => h9) rfl dX6_map_56 ?_
        refine va_get (D := D) (ci := 4) (v := .ref w6) (C := RX4) (T := TX4) (N := 12) hx hb hts inT4 hown hK hP 1 rfl rfl 8 (by decide) (hts _ mT_98) (fun _ h9 => h9) rfl dX6_map_59 ?_
        refine lv_iload hx hb dX6_map_62 (lv_at hl 0 rfl) ?_
        obtain ⟨b64, hf⟩ := gd_some hf
        refine va_iald (n := 160) (f := w 6) hx hb hK hP 7 0 rfl rfl (ck_in b64) dX6_map_64 ?_
        refine lv_istore (lv' := [(5, .int ((w 6) (Int32.toNatClampNeg ((x * 8) + y)))), (4, .int ((x * 8) + y)), (0, .ref fa), (1, .int x), (2, .int y), (3, .int v)]) hx hb dX6_map_65 hl (by decide) rfl (fun ls hl => ?_)
        refine lv_aload_n hx hb dX6_map_67 rfl (lv_at hl 2 rfl) ?_
        refine va_get (D := D) (ci := 6) (v := .ref wa) (C := RX6) (T := TX6) (N := 9) hx hb hts inT6 hown hK hP 0 rfl rfl 0 (by decide) (hts _ mT_226) (fun _ h9 => h9) rfl dX6_map_68 ?_
        refine va_get (D := D) (ci := 4) (v := .ref w6) (C := RX4) (T := TX4) (N := 12) hx hb hts inT4 hown hK hP 1 rfl rfl 8 (by decide) (hts _ mT_98) (fun _ h9 => h9) rfl dX6_map_71 ?_
        refine lv_iload hx hb dX6_map_74 (lv_at hl 1 rfl) ?_
        refine lv_iload_n hx hb dX6_map_76 rfl (lv_at hl 5 rfl) ?_
        obtain ⟨b77, hf⟩ := gd_some hf
        refine va_iast (n := 160) (f := w 6) hx hb hK hP hD hS 7 0 rfl rfl (ck_in b77) dX6_map_77 (fun H locs hP hD hS => ?_)
        have hP : va_P D vwCl ((cFF fa wa pta i0a i1a bka kna tra jda f ++ ([(wa, .inr (4, [.int (w 0 0), .int (w 0 1), .int (w 0 2), .ref w1, .ref w2, .ref w3, .ref w4, .ref w5, .ref w6, .ref w7, .ref w8, .ref w9])), (w1, .inl (cI, 64, .inl (w 1))), (w2, .inl (cI, 10, .inl (w 2))), (w3, .inl (cI, 10, .inl (w 3))), (w4, .inl (cI, 20, .inl (w 4))), (w5, .inl (cI, 20, .inl (w 5))), (w6, .inl (cI, 160, .inl (upd (w 6) (Int32.toNatClampNeg ((x * 8) + y)) v))), (w7, .inl (cI, 20, .inl (w 7))), (w8, .inl (cI, 20, .inl (w 8))), (w9, .inl (cI, 20, .inl (w 9)))] ++ (cPst pta rr q44.1))) ++ cRing cI cR rr ra q44.2) H := hP
        have hD : va_D A ((cFF fa wa pta i0a i1a bka kna tra jda f ++ ([(wa, .inr (4, [.int (w 0 0), .int (w 0 1), .int (w 0 2), .ref w1, .ref w2, .ref w3, .ref w4, .ref w5, .ref w6, .ref w7, .ref w8, .ref w9])), (w1, .inl (cI, 64, .inl (w 1))), (w2, .inl (cI, 10, .inl (w 2))), (w3, .inl (cI, 10, .inl (w 3))), (w4, .inl (cI, 20, .inl (w 4))), (w5, .inl (cI, 20, .inl (w 5))), (w6, .inl (cI, 160, .inl (upd (w 6) (Int32.toNatClampNeg ((x * 8) + y)) v))), (w7, .inl (cI, 20, .inl (w 7))), (w8, .inl (cI, 20, .inl (w 8))), (w9, .inl (cI, 20, .inl (w 9)))] ++ (cPst pta rr q44.1))) ++ cRing cI cR rr ra q44.2) := hD
        refine lv_iload hx hb dX6_map_78 (lv_at hl 0 rfl) ?_
        exact hret _ _ _ (sA w 6 (upd (w 6) (Int32.toNatClampNeg ((x * 8) + y)) v), q44.1, q44.2) _ _ hf dX6_map_80 hP hD hS
      · have hf := ite_t c30 hf
        refine lv_ldc (v := (-1000000001)) hx hb hown (hts _ mT_388) dX6_map_33 ?_
        exact hret _ _ _ (w, pt, rg) _ _ hf dX6_map_35 hP hD hS
theorem s_yX6_marks : kMS yX6_marks cX6_marks 4 (some .int) 3 := ⟨mT_489, mT_51, by decide +kernel⟩
theorem v_yX6_marks : kMV yX6_marks := ⟨mT_487, mT_488⟩
def f_x_marks (f : Ob) (w : Ob) (pt : Ob) (rg : Nat → Ob) (x : Int32) (y : Int32) (v : Int32) : Option (Int32 × Ob × Ob × (Nat → Ob)) := bd (f_hasWay w x) (fun q5 => if q5 = 0 then (some ((-1000000001), w, pt, rg)) else (bd (f_isSet y) (fun q15 => if q15 = 0 then (some ((-1000000002), w, pt, rg)) else (bd (f_isSet v) (fun q22 => if q22 = 0 then (some ((-1000000002), w, pt, rg)) else (bd (f_remember pt w rg) (fun q39 => gd (ck x 20) (gd (ck x 20) (some (1, sA (sA w 7 (upd (w 7) (Int32.toNatClampNeg x) y)) 8 (upd (w 8) (Int32.toNatClampNeg x) v), q39.1, q39.2))))))))))
set_option maxHeartbeats 4000000 in
set_option maxRecDepth 100000 in
theorem c_x_marks (l : Launch) (D : va_G) (cI cZ cR : ClassId) (fa wa pta i0a i1a bka kna tra jda w1 w2 w3 w4 w5 w6 w7 w8 w9 rr : Nat) (ra : Nat → Nat → Nat) (f : Ob) (w : Ob) (pt : Ob) (rg : Nat → Ob) (x : Int32) (y : Int32) (v : Int32) (sz : Nat) (r : Int32) (u : Ob × Ob × (Nat → Ob)) (hf : f_x_marks f w pt rg x y v = some (r, u)) : kCi l yX6_marks cX6_marks 4 (some .int) { frames := 3, cells := 0, slots := 0, locals := 82 } [.ref fa, .int x, .int y, .int v] D cI cZ cR ((cFF fa wa pta i0a i1a bka kna tra jda f ++ (cWeb cI wa w1 w2 w3 w4 w5 w6 w7 w8 w9 w ++ (cPst pta rr pt))) ++ cRing cI cR rr ra rg) sz ((cFF fa wa pta i0a i1a bka kna tra jda f ++ (cWeb cI wa w1 w2 w3 w4 w5 w6 w7 w8 w9 u.1 ++ (cPst pta rr u.2.1))) ++ cRing cI cR rr ra u.2.2) r := by
  refine kMwi (wf := (fun u : Ob × Ob × (Nat → Ob) => (cFF fa wa pta i0a i1a bka kna tra jda f ++ (cWeb cI wa w1 w2 w3 w4 w5 w6 w7 w8 w9 u.1 ++ (cPst pta rr u.2.1))) ++ cRing cI cR rr ra u.2.2)) (u := u) (by decide) (Nat.le_of_ble_eq_true rfl) ?_
  intro p e s m below meth c Q A hx hb hml hown hts hk hP hD hA hS hret ls hl
  have hS0 := hS
  have hK := hk.1
  have hl : lv_has ls 4 [(0, .ref fa), (1, .int x), (2, .int y), (3, .int v)] := hl
  rw [f_x_marks] at hf
  refine lv_aload_n hx hb dX6_marks_0 rfl (lv_at hl 0 rfl) ?_
  refine va_get (D := D) (ci := 6) (v := .ref wa) (C := RX6) (T := TX6) (N := 9) hx hb hts inT6 hown hK hP 0 rfl rfl 0 (by decide) (hts _ mT_226) (fun _ h9 => h9) rfl dX6_marks_1 ?_
  refine lv_iload_n hx hb dX6_marks_4 rfl (lv_at hl 1 rfl) ?_
  obtain ⟨q5, h5, hf⟩ := bd_some hf
  refine kx_rv (As := [.int x]) (rest := []) hx hb hml hown hts hk (hP.sub (ws' := cWeb cI wa w1 w2 w3 w4 w5 w6 w7 w8 w9 w) [1, 2, 3, 4, 5, 6, 7, 8, 9, 10] rfl) hl.1 s_yX4_hasWay v_yX4_hasWay (c_hasWay l D cI cZ cR wa w1 w2 w3 w4 w5 w6 w7 w8 w9 w x _ h5) mT_415 rfl rfl ⟨Nat.le_of_ble_eq_true rfl, Nat.le_of_ble_eq_true rfl⟩ (ci := 4) (q0 := 0) rfl rfl rfl (Nat.le_of_ble_eq_true rfl) ⟨Nat.zero_le _, Nat.zero_le _⟩ dX6_marks_5 ?_
  refine lv_if_ne (tgt := 14) hx hb dX6_marks_8 (by decide) (fun c8 => ?_) (fun c8 => ?_)
  · have hf := ite_f c8 hf
    refine lv_iload_n hx hb dX6_marks_14 rfl (lv_at hl 2 rfl) ?_
    obtain ⟨q15, h15, hf⟩ := bd_some hf
    refine kx_rs (As := [.int y]) (rest := []) hx hb hml hown hts hk hl.1 s_yX6_isSet mT_463 (c_isSet l D cI cZ cR y _ h15) mT_462 rfl rfl ⟨Nat.le_of_ble_eq_true rfl, Nat.le_of_ble_eq_true rfl⟩ rfl (Nat.le_of_ble_eq_true rfl) ⟨Nat.zero_le _, Nat.zero_le _⟩ dX6_marks_15 ?_
    refine lv_if_eq (tgt := 28) hx hb dX6_marks_18 (by decide) (fun c18 => ?_) (fun c18 => ?_)
    · have hf := ite_t c18 hf
      refine lv_ldc (v := (-1000000002)) hx hb hown (hts _ mT_379) dX6_marks_28 ?_
      exact hret _ _ _ (w, pt, rg) _ _ hf dX6_marks_30 hP hD hS
    · have hf := ite_f c18 hf
      refine lv_iload_n hx hb dX6_marks_21 rfl (lv_at hl 3 rfl) ?_
      obtain ⟨q22, h22, hf⟩ := bd_some hf
      refine kx_rs (As := [.int v]) (rest := []) hx hb hml hown hts hk hl.1 s_yX6_isSet mT_463 (c_isSet l D cI cZ cR v _ h22) mT_462 rfl rfl ⟨Nat.le_of_ble_eq_true rfl, Nat.le_of_ble_eq_true rfl⟩ rfl (Nat.le_of_ble_eq_true rfl) ⟨Nat.zero_le _, Nat.zero_le _⟩ dX6_marks_22 ?_
      refine lv_if_ne (tgt := 31) hx hb dX6_marks_25 (by decide) (fun c25 => ?_) (fun c25 => ?_)
      · have hf := ite_f c25 hf
        refine lv_aload_n hx hb dX6_marks_31 rfl (lv_at hl 0 rfl) ?_
        refine va_get (D := D) (ci := 6) (v := .ref pta) (C := RX6) (T := TX6) (N := 9) hx hb hts inT6 hown hK hP 0 rfl rfl 1 (by decide) (hts _ mT_227) (fun _ h9 => h9) rfl dX6_marks_32 ?_
        refine lv_aload_n hx hb dX6_marks_35 rfl (lv_at hl 0 rfl) ?_
        refine va_get (D := D) (ci := 6) (v := .ref wa) (C := RX6) (T := TX6) (N := 9) hx hb hts inT6 hown hK hP 0 rfl rfl 0 (by decide) (hts _ mT_226) (fun _ h9 => h9) rfl dX6_marks_36 ?_
        obtain ⟨q39, h39, hf⟩ := bd_some hf
        refine kx_wvT (As := [.ref wa]) (rest := []) (ws := (cFF fa wa pta i0a i1a bka kna tra jda f ++ (cWeb cI wa w1 w2 w3 w4 w5 w6 w7 w8 w9 w ++ (cPst pta rr pt))) ++ cRing cI cR rr ra rg) (wn := (cFF fa wa pta i0a i1a bka kna tra jda f ++ (cWeb cI wa w1 w2 w3 w4 w5 w6 w7 w8 w9 w ++ (cPst pta rr q39.1))) ++ cRing cI cR rr ra q39.2) hx hb hml hown hts hk hP hD hS hA hl.1 s_yX3_remember v_yX3_remember (c_remember l D cI cZ cR pta rr wa w1 w2 w3 w4 w5 w6 w7 w8 w9 ra pt w rg s.heap.size _ h39) mT_440 rfl rfl ⟨Nat.le_of_ble_eq_true rfl, Nat.le_of_ble_eq_true rfl⟩ (pmU (T := cRing cI cR rr ra rg) (pmx (we := cFF fa wa pta i0a i1a bka kna tra jda f ++ (cWeb cI wa w1 w2 w3 w4 w5 w6 w7 w8 w9 w ++ (cPst pta rr pt))) (wx := (cPst pta rr pt ++ (cWeb cI wa w1 w2 w3 w4 w5 w6 w7 w8 w9 w)) ++ [(fa, .inr (6, [.ref wa, .ref pta, .ref i0a, .ref i1a, .ref bka, .ref kna, .ref tra, .ref jda, .int (f 0 0)]))]) 12 [11, 1, 2, 3, 4, 5, 6, 7, 8, 9, 10, 0] rfl (by decide +kernel) rfl)) (pmU' (T := cRing cI cR rr ra q39.2) (pmx (we := (cPst pta rr q39.1 ++ (cWeb cI wa w1 w2 w3 w4 w5 w6 w7 w8 w9 w)) ++ [(fa, .inr (6, [.ref wa, .ref pta, .ref i0a, .ref i1a, .ref bka, .ref kna, .ref tra, .ref jda, .int (f 0 0)]))]) (wx := cFF fa wa pta i0a i1a bka kna tra jda f ++ (cWeb cI wa w1 w2 w3 w4 w5 w6 w7 w8 w9 w ++ (cPst pta rr q39.1))) 12 [11, 1, 2, 3, 4, 5, 6, 7, 8, 9, 10, 0] rfl (by decide +kernel) rfl)) (ci := 3) (q0 := 0) rfl rfl rfl (Nat.le_of_ble_eq_true rfl) ⟨Nat.zero_le _, Nat.zero_le _⟩ dX6_marks_39 (fun H locs hP hD hS => ?_)
        refine lv_aload_n hx hb dX6_marks_42 rfl (lv_at hl 0 rfl) ?_
        refine va_get (D := D) (ci := 6) (v := .ref wa) (C := RX6) (T := TX6) (N := 9) hx hb hts inT6 hown hK hP 0 rfl rfl 0 (by decide) (hts _ mT_226) (fun _ h9 => h9) rfl dX6_marks_43 ?_
        refine va_get (D := D) (ci := 4) (v := .ref w7) (C := RX4) (T := TX4) (N := 12) hx hb hts inT4 hown hK hP 1 rfl rfl 9 (by decide) (hts _ mT_100) (fun _ h9 => h9) rfl dX6_marks_46 ?_
        refine lv_iload_n hx hb dX6_marks_49 rfl (lv_at hl 1 rfl) ?_
        refine lv_iload_n hx hb dX6_marks_50 rfl (lv_at hl 2 rfl) ?_
        obtain ⟨b51, hf⟩ := gd_some hf
        refine va_iast (n := 20) (f := w 7) hx hb hK hP hD hS 8 0 rfl rfl (ck_in b51) dX6_marks_51 (fun H locs hP hD hS => ?_)
        have hP : va_P D vwCl ((cFF fa wa pta i0a i1a bka kna tra jda f ++ ([(wa, .inr (4, [.int (w 0 0), .int (w 0 1), .int (w 0 2), .ref w1, .ref w2, .ref w3, .ref w4, .ref w5, .ref w6, .ref w7, .ref w8, .ref w9])), (w1, .inl (cI, 64, .inl (w 1))), (w2, .inl (cI, 10, .inl (w 2))), (w3, .inl (cI, 10, .inl (w 3))), (w4, .inl (cI, 20, .inl (w 4))), (w5, .inl (cI, 20, .inl (w 5))), (w6, .inl (cI, 160, .inl (w 6))), (w7, .inl (cI, 20, .inl (upd (w 7) (Int32.toNatClampNeg x) y))), (w8, .inl (cI, 20, .inl (w 8))), (w9, .inl (cI, 20, .inl (w 9)))] ++ (cPst pta rr q39.1))) ++ cRing cI cR rr ra q39.2) H := hP
        have hD : va_D A ((cFF fa wa pta i0a i1a bka kna tra jda f ++ ([(wa, .inr (4, [.int (w 0 0), .int (w 0 1), .int (w 0 2), .ref w1, .ref w2, .ref w3, .ref w4, .ref w5, .ref w6, .ref w7, .ref w8, .ref w9])), (w1, .inl (cI, 64, .inl (w 1))), (w2, .inl (cI, 10, .inl (w 2))), (w3, .inl (cI, 10, .inl (w 3))), (w4, .inl (cI, 20, .inl (w 4))), (w5, .inl (cI, 20, .inl (w 5))), (w6, .inl (cI, 160, .inl (w 6))), (w7, .inl (cI, 20, .inl (upd (w 7) (Int32.toNatClampNeg x) y))), (w8, .inl (cI, 20, .inl (w 8))), (w9, .inl (cI, 20, .inl (w 9)))] ++ (cPst pta rr q39.1))) ++ cRing cI cR rr ra q39.2) := hD
        refine lv_aload_n hx hb dX6_marks_52 rfl (lv_at hl 0 rfl) ?_
        refine va_get (D := D) (ci := 6) (v := .ref wa) (C := RX6) (T := TX6) (N := 9) hx hb hts inT6 hown hK hP 0 rfl rfl 0 (by decide) (hts _ mT_226) (fun _ h9 => h9) rfl dX6_marks_53 ?_
        refine va_get (D := D) (ci := 4) (v := .ref w8) (C := RX4) (T := TX4) (N := 12) hx hb hts inT4 hown hK hP 1 rfl rfl 10 (by decide) (hts _ mT_102) (fun _ h9 => h9) rfl dX6_marks_56 ?_
        refine lv_iload_n hx hb dX6_marks_59 rfl (lv_at hl 1 rfl) ?_
        refine lv_iload_n hx hb dX6_marks_60 rfl (lv_at hl 3 rfl) ?_
        obtain ⟨b61, hf⟩ := gd_some hf
        refine va_iast (n := 20) (f := w 8) hx hb hK hP hD hS 9 0 rfl rfl (ck_in b61) dX6_marks_61 (fun H locs hP hD hS => ?_)
        have hP : va_P D vwCl ((cFF fa wa pta i0a i1a bka kna tra jda f ++ ([(wa, .inr (4, [.int (w 0 0), .int (w 0 1), .int (w 0 2), .ref w1, .ref w2, .ref w3, .ref w4, .ref w5, .ref w6, .ref w7, .ref w8, .ref w9])), (w1, .inl (cI, 64, .inl (w 1))), (w2, .inl (cI, 10, .inl (w 2))), (w3, .inl (cI, 10, .inl (w 3))), (w4, .inl (cI, 20, .inl (w 4))), (w5, .inl (cI, 20, .inl (w 5))), (w6, .inl (cI, 160, .inl (w 6))), (w7, .inl (cI, 20, .inl (upd (w 7) (Int32.toNatClampNeg x) y))), (w8, .inl (cI, 20, .inl (upd (w 8) (Int32.toNatClampNeg x) v))), (w9, .inl (cI, 20, .inl (w 9)))] ++ (cPst pta rr q39.1))) ++ cRing cI cR rr ra q39.2) H := hP
        have hD : va_D A ((cFF fa wa pta i0a i1a bka kna tra jda f ++ ([(wa, .inr (4, [.int (w 0 0), .int (w 0 1), .int (w 0 2), .ref w1, .ref w2, .ref w3, .ref w4, .ref w5, .ref w6, .ref w7, .ref w8, .ref w9])), (w1, .inl (cI, 64, .inl (w 1))), (w2, .inl (cI, 10, .inl (w 2))), (w3, .inl (cI, 10, .inl (w 3))), (w4, .inl (cI, 20, .inl (w 4))), (w5, .inl (cI, 20, .inl (w 5))), (w6, .inl (cI, 160, .inl (w 6))), (w7, .inl (cI, 20, .inl (upd (w 7) (Int32.toNatClampNeg x) y))), (w8, .inl (cI, 20, .inl (upd (w 8) (Int32.toNatClampNeg x) v))), (w9, .inl (cI, 20, .inl (w 9)))] ++ (cPst pta rr q39.1))) ++ cRing cI cR rr ra q39.2) := hD
        refine lv_iconst (v := 1) hx hb dX6_marks_62 (by decide) ?_
        exact hret _ _ _ (sA (sA w 7 (upd (w 7) (Int32.toNatClampNeg x) y)) 8 (upd (w 8) (Int32.toNatClampNeg x) v), q39.1, q39.2) _ _ hf dX6_marks_63 hP hD hS
      · have hf := ite_t c25 hf
        refine lv_ldc (v := (-1000000002)) hx hb hown (hts _ mT_379) dX6_marks_28 ?_
        exact hret _ _ _ (w, pt, rg) _ _ hf dX6_marks_30 hP hD hS
  · have hf := ite_t c8 hf
    refine lv_ldc (v := (-1000000001)) hx hb hown (hts _ mT_388) dX6_marks_11 ?_
    exact hret _ _ _ (w, pt, rg) _ _ hf dX6_marks_13 hP hD hS
theorem s_yX6_gate : kMS yX6_gate cX6_gate 4 (some .int) 2 := ⟨mT_493, mT_51, by decide +kernel⟩
theorem v_yX6_gate : kMV yX6_gate := ⟨mT_491, mT_492⟩
def f_x_gate (f : Ob) (w : Ob) (pt : Ob) (rg : Nat → Ob) (x : Int32) (y : Int32) : Option (Int32 × Ob × Ob × (Nat → Ob)) := bd (f_hasWay w x) (fun q5 => if q5 = 0 then (some ((-1000000001), w, pt, rg)) else (bd (f_hasValue w y) (fun q16 => if q16 = 0 then (some ((-1000000001), w, pt, rg)) else (bd (f_remember pt w rg) (fun q33 => gd (ck x 20) (gd (ck x 20) (some ((w 9) (Int32.toNatClampNeg x), sA w 9 (upd (w 9) (Int32.toNatClampNeg x) y), q33.1, q33.2))))))))
set_option maxHeartbeats 4000000 in
set_option maxRecDepth 100000 in
theorem c_x_gate (l : Launch) (D : va_G) (cI cZ cR : ClassId) (fa wa pta i0a i1a bka kna tra jda w1 w2 w3 w4 w5 w6 w7 w8 w9 rr : Nat) (ra : Nat → Nat → Nat) (f : Ob) (w : Ob) (pt : Ob) (rg : Nat → Ob) (x : Int32) (y : Int32) (sz : Nat) (r : Int32) (u : Ob × Ob × (Nat → Ob)) (hf : f_x_gate f w pt rg x y = some (r, u)) : kCi l yX6_gate cX6_gate 4 (some .int) { frames := 3, cells := 0, slots := 0, locals := 82 } [.ref fa, .int x, .int y] D cI cZ cR ((cFF fa wa pta i0a i1a bka kna tra jda f ++ (cWeb cI wa w1 w2 w3 w4 w5 w6 w7 w8 w9 w ++ (cPst pta rr pt))) ++ cRing cI cR rr ra rg) sz ((cFF fa wa pta i0a i1a bka kna tra jda f ++ (cWeb cI wa w1 w2 w3 w4 w5 w6 w7 w8 w9 u.1 ++ (cPst pta rr u.2.1))) ++ cRing cI cR rr ra u.2.2) r := by
  refine kMwi (wf := (fun u : Ob × Ob × (Nat → Ob) => (cFF fa wa pta i0a i1a bka kna tra jda f ++ (cWeb cI wa w1 w2 w3 w4 w5 w6 w7 w8 w9 u.1 ++ (cPst pta rr u.2.1))) ++ cRing cI cR rr ra u.2.2)) (u := u) (by decide) (Nat.le_of_ble_eq_true rfl) ?_
  intro p e s m below meth c Q A hx hb hml hown hts hk hP hD hA hS hret ls hl
  have hS0 := hS
  have hK := hk.1
  have hl : lv_has ls 4 [(0, .ref fa), (1, .int x), (2, .int y)] := hl
  rw [f_x_gate] at hf
  refine lv_aload_n hx hb dX6_gate_0 rfl (lv_at hl 0 rfl) ?_
  refine va_get (D := D) (ci := 6) (v := .ref wa) (C := RX6) (T := TX6) (N := 9) hx hb hts inT6 hown hK hP 0 rfl rfl 0 (by decide) (hts _ mT_226) (fun _ h9 => h9) rfl dX6_gate_1 ?_
  refine lv_iload_n hx hb dX6_gate_4 rfl (lv_at hl 1 rfl) ?_
  obtain ⟨q5, h5, hf⟩ := bd_some hf
  refine kx_rv (As := [.int x]) (rest := []) hx hb hml hown hts hk (hP.sub (ws' := cWeb cI wa w1 w2 w3 w4 w5 w6 w7 w8 w9 w) [1, 2, 3, 4, 5, 6, 7, 8, 9, 10] rfl) hl.1 s_yX4_hasWay v_yX4_hasWay (c_hasWay l D cI cZ cR wa w1 w2 w3 w4 w5 w6 w7 w8 w9 w x _ h5) mT_415 rfl rfl ⟨Nat.le_of_ble_eq_true rfl, Nat.le_of_ble_eq_true rfl⟩ (ci := 4) (q0 := 0) rfl rfl rfl (Nat.le_of_ble_eq_true rfl) ⟨Nat.zero_le _, Nat.zero_le _⟩ dX6_gate_5 ?_
  refine lv_if_eq (tgt := 22) hx hb dX6_gate_8 (by decide) (fun c8 => ?_) (fun c8 => ?_)
  · have hf := ite_t c8 hf
    refine lv_ldc (v := (-1000000001)) hx hb hown (hts _ mT_388) dX6_gate_22 ?_
    exact hret _ _ _ (w, pt, rg) _ _ hf dX6_gate_24 hP hD hS
  · have hf := ite_f c8 hf
    refine lv_aload_n hx hb dX6_gate_11 rfl (lv_at hl 0 rfl) ?_
    refine va_get (D := D) (ci := 6) (v := .ref wa) (C := RX6) (T := TX6) (N := 9) hx hb hts inT6 hown hK hP 0 rfl rfl 0 (by decide) (hts _ mT_226) (fun _ h9 => h9) rfl dX6_gate_12 ?_
    refine lv_iload_n hx hb dX6_gate_15 rfl (lv_at hl 2 rfl) ?_
    obtain ⟨q16, h16, hf⟩ := bd_some hf
    refine kx_rv (As := [.int y]) (rest := []) hx hb hml hown hts hk (hP.sub (ws' := cWeb cI wa w1 w2 w3 w4 w5 w6 w7 w8 w9 w) [1, 2, 3, 4, 5, 6, 7, 8, 9, 10] rfl) hl.1 s_yX4_hasValue v_yX4_hasValue (c_hasValue l D cI cZ cR wa w1 w2 w3 w4 w5 w6 w7 w8 w9 w y _ h16) mT_384 rfl rfl ⟨Nat.le_of_ble_eq_true rfl, Nat.le_of_ble_eq_true rfl⟩ (ci := 4) (q0 := 0) rfl rfl rfl (Nat.le_of_ble_eq_true rfl) ⟨Nat.zero_le _, Nat.zero_le _⟩ dX6_gate_16 ?_
    refine lv_if_ne (tgt := 25) hx hb dX6_gate_19 (by decide) (fun c19 => ?_) (fun c19 => ?_)
    · have hf := ite_f c19 hf
      refine lv_aload_n hx hb dX6_gate_25 rfl (lv_at hl 0 rfl) ?_
      refine va_get (D := D) (ci := 6) (v := .ref pta) (C := RX6) (T := TX6) (N := 9) hx hb hts inT6 hown hK hP 0 rfl rfl 1 (by decide) (hts _ mT_227) (fun _ h9 => h9) rfl dX6_gate_26 ?_
      refine lv_aload_n hx hb dX6_gate_29 rfl (lv_at hl 0 rfl) ?_
      refine va_get (D := D) (ci := 6) (v := .ref wa) (C := RX6) (T := TX6) (N := 9) hx hb hts inT6 hown hK hP 0 rfl rfl 0 (by decide) (hts _ mT_226) (fun _ h9 => h9) rfl dX6_gate_30 ?_
      obtain ⟨q33, h33, hf⟩ := bd_some hf
      refine kx_wvT (As := [.ref wa]) (rest := []) (ws := (cFF fa wa pta i0a i1a bka kna tra jda f ++ (cWeb cI wa w1 w2 w3 w4 w5 w6 w7 w8 w9 w ++ (cPst pta rr pt))) ++ cRing cI cR rr ra rg) (wn := (cFF fa wa pta i0a i1a bka kna tra jda f ++ (cWeb cI wa w1 w2 w3 w4 w5 w6 w7 w8 w9 w ++ (cPst pta rr q33.1))) ++ cRing cI cR rr ra q33.2) hx hb hml hown hts hk hP hD hS hA hl.1 s_yX3_remember v_yX3_remember (c_remember l D cI cZ cR pta rr wa w1 w2 w3 w4 w5 w6 w7 w8 w9 ra pt w rg s.heap.size _ h33) mT_440 rfl rfl ⟨Nat.le_of_ble_eq_true rfl, Nat.le_of_ble_eq_true rfl⟩ (pmU (T := cRing cI cR rr ra rg) (pmx (we := cFF fa wa pta i0a i1a bka kna tra jda f ++ (cWeb cI wa w1 w2 w3 w4 w5 w6 w7 w8 w9 w ++ (cPst pta rr pt))) (wx := (cPst pta rr pt ++ (cWeb cI wa w1 w2 w3 w4 w5 w6 w7 w8 w9 w)) ++ [(fa, .inr (6, [.ref wa, .ref pta, .ref i0a, .ref i1a, .ref bka, .ref kna, .ref tra, .ref jda, .int (f 0 0)]))]) 12 [11, 1, 2, 3, 4, 5, 6, 7, 8, 9, 10, 0] rfl (by decide +kernel) rfl)) (pmU' (T := cRing cI cR rr ra q33.2) (pmx (we := (cPst pta rr q33.1 ++ (cWeb cI wa w1 w2 w3 w4 w5 w6 w7 w8 w9 w)) ++ [(fa, .inr (6, [.ref wa, .ref pta, .ref i0a, .ref i1a, .ref bka, .ref kna, .ref tra, .ref jda, .int (f 0 0)]))]) (wx := cFF fa wa pta i0a i1a bka kna tra jda f ++ (cWeb cI wa w1 w2 w3 w4 w5 w6 w7 w8 w9 w ++ (cPst pta rr q33.1))) 12 [11, 1, 2, 3, 4, 5, 6, 7, 8, 9, 10, 0] rfl (by decide +kernel) rfl)) (ci := 3) (q0 := 0) rfl rfl rfl (Nat.le_of_ble_eq_true rfl) ⟨Nat.zero_le _, Nat.zero_le _⟩ dX6_gate_33 (fun H locs hP hD hS => ?_)
      refine lv_aload_n hx hb dX6_gate_36 rfl (lv_at hl 0 rfl) ?_
      refine va_get (D := D) (ci := 6) (v := .ref wa) (C := RX6) (T := TX6) (N := 9) hx hb hts inT6 hown hK hP 0 rfl rfl 0 (by decide) (hts _ mT_226) (fun _ h9 => h9) rfl dX6_gate_37 ?_
      refine va_get (D := D) (ci := 4) (v := .ref w9) (C := RX4) (T := TX4) (N := 12) hx hb hts inT4 hown hK hP 1 rfl rfl 11 (by decide) (hts _ mT_104) (fun _ h9 => h9) rfl dX6_gate_40 ?_
      refine lv_iload_n hx hb dX6_gate_43 rfl (lv_at hl 1 rfl) ?_
      obtain ⟨b44, hf⟩ := gd_some hf
      refine va_iald (n := 20) (f := w 9) hx hb hK hP 10 0 rfl rfl (ck_in b44) dX6_gate_44 ?_
      refine lv_istore_n (lv' := [(3, .int ((w 9) (Int32.toNatClampNeg x))), (0, .ref fa), (1, .int x), (2, .int y)]) hx hb dX6_gate_45 rfl hl (by decide) rfl (fun ls hl => ?_)
      refine lv_aload_n hx hb dX6_gate_46 rfl (lv_at hl 1 rfl) ?_
      refine va_get (D := D) (ci := 6) (v := .ref wa) (C := RX6) (T := TX6) (N := 9) hx hb hts inT6 hown hK hP 0 rfl rfl 0 (by decide) (hts _ mT_226) (fun _ h9 => h9) rfl dX6_gate_47 ?_
      refine va_get (D := D) (ci := 4) (v := .ref w9) (C := RX4) (T := TX4) (N := 12) hx hb hts inT4 hown hK hP 1 rfl rfl 11 (by decide) (hts _ mT_104) (fun _ h9 => h9) rfl dX6_gate_50 ?_
      refine lv_iload_n hx hb dX6_gate_53 rfl (lv_at hl 2 rfl) ?_
      refine lv_iload_n hx hb dX6_gate_54 rfl (lv_at hl 3 rfl) ?_
      obtain ⟨b55, hf⟩ := gd_some hf
      refine va_iast (n := 20) (f := w 9) hx hb hK hP hD hS 10 0 rfl rfl (ck_in b55) dX6_gate_55 (fun H locs hP hD hS => ?_)
      have hP : va_P D vwCl ((cFF fa wa pta i0a i1a bka kna tra jda f ++ ([(wa, .inr (4, [.int (w 0 0), .int (w 0 1), .int (w 0 2), .ref w1, .ref w2, .ref w3, .ref w4, .ref w5, .ref w6, .ref w7, .ref w8, .ref w9])), (w1, .inl (cI, 64, .inl (w 1))), (w2, .inl (cI, 10, .inl (w 2))), (w3, .inl (cI, 10, .inl (w 3))), (w4, .inl (cI, 20, .inl (w 4))), (w5, .inl (cI, 20, .inl (w 5))), (w6, .inl (cI, 160, .inl (w 6))), (w7, .inl (cI, 20, .inl (w 7))), (w8, .inl (cI, 20, .inl (w 8))), (w9, .inl (cI, 20, .inl (upd (w 9) (Int32.toNatClampNeg x) y)))] ++ (cPst pta rr q33.1))) ++ cRing cI cR rr ra q33.2) H := hP
      have hD : va_D A ((cFF fa wa pta i0a i1a bka kna tra jda f ++ ([(wa, .inr (4, [.int (w 0 0), .int (w 0 1), .int (w 0 2), .ref w1, .ref w2, .ref w3, .ref w4, .ref w5, .ref w6, .ref w7, .ref w8, .ref w9])), (w1, .inl (cI, 64, .inl (w 1))), (w2, .inl (cI, 10, .inl (w 2))), (w3, .inl (cI, 10, .inl (w 3))), (w4, .inl (cI, 20, .inl (w 4))), (w5, .inl (cI, 20, .inl (w 5))), (w6, .inl (cI, 160, .inl (w 6))), (w7, .inl (cI, 20, .inl (w 7))), (w8, .inl (cI, 20, .inl (w 8))), (w9, .inl (cI, 20, .inl (upd (w 9) (Int32.toNatClampNeg x) y)))] ++ (cPst pta rr q33.1))) ++ cRing cI cR rr ra q33.2) := hD
      refine lv_iload_n hx hb dX6_gate_56 rfl (lv_at hl 0 rfl) ?_
      exact hret _ _ _ (sA w 9 (upd (w 9) (Int32.toNatClampNeg x) y), q33.1, q33.2) _ _ hf dX6_gate_57 hP hD hS
    · have hf := ite_t c19 hf
      refine lv_ldc (v := (-1000000001)) hx hb hown (hts _ mT_388) dX6_gate_22 ?_
      exact hret _ _ _ (w, pt, rg) _ _ hf dX6_gate_24 hP hD hS
theorem s_yX6_write : kMS yX6_write cX6_write 4 (some .int) 3 := ⟨mT_497, mT_51, by decide +kernel⟩
theorem v_yX6_write : kMV yX6_write := ⟨mT_495, mT_496⟩
def f_x_write (f : Ob) (w : Ob) (pt : Ob) (jd : Ob) (rg : Nat → Ob) (x : Int32) (y : Int32) (v : Int32) : Option (Int32 × Ob × Ob × Ob × (Nat → Ob)) := bd (f_hasPlace w x) (fun q5 => if q5 = 0 then (some ((-1000000001), w, pt, jd, rg)) else (bd (f_hasValue w y) (fun q16 => if q16 = 0 then (some ((-1000000001), w, pt, jd, rg)) else (bd (f_isSet v) (fun q26 => if q26 = 0 then (some ((-1000000002), w, pt, jd, rg)) else (bd (f_isKept w x) (fun q40 => if q40 = 0 then (some ((-1000000003), w, pt, jd, rg)) else (bd (f_remember pt w rg) (fun q57 => gd (ck x 10) (bd (f_refusedAt jd (sA w 3 (upd (w 3) (Int32.toNatClampNeg x) ((y * 256) + v)))) (fun q84 => some (q84.1, sA w 3 (upd (w 3) (Int32.toNatClampNeg x) ((y * 256) + v)), q57.1, q84.2, q57.2))))))))))))
set_option maxHeartbeats 4000000 in
set_option maxRecDepth 100000 in
theorem c_x_write (l : Launch) (D : va_G) (cI cZ cR : ClassId) (fa wa pta i0a i1a bka kna tra jda w1 w2 w3 w4 w5 w6 w7 w8 w9 rr jd1 : Nat) (ra : Nat → Nat → Nat) (f : Ob) (w : Ob) (pt : Ob) (jd : Ob) (rg : Nat → Ob) (x : Int32) (y : Int32) (v : Int32) (sz : Nat) (r : Int32) (u : Ob × Ob × Ob × (Nat → Ob)) (hf : f_x_write f w pt jd rg x y v = some (r, u)) : kCi l yX6_write cX6_write 4 (some .int) { frames := 5, cells := 0, slots := 0, locals := 117 } [.ref fa, .int x, .int y, .int v] D cI cZ cR ((cFF fa wa pta i0a i1a bka kna tra jda f ++ (cWeb cI wa w1 w2 w3 w4 w5 w6 w7 w8 w9 w ++ (cPst pta rr pt ++ (cJudge cI jda jd1 jd)))) ++ cRing cI cR rr ra rg) sz ((cFF fa wa pta i0a i1a bka kna tra jda f ++ (cWeb cI wa w1 w2 w3 w4 w5 w6 w7 w8 w9 u.1 ++ (cPst pta rr u.2.1 ++ (cJudge cI jda jd1 u.2.2.1)))) ++ cRing cI cR rr ra u.2.2.2) r := by
  refine kMwi (wf := (fun u : Ob × Ob × Ob × (Nat → Ob) => (cFF fa wa pta i0a i1a bka kna tra jda f ++ (cWeb cI wa w1 w2 w3 w4 w5 w6 w7 w8 w9 u.1 ++ (cPst pta rr u.2.1 ++ (cJudge cI jda jd1 u.2.2.1)))) ++ cRing cI cR rr ra u.2.2.2)) (u := u) (by decide) (Nat.le_of_ble_eq_true rfl) ?_
  intro p e s m below meth c Q A hx hb hml hown hts hk hP hD hA hS hret ls hl
  have hS0 := hS
  have hK := hk.1
  have hl : lv_has ls 4 [(0, .ref fa), (1, .int x), (2, .int y), (3, .int v)] := hl
  rw [f_x_write] at hf
  refine lv_aload_n hx hb dX6_write_0 rfl (lv_at hl 0 rfl) ?_
  refine va_get (D := D) (ci := 6) (v := .ref wa) (C := RX6) (T := TX6) (N := 9) hx hb hts inT6 hown hK hP 0 rfl rfl 0 (by decide) (hts _ mT_226) (fun _ h9 => h9) rfl dX6_write_1 ?_
  refine lv_iload_n hx hb dX6_write_4 rfl (lv_at hl 1 rfl) ?_
  obtain ⟨q5, h5, hf⟩ := bd_some hf
  refine kx_rv (As := [.int x]) (rest := []) hx hb hml hown hts hk (hP.sub (ws' := cWeb cI wa w1 w2 w3 w4 w5 w6 w7 w8 w9 w) [1, 2, 3, 4, 5, 6, 7, 8, 9, 10] rfl) hl.1 s_yX4_hasPlace v_yX4_hasPlace (c_hasPlace l D cI cZ cR wa w1 w2 w3 w4 w5 w6 w7 w8 w9 w x _ h5) mT_399 rfl rfl ⟨Nat.le_of_ble_eq_true rfl, Nat.le_of_ble_eq_true rfl⟩ (ci := 4) (q0 := 0) rfl rfl rfl (Nat.le_of_ble_eq_true rfl) ⟨Nat.zero_le _, Nat.zero_le _⟩ dX6_write_5 ?_
  refine lv_if_eq (tgt := 22) hx hb dX6_write_8 (by decide) (fun c8 => ?_) (fun c8 => ?_)
  · have hf := ite_t c8 hf
    refine lv_ldc (v := (-1000000001)) hx hb hown (hts _ mT_388) dX6_write_22 ?_
    exact hret _ _ _ (w, pt, jd, rg) _ _ hf dX6_write_24 hP hD hS
  · have hf := ite_f c8 hf
    refine lv_aload_n hx hb dX6_write_11 rfl (lv_at hl 0 rfl) ?_
    refine va_get (D := D) (ci := 6) (v := .ref wa) (C := RX6) (T := TX6) (N := 9) hx hb hts inT6 hown hK hP 0 rfl rfl 0 (by decide) (hts _ mT_226) (fun _ h9 => h9) rfl dX6_write_12 ?_
    refine lv_iload_n hx hb dX6_write_15 rfl (lv_at hl 2 rfl) ?_
    obtain ⟨q16, h16, hf⟩ := bd_some hf
    refine kx_rv (As := [.int y]) (rest := []) hx hb hml hown hts hk (hP.sub (ws' := cWeb cI wa w1 w2 w3 w4 w5 w6 w7 w8 w9 w) [1, 2, 3, 4, 5, 6, 7, 8, 9, 10] rfl) hl.1 s_yX4_hasValue v_yX4_hasValue (c_hasValue l D cI cZ cR wa w1 w2 w3 w4 w5 w6 w7 w8 w9 w y _ h16) mT_384 rfl rfl ⟨Nat.le_of_ble_eq_true rfl, Nat.le_of_ble_eq_true rfl⟩ (ci := 4) (q0 := 0) rfl rfl rfl (Nat.le_of_ble_eq_true rfl) ⟨Nat.zero_le _, Nat.zero_le _⟩ dX6_write_16 ?_
    refine lv_if_ne (tgt := 25) hx hb dX6_write_19 (by decide) (fun c19 => ?_) (fun c19 => ?_)
    · have hf := ite_f c19 hf
      refine lv_iload_n hx hb dX6_write_25 rfl (lv_at hl 3 rfl) ?_
      obtain ⟨q26, h26, hf⟩ := bd_some hf
      refine kx_rs (As := [.int v]) (rest := []) hx hb hml hown hts hk hl.1 s_yX6_isSet mT_463 (c_isSet l D cI cZ cR v _ h26) mT_462 rfl rfl ⟨Nat.le_of_ble_eq_true rfl, Nat.le_of_ble_eq_true rfl⟩ rfl (Nat.le_of_ble_eq_true rfl) ⟨Nat.zero_le _, Nat.zero_le _⟩ dX6_write_26 ?_
      refine lv_if_ne (tgt := 35) hx hb dX6_write_29 (by decide) (fun c29 => ?_) (fun c29 => ?_)
      · have hf := ite_f c29 hf
        refine lv_aload_n hx hb dX6_write_35 rfl (lv_at hl 0 rfl) ?_
        refine va_get (D := D) (ci := 6) (v := .ref wa) (C := RX6) (T := TX6) (N := 9) hx hb hts inT6 hown hK hP 0 rfl rfl 0 (by decide) (hts _ mT_226) (fun _ h9 => h9) rfl dX6_write_36 ?_
        refine lv_iload_n hx hb dX6_write_39 rfl (lv_at hl 1 rfl) ?_
        obtain ⟨q40, h40, hf⟩ := bd_some hf
        refine kx_rv (As := [.int x]) (rest := []) hx hb hml hown hts hk (hP.sub (ws' := cWeb cI wa w1 w2 w3 w4 w5 w6 w7 w8 w9 w) [1, 2, 3, 4, 5, 6, 7, 8, 9, 10] rfl) hl.1 s_yX4_isKept v_yX4_isKept (c_isKept l D cI cZ cR wa w1 w2 w3 w4 w5 w6 w7 w8 w9 w x _ h40) mT_410 rfl rfl ⟨Nat.le_of_ble_eq_true rfl, Nat.le_of_ble_eq_true rfl⟩ (ci := 4) (q0 := 0) rfl rfl rfl (Nat.le_of_ble_eq_true rfl) ⟨Nat.zero_le _, Nat.zero_le _⟩ dX6_write_40 ?_
        refine lv_if_ne (tgt := 49) hx hb dX6_write_43 (by decide) (fun c43 => ?_) (fun c43 => ?_)
        · have hf := ite_f c43 hf
          refine lv_aload_n hx hb dX6_write_49 rfl (lv_at hl 0 rfl) ?_
          refine va_get (D := D) (ci := 6) (v := .ref pta) (C := RX6) (T := TX6) (N := 9) hx hb hts inT6 hown hK hP 0 rfl rfl 1 (by decide) (hts _ mT_227) (fun _ h9 => h9) rfl dX6_write_50 ?_
          refine lv_aload_n hx hb dX6_write_53 rfl (lv_at hl 0 rfl) ?_
          refine va_get (D := D) (ci := 6) (v := .ref wa) (C := RX6) (T := TX6) (N := 9) hx hb hts inT6 hown hK hP 0 rfl rfl 0 (by decide) (hts _ mT_226) (fun _ h9 => h9) rfl dX6_write_54 ?_
          obtain ⟨q57, h57, hf⟩ := bd_some hf
          refine kx_wvT (As := [.ref wa]) (rest := []) (ws := (cFF fa wa pta i0a i1a bka kna tra jda f ++ (cWeb cI wa w1 w2 w3 w4 w5 w6 w7 w8 w9 w ++ (cPst pta rr pt ++ (cJudge cI jda jd1 jd)))) ++ cRing cI cR rr ra rg) (wn := (cFF fa wa pta i0a i1a bka kna tra jda f ++ (cWeb cI wa w1 w2 w3 w4 w5 w6 w7 w8 w9 w ++ (cPst pta rr q57.1 ++ (cJudge cI jda jd1 jd)))) ++ cRing cI cR rr ra q57.2) hx hb hml hown hts hk hP hD hS hA hl.1 s_yX3_remember v_yX3_remember (c_remember l D cI cZ cR pta rr wa w1 w2 w3 w4 w5 w6 w7 w8 w9 ra pt w rg s.heap.size _ h57) mT_440 rfl rfl ⟨Nat.le_of_ble_eq_true rfl, Nat.le_of_ble_eq_true rfl⟩ (pmU (T := cRing cI cR rr ra rg) (pmx (we := cFF fa wa pta i0a i1a bka kna tra jda f ++ (cWeb cI wa w1 w2 w3 w4 w5 w6 w7 w8 w9 w ++ (cPst pta rr pt ++ (cJudge cI jda jd1 jd)))) (wx := (cPst pta rr pt ++ (cWeb cI wa w1 w2 w3 w4 w5 w6 w7 w8 w9 w)) ++ [(fa, .inr (6, [.ref wa, .ref pta, .ref i0a, .ref i1a, .ref bka, .ref kna, .ref tra, .ref jda, .int (f 0 0)])), (jda, .inr (2, [.ref jd1])), (jd1, .inl (cI, 10, .inl (jd 1)))]) 14 [11, 1, 2, 3, 4, 5, 6, 7, 8, 9, 10, 0, 12, 13] rfl (by decide +kernel) rfl)) (pmU' (T := cRing cI cR rr ra q57.2) (pmx (we := (cPst pta rr q57.1 ++ (cWeb cI wa w1 w2 w3 w4 w5 w6 w7 w8 w9 w)) ++ [(fa, .inr (6, [.ref wa, .ref pta, .ref i0a, .ref i1a, .ref bka, .ref kna, .ref tra, .ref jda, .int (f 0 0)])), (jda, .inr (2, [.ref jd1])), (jd1, .inl (cI, 10, .inl (jd 1)))]) (wx := cFF fa wa pta i0a i1a bka kna tra jda f ++ (cWeb cI wa w1 w2 w3 w4 w5 w6 w7 w8 w9 w ++ (cPst pta rr q57.1 ++ (cJudge cI jda jd1 jd)))) 14 [11, 1, 2, 3, 4, 5, 6, 7, 8, 9, 10, 0, 12, 13] rfl (by decide +kernel) rfl)) (ci := 3) (q0 := 0) rfl rfl rfl (Nat.le_of_ble_eq_true rfl) ⟨Nat.zero_le _, Nat.zero_le _⟩ dX6_write_57 (fun H locs hP hD hS => ?_)
          refine lv_aload_n hx hb dX6_write_60 rfl (lv_at hl 0 rfl) ?_
          refine va_get (D := D) (ci := 6) (v := .ref wa) (C := RX6) (T := TX6) (N := 9) hx hb hts inT6 hown hK hP 0 rfl rfl 0 (by decide) (hts _ mT_226) (fun _ h9 => h9) rfl dX6_write_61 ?_
          refine va_get (D := D) (ci := 4) (v := .ref w3) (C := RX4) (T := TX4) (N := 12) hx hb hts inT4 hown hK hP 1 rfl rfl 5 (by decide) (hts _ mT_90) (fun _ h9 => h9) rfl dX6_write_64 ?_
          refine lv_iload_n hx hb dX6_write_67 rfl (lv_at hl 1 rfl) ?_
          refine lv_iload_n hx hb dX6_write_68 rfl (lv_at hl 2 rfl) ?_
          refine lv_sipush (v := 256) hx hb dX6_write_69 (by decide) ?_
          refine lv_imul hx hb dX6_write_72 ?_
          refine lv_iload_n hx hb dX6_write_73 rfl (lv_at hl 3 rfl) ?_
          refine lv_iadd hx hb dX6_write_74 ?_
          obtain ⟨b75, hf⟩ := gd_some hf
          refine va_iast (n := 10) (f := w 3) hx hb hK hP hD hS 4 0 rfl rfl (ck_in b75) dX6_write_75 (fun H locs hP hD hS => ?_)
          have hP : va_P D vwCl ((cFF fa wa pta i0a i1a bka kna tra jda f ++ ([(wa, .inr (4, [.int (w 0 0), .int (w 0 1), .int (w 0 2), .ref w1, .ref w2, .ref w3, .ref w4, .ref w5, .ref w6, .ref w7, .ref w8, .ref w9])), (w1, .inl (cI, 64, .inl (w 1))), (w2, .inl (cI, 10, .inl (w 2))), (w3, .inl (cI, 10, .inl (upd (w 3) (Int32.toNatClampNeg x) ((y * 256) + v)))), (w4, .inl (cI, 20, .inl (w 4))), (w5, .inl (cI, 20, .inl (w 5))), (w6, .inl (cI, 160, .inl (w 6))), (w7, .inl (cI, 20, .inl (w 7))), (w8, .inl (cI, 20, .inl (w 8))), (w9, .inl (cI, 20, .inl (w 9)))] ++ (cPst pta rr q57.1 ++ (cJudge cI jda jd1 jd)))) ++ cRing cI cR rr ra q57.2) H := hP
          have hD : va_D A ((cFF fa wa pta i0a i1a bka kna tra jda f ++ ([(wa, .inr (4, [.int (w 0 0), .int (w 0 1), .int (w 0 2), .ref w1, .ref w2, .ref w3, .ref w4, .ref w5, .ref w6, .ref w7, .ref w8, .ref w9])), (w1, .inl (cI, 64, .inl (w 1))), (w2, .inl (cI, 10, .inl (w 2))), (w3, .inl (cI, 10, .inl (upd (w 3) (Int32.toNatClampNeg x) ((y * 256) + v)))), (w4, .inl (cI, 20, .inl (w 4))), (w5, .inl (cI, 20, .inl (w 5))), (w6, .inl (cI, 160, .inl (w 6))), (w7, .inl (cI, 20, .inl (w 7))), (w8, .inl (cI, 20, .inl (w 8))), (w9, .inl (cI, 20, .inl (w 9)))] ++ (cPst pta rr q57.1 ++ (cJudge cI jda jd1 jd)))) ++ cRing cI cR rr ra q57.2) := hD
          refine lv_aload_n hx hb dX6_write_76 rfl (lv_at hl 0 rfl) ?_
          refine va_get (D := D) (ci := 6) (v := .ref jda) (C := RX6) (T := TX6) (N := 9) hx hb hts inT6 hown hK hP 0 rfl rfl 7 (by decide) (hts _ mT_233) (fun _ h9 => h9) rfl dX6_write_77 ?_
          refine lv_aload_n hx hb dX6_write_80 rfl (lv_at hl 0 rfl) ?_
          refine va_get (D := D) (ci := 6) (v := .ref wa) (C := RX6) (T := TX6) (N := 9) hx hb hts inT6 hown hK hP 0 rfl rfl 0 (by decide) (hts _ mT_226) (fun _ h9 => h9) rfl dX6_write_81 ?_
          obtain ⟨q84, h84, hf⟩ := bd_some hf
          refine kx_wiT (As := [.ref wa]) (rest := []) (ws := (cFF fa wa pta i0a i1a bka kna tra jda f ++ (cWeb cI wa w1 w2 w3 w4 w5 w6 w7 w8 w9 (sA w 3 (upd (w 3) (Int32.toNatClampNeg x) ((y * 256) + v))) ++ (cPst pta rr q57.1 ++ (cJudge cI jda jd1 jd)))) ++ cRing cI cR rr ra q57.2) (wn := (cFF fa wa pta i0a i1a bka kna tra jda f ++ (cWeb cI wa w1 w2 w3 w4 w5 w6 w7 w8 w9 (sA w 3 (upd (w 3) (Int32.toNatClampNeg x) ((y * 256) + v))) ++ (cPst pta rr q57.1 ++ (cJudge cI jda jd1 q84.2)))) ++ cRing cI cR rr ra q57.2) hx hb hml hown hts hk hP hD hS hA hl.1 s_yX2_refusedAt v_yX2_refusedAt (c_refusedAt l D cI cZ cR jda jd1 wa w1 w2 w3 w4 w5 w6 w7 w8 w9 jd (sA w 3 (upd (w 3) (Int32.toNatClampNeg x) ((y * 256) + v))) H.size _ _ h84) mT_304 rfl rfl ⟨Nat.le_of_ble_eq_true rfl, Nat.le_of_ble_eq_true rfl⟩ (pmT (T := cRing cI cR rr ra q57.2) (pmx (we := cFF fa wa pta i0a i1a bka kna tra jda f ++ (cWeb cI wa w1 w2 w3 w4 w5 w6 w7 w8 w9 (sA w 3 (upd (w 3) (Int32.toNatClampNeg x) ((y * 256) + v))) ++ (cPst pta rr q57.1 ++ (cJudge cI jda jd1 jd)))) (wx := (cJudge cI jda jd1 jd ++ (cWeb cI wa w1 w2 w3 w4 w5 w6 w7 w8 w9 (sA w 3 (upd (w 3) (Int32.toNatClampNeg x) ((y * 256) + v))))) ++ [(fa, .inr (6, [.ref wa, .ref pta, .ref i0a, .ref i1a, .ref bka, .ref kna, .ref tra, .ref jda, .int (f 0 0)])), (pta, .inr (3, [.int (q57.1 0 0), .int (q57.1 0 1), .ref rr]))]) 14 [12, 13, 1, 2, 3, 4, 5, 6, 7, 8, 9, 10, 0, 11] rfl (by decide +kernel) rfl)) (pmT' (T := cRing cI cR rr ra q57.2) (pmx (we := (cJudge cI jda jd1 q84.2 ++ (cWeb cI wa w1 w2 w3 w4 w5 w6 w7 w8 w9 (sA w 3 (upd (w 3) (Int32.toNatClampNeg x) ((y * 256) + v))))) ++ [(fa, .inr (6, [.ref wa, .ref pta, .ref i0a, .ref i1a, .ref bka, .ref kna, .ref tra, .ref jda, .int (f 0 0)])), (pta, .inr (3, [.int (q57.1 0 0), .int (q57.1 0 1), .ref rr]))]) (wx := cFF fa wa pta i0a i1a bka kna tra jda f ++ (cWeb cI wa w1 w2 w3 w4 w5 w6 w7 w8 w9 (sA w 3 (upd (w 3) (Int32.toNatClampNeg x) ((y * 256) + v))) ++ (cPst pta rr q57.1 ++ (cJudge cI jda jd1 q84.2)))) 14 [12, 2, 3, 4, 5, 6, 7, 8, 9, 10, 11, 13, 0, 1] rfl (by decide +kernel) rfl)) (ci := 2) (q0 := 0) rfl rfl rfl (Nat.le_of_ble_eq_true rfl) ⟨Nat.zero_le _, Nat.zero_le _⟩ dX6_write_84 (fun H locs hP hD hS => ?_)
          exact hret _ _ _ (sA w 3 (upd (w 3) (Int32.toNatClampNeg x) ((y * 256) + v)), q57.1, q84.2, q57.2) _ _ hf dX6_write_87 hP hD hS
        · have hf := ite_t c43 hf
          refine lv_ldc (v := (-1000000003)) hx hb hown (hts _ mT_498) dX6_write_46 ?_
          exact hret _ _ _ (w, pt, jd, rg) _ _ hf dX6_write_48 hP hD hS
      · have hf := ite_t c29 hf
        refine lv_ldc (v := (-1000000002)) hx hb hown (hts _ mT_379) dX6_write_32 ?_
        exact hret _ _ _ (w, pt, jd, rg) _ _ hf dX6_write_34 hP hD hS
    · have hf := ite_t c19 hf
      refine lv_ldc (v := (-1000000001)) hx hb hown (hts _ mT_388) dX6_write_22 ?_
      exact hret _ _ _ (w, pt, jd, rg) _ _ hf dX6_write_24 hP hD hS
theorem s_yX6_copy : kMS yX6_copy cX6_copy 3 (some .int) 0 := ⟨mT_502, mT_51, by decide +kernel⟩
theorem v_yX6_copy : kMV yX6_copy := ⟨mT_500, mT_501⟩
def k_x_copy_25 (pt : Ob) (kn : Ob) (rg : Nat → Ob) (x1_25 : Int32) (x2_25 : Int32) (w_25 : Ob) : Option (Int32 × Ob × Ob × Ob × (Nat → Ob)) := some (x1_25, w_25, pt, kn, rg)
def lp_x_copy_25 (kn : Ob) (kk0 : Int32 → Int32 → Ob → Option (Int32 × Ob × Ob × Ob × (Nat → Ob))) : Nat → Int32 → Int32 → Ob → Option (Int32 × Ob × Ob × Ob × (Nat → Ob))
  | 0, _, _, _ => none
  | fu25 + 1, x1_25, x2_25, w_25 => if (w_25 0 1) ≤ x2_25 then (kk0 x1_25 x2_25 w_25) else (bd (f_isKept w_25 x2_25) (fun q41 => if q41 = 0 then ((lp_x_copy_25 kn kk0 fu25) x1_25 (x2_25 + 1) w_25) else (gd (ck x2_25 10) (gd (ck x2_25 10) ((lp_x_copy_25 kn kk0 fu25) (x1_25 + 1) (x2_25 + 1) (sA w_25 3 (upd (w_25 3) (Int32.toNatClampNeg x2_25) ((kn 1) (Int32.toNatClampNeg x2_25)))))))))
def f_x_copy (f : Ob) (w : Ob) (pt : Ob) (kn : Ob) (rg : Nat → Ob) : Option (Int32 × Ob × Ob × Ob × (Nat → Ob)) := bd (f_x_findKnown f w kn) (fun q1 => if q1.1 = 0 then (some ((-1000000003), w, pt, q1.2, rg)) else (bd (f_remember pt w rg) (fun q18 => lp_x_copy_25 q1.2 (k_x_copy_25 q18.1 q1.2 q18.2) 10000 0 0 w)))
set_option maxHeartbeats 4000000 in
set_option maxRecDepth 100000 in
theorem c_x_copy (l : Launch) (D : va_G) (cI cZ cR : ClassId) (fa wa pta i0a i1a bka kna tra jda w1 w2 w3 w4 w5 w6 w7 w8 w9 rr kn1 kn2 : Nat) (ra : Nat → Nat → Nat) (f : Ob) (w : Ob) (pt : Ob) (kn : Ob) (rg : Nat → Ob) (sz : Nat) (r : Int32) (u : Ob × Ob × Ob × (Nat → Ob)) (hf : f_x_copy f w pt kn rg = some (r, u)) : kCi l yX6_copy cX6_copy 3 (some .int) { frames := 5, cells := 0, slots := 0, locals := 119 } [.ref fa] D cI cZ cR ((cFF fa wa pta i0a i1a bka kna tra jda f ++ (cWeb cI wa w1 w2 w3 w4 w5 w6 w7 w8 w9 w ++ (cPst pta rr pt ++ (cWork cI kna kn1 kn2 kn)))) ++ cRing cI cR rr ra rg) sz ((cFF fa wa pta i0a i1a bka kna tra jda f ++ (cWeb cI wa w1 w2 w3 w4 w5 w6 w7 w8 w9 u.1 ++ (cPst pta rr u.2.1 ++ (cWork cI kna kn1 kn2 u.2.2.1)))) ++ cRing cI cR rr ra u.2.2.2) r := by
  refine kMwi (wf := (fun u : Ob × Ob × Ob × (Nat → Ob) => (cFF fa wa pta i0a i1a bka kna tra jda f ++ (cWeb cI wa w1 w2 w3 w4 w5 w6 w7 w8 w9 u.1 ++ (cPst pta rr u.2.1 ++ (cWork cI kna kn1 kn2 u.2.2.1)))) ++ cRing cI cR rr ra u.2.2.2)) (u := u) (by decide) (Nat.le_of_ble_eq_true rfl) ?_
  intro p e s m below meth c Q A hx hb hml hown hts hk hP hD hA hS hret ls hl
  have hS0 := hS
  have hK := hk.1
  have hl : lv_has ls 3 [(0, .ref fa)] := hl
  rw [f_x_copy] at hf
  refine lv_aload_n hx hb dX6_copy_0 rfl (lv_at hl 0 rfl) ?_
  obtain ⟨q1, h1, hf⟩ := bd_some hf
  refine kx_wiT (As := []) (rest := []) (ws := (cFF fa wa pta i0a i1a bka kna tra jda f ++ (cWeb cI wa w1 w2 w3 w4 w5 w6 w7 w8 w9 w ++ (cPst pta rr pt ++ (cWork cI kna kn1 kn2 kn)))) ++ cRing cI cR rr ra rg) (wn := (cFF fa wa pta i0a i1a bka kna tra jda f ++ (cWeb cI wa w1 w2 w3 w4 w5 w6 w7 w8 w9 w ++ (cPst pta rr pt ++ (cWork cI kna kn1 kn2 q1.2)))) ++ cRing cI cR rr ra rg) hx hb hml hown hts hk hP hD hS hA hl.1 s_yX6_findKnown v_yX6_findKnown (c_x_findKnown l D cI cZ cR fa wa pta i0a i1a bka kna tra jda w1 w2 w3 w4 w5 w6 w7 w8 w9 kn1 kn2 f w kn s.heap.size _ _ h1) mT_338 rfl rfl ⟨Nat.le_of_ble_eq_true rfl, Nat.le_of_ble_eq_true rfl⟩ (pmT (T := cRing cI cR rr ra rg) (pmx (we := cFF fa wa pta i0a i1a bka kna tra jda f ++ (cWeb cI wa w1 w2 w3 w4 w5 w6 w7 w8 w9 w ++ (cPst pta rr pt ++ (cWork cI kna kn1 kn2 kn)))) (wx := (cFF fa wa pta i0a i1a bka kna tra jda f ++ (cWeb cI wa w1 w2 w3 w4 w5 w6 w7 w8 w9 w ++ (cWork cI kna kn1 kn2 kn))) ++ [(pta, .inr (3, [.int (pt 0 0), .int (pt 0 1), .ref rr]))]) 15 [0, 1, 2, 3, 4, 5, 6, 7, 8, 9, 10, 12, 13, 14, 11] rfl (by decide +kernel) rfl)) (pmT' (T := cRing cI cR rr ra rg) (pmx (we := (cFF fa wa pta i0a i1a bka kna tra jda f ++ (cWeb cI wa w1 w2 w3 w4 w5 w6 w7 w8 w9 w ++ (cWork cI kna kn1 kn2 q1.2))) ++ [(pta, .inr (3, [.int (pt 0 0), .int (pt 0 1), .ref rr]))]) (wx := cFF fa wa pta i0a i1a bka kna tra jda f ++ (cWeb cI wa w1 w2 w3 w4 w5 w6 w7 w8 w9 w ++ (cPst pta rr pt ++ (cWork cI kna kn1 kn2 q1.2)))) 15 [0, 1, 2, 3, 4, 5, 6, 7, 8, 9, 10, 14, 11, 12, 13] rfl (by decide +kernel) rfl)) (ci := 6) (q0 := 0) rfl rfl rfl (Nat.le_of_ble_eq_true rfl) ⟨Nat.zero_le _, Nat.zero_le _⟩ dX6_copy_1 (fun H locs hP hD hS => ?_)
  refine lv_if_ne (tgt := 10) hx hb dX6_copy_4 (by decide) (fun c4 => ?_) (fun c4 => ?_)
  · have hf := ite_f c4 hf
    refine lv_aload_n hx hb dX6_copy_10 rfl (lv_at hl 0 rfl) ?_
    refine va_get (D := D) (ci := 6) (v := .ref pta) (C := RX6) (T := TX6) (N := 9) hx hb hts inT6 hown hK hP 0 rfl rfl 1 (by decide) (hts _ mT_227) (fun _ h9 => h9) rfl dX6_copy_11 ?_
    refine lv_aload_n hx hb dX6_copy_14 rfl (lv_at hl 0 rfl) ?_
    refine va_get (D := D) (ci := 6) (v := .ref wa) (C := RX6) (T := TX6) (N := 9) hx hb hts inT6 hown hK hP 0 rfl rfl 0 (by decide) (hts _ mT_226) (fun _ h9 => h9) rfl dX6_copy_15 ?_
    obtain ⟨q18, h18, hf⟩ := bd_some hf
    refine kx_wvT (As := [.ref wa]) (rest := []) (ws := (cFF fa wa pta i0a i1a bka kna tra jda f ++ (cWeb cI wa w1 w2 w3 w4 w5 w6 w7 w8 w9 w ++ (cPst pta rr pt ++ (cWork cI kna kn1 kn2 q1.2)))) ++ cRing cI cR rr ra rg) (wn := (cFF fa wa pta i0a i1a bka kna tra jda f ++ (cWeb cI wa w1 w2 w3 w4 w5 w6 w7 w8 w9 w ++ (cPst pta rr q18.1 ++ (cWork cI kna kn1 kn2 q1.2)))) ++ cRing cI cR rr ra q18.2) hx hb hml hown hts hk hP hD hS hA hl.1 s_yX3_remember v_yX3_remember (c_remember l D cI cZ cR pta rr wa w1 w2 w3 w4 w5 w6 w7 w8 w9 ra pt w rg H.size _ h18) mT_440 rfl rfl ⟨Nat.le_of_ble_eq_true rfl, Nat.le_of_ble_eq_true rfl⟩ (pmU (T := cRing cI cR rr ra rg) (pmx (we := cFF fa wa pta i0a i1a bka kna tra jda f ++ (cWeb cI wa w1 w2 w3 w4 w5 w6 w7 w8 w9 w ++ (cPst pta rr pt ++ (cWork cI kna kn1 kn2 q1.2)))) (wx := (cPst pta rr pt ++ (cWeb cI wa w1 w2 w3 w4 w5 w6 w7 w8 w9 w)) ++ [(fa, .inr (6, [.ref wa, .ref pta, .ref i0a, .ref i1a, .ref bka, .ref kna, .ref tra, .ref jda, .int (f 0 0)])), (kna, .inr (5, [.ref kn1, .ref kn2, .int (q1.2 0 0)])), (kn1, .inl (cI, 10, .inl (q1.2 1))), (kn2, .inl (cI, 10, .inl (q1.2 2)))]) 15 [11, 1, 2, 3, 4, 5, 6, 7, 8, 9, 10, 0, 12, 13, 14] rfl (by decide +kernel) rfl)) (pmU' (T := cRing cI cR rr ra q18.2) (pmx (we := (cPst pta rr q18.1 ++ (cWeb cI wa w1 w2 w3 w4 w5 w6 w7 w8 w9 w)) ++ [(fa, .inr (6, [.ref wa, .ref pta, .ref i0a, .ref i1a, .ref bka, .ref kna, .ref tra, .ref jda, .int (f 0 0)])), (kna, .inr (5, [.ref kn1, .ref kn2, .int (q1.2 0 0)])), (kn1, .inl (cI, 10, .inl (q1.2 1))), (kn2, .inl (cI, 10, .inl (q1.2 2)))]) (wx := cFF fa wa pta i0a i1a bka kna tra jda f ++ (cWeb cI wa w1 w2 w3 w4 w5 w6 w7 w8 w9 w ++ (cPst pta rr q18.1 ++ (cWork cI kna kn1 kn2 q1.2)))) 15 [11, 1, 2, 3, 4, 5, 6, 7, 8, 9, 10, 0, 12, 13, 14] rfl (by decide +kernel) rfl)) (ci := 3) (q0 := 0) rfl rfl rfl (Nat.le_of_ble_eq_true rfl) ⟨Nat.zero_le _, Nat.zero_le _⟩ dX6_copy_18 (fun H locs hP hD hS => ?_)
    refine lv_iconst (v := 0) hx hb dX6_copy_21 (by decide) ?_
    refine lv_istore_n (lv' := [(1, .int 0), (0, .ref fa)]) hx hb dX6_copy_22 rfl hl (by decide) rfl (fun ls hl => ?_)
    refine lv_iconst (v := 0) hx hb dX6_copy_23 (by decide) ?_
    refine lv_istore_n (lv' := [(2, .int 0), (1, .int 0), (0, .ref fa)]) hx hb dX6_copy_24 rfl hl (by decide) rfl (fun ls hl => ?_)
    have kx25 : ∀ (x1_25 : Int32) (x2_25 : Int32) (w_25 : Ob) (H : Heap) (locs : List Loc) (ls : Array Slot), (k_x_copy_25 q18.1 q1.2 q18.2) x1_25 x2_25 w_25 = some (r, u) → va_P D vwCl ((cFF fa wa pta i0a i1a bka kna tra jda f ++ (cWeb cI wa w1 w2 w3 w4 w5 w6 w7 w8 w9 w_25 ++ (cPst pta rr q18.1 ++ (cWork cI kna kn1 kn2 q1.2)))) ++ cRing cI cR rr ra q18.2) H → va_D A ((cFF fa wa pta i0a i1a bka kna tra jda f ++ (cWeb cI wa w1 w2 w3 w4 w5 w6 w7 w8 w9 w_25 ++ (cPst pta rr q18.1 ++ (cWork cI kna kn1 kn2 q1.2)))) ++ cRing cI cR rr ra q18.2) → va_S A s.heap H locs → lv_has ls 3 [(0, .ref fa), (1, .int x1_25), (2, .int x2_25)] → W p l e ({ frames := 5, cells := 0, slots := 0, locals := 119 } : Room) s m ([.ref fa] : List Value).toArray below meth c H locs 0 0 Q (F0 m 74 ls []) := by
      intro x1_25 x2_25 w_25 H locs ls hf hP hD hS hl
      rw [k_x_copy_25] at hf
      refine lv_iload_n hx hb dX6_copy_74 rfl (lv_at hl 1 rfl) ?_
      exact hret _ _ _ (w_25, q18.1, q1.2, q18.2) _ _ hf dX6_copy_75 hP hD hS
    have lh25 : ∀ (fu25 : Nat) (x1_25 : Int32) (x2_25 : Int32) (w_25 : Ob) (H : Heap) (locs : List Loc) (ls : Array Slot), lp_x_copy_25 q1.2 (k_x_copy_25 q18.1 q1.2 q18.2) fu25 x1_25 x2_25 w_25 = some (r, u) → va_P D vwCl ((cFF fa wa pta i0a i1a bka kna tra jda f ++ (cWeb cI wa w1 w2 w3 w4 w5 w6 w7 w8 w9 w_25 ++ (cPst pta rr q18.1 ++ (cWork cI kna kn1 kn2 q1.2)))) ++ cRing cI cR rr ra q18.2) H → va_D A ((cFF fa wa pta i0a i1a bka kna tra jda f ++ (cWeb cI wa w1 w2 w3 w4 w5 w6 w7 w8 w9 w_25 ++ (cPst pta rr q18.1 ++ (cWork cI kna kn1 kn2 q1.2)))) ++ cRing cI cR rr ra q18.2) → va_S A s.heap H locs → lv_has ls 3 [(0, .ref fa), (1, .int x1_25), (2, .int x2_25)] → W p l e ({ frames := 5, cells := 0, slots := 0, locals := 119 } : Room) s m ([.ref fa] : List Value).toArray below meth c H locs 0 0 Q (F0 m 25 ls []) := by
      intro fu25
      induction fu25 with
      | zero => intro x1_25 x2_25 w_25 H locs ls hf hP hD hS hl; exact no_none hf
      | succ fu25 ih25 =>
        intro x1_25 x2_25 w_25 H locs ls hf hP hD hS hl
        rw [lp_x_copy_25] at hf
        refine lv_iload_n hx hb dX6_copy_25 rfl (lv_at hl 2 rfl) ?_
        refine lv_aload_n hx hb dX6_copy_26 rfl (lv_at hl 0 rfl) ?_
        refine va_get (D := D) (ci := 6) (v := .ref wa) (C := RX6) (T := TX6) (N := 9) hx hb hts inT6 hown hK hP 0 rfl rfl 0 (by decide) (hts _ mT_226) (fun _ h9 => h9) rfl dX6_copy_27 ?_
        refine va_get (D := D) (ci := 4) (v := .int (w_25 0 1)) (C := RX4) (T := TX4) (N := 12) hx hb hts inT4 hown hK hP 1 rfl rfl 1 (by decide) (hts _ mT_80) (fun _ h9 => h9) rfl dX6_copy_30 ?_
        refine lv_icmp_ge (tgt := 74) hx hb dX6_copy_33 (by decide) (fun c33 => ?_) (fun c33 => ?_)
        · have hf := ite_t c33 hf
          exact kx25 x1_25 x2_25 w_25 _ _ _ hf hP hD hS (lv_sub hl [0, 1, 2] rfl)
        · have hf := ite_f c33 hf
          refine lv_aload_n hx hb dX6_copy_36 rfl (lv_at hl 0 rfl) ?_
          refine va_get (D := D) (ci := 6) (v := .ref wa) (C := RX6) (T := TX6) (N := 9) hx hb hts inT6 hown hK hP 0 rfl rfl 0 (by decide) (hts _ mT_226) (fun _ h9 => h9) rfl dX6_copy_37 ?_
          refine lv_iload_n hx hb dX6_copy_40 rfl (lv_at hl 2 rfl) ?_
          obtain ⟨q41, h41, hf⟩ := bd_some hf
          refine kx_rv (As := [.int x2_25]) (rest := []) hx hb hml hown hts hk (hP.sub (ws' := cWeb cI wa w1 w2 w3 w4 w5 w6 w7 w8 w9 w_25) [1, 2, 3, 4, 5, 6, 7, 8, 9, 10] rfl) hl.1 s_yX4_isKept v_yX4_isKept (c_isKept l D cI cZ cR wa w1 w2 w3 w4 w5 w6 w7 w8 w9 w_25 x2_25 _ h41) mT_410 rfl rfl ⟨Nat.le_of_ble_eq_true rfl, Nat.le_of_ble_eq_true rfl⟩ (ci := 4) (q0 := 0) rfl rfl rfl (Nat.le_of_ble_eq_true rfl) ⟨Nat.zero_le _, Nat.zero_le _⟩ dX6_copy_41 ?_
          refine lv_if_eq (tgt := 68) hx hb dX6_copy_44 (by decide) (fun c44 => ?_) (fun c44 => ?_)
          · have hf := ite_t c44 hf
            refine lv_iinc (v := x2_25 + 1) (lv' := [(2, .int (x2_25 + 1)), (0, .ref fa), (1, .int x1_25)]) hx hb dX6_copy_68 hl (k := 2) rfl rfl (by decide) rfl (fun ls hl => ?_)
            refine lv_goto (tgt := 25) hx hb dX6_copy_71 (by decide) ?_
            exact ih25 x1_25 (x2_25 + 1) w_25 _ _ _ hf hP hD hS (lv_sub hl [1, 2, 0] rfl)
          · have hf := ite_f c44 hf
            refine lv_aload_n hx hb dX6_copy_47 rfl (lv_at hl 0 rfl) ?_
            refine va_get (D := D) (ci := 6) (v := .ref wa) (C := RX6) (T := TX6) (N := 9) hx hb hts inT6 hown hK hP 0 rfl rfl 0 (by decide) (hts _ mT_226) (fun _ h9 => h9) rfl dX6_copy_48 ?_
            refine va_get (D := D) (ci := 4) (v := .ref w3) (C := RX4) (T := TX4) (N := 12) hx hb hts inT4 hown hK hP 1 rfl rfl 5 (by decide) (hts _ mT_90) (fun _ h9 => h9) rfl dX6_copy_51 ?_
            refine lv_iload_n hx hb dX6_copy_54 rfl (lv_at hl 2 rfl) ?_
            refine lv_aload_n hx hb dX6_copy_55 rfl (lv_at hl 0 rfl) ?_
            refine va_get (D := D) (ci := 6) (v := .ref kna) (C := RX6) (T := TX6) (N := 9) hx hb hts inT6 hown hK hP 0 rfl rfl 5 (by decide) (hts _ mT_231) (fun _ h9 => h9) rfl dX6_copy_56 ?_
            refine va_get (D := D) (ci := 5) (v := .ref kn1) (C := RX5) (T := TX5) (N := 3) hx hb hts inT5 hown hK hP 12 rfl rfl 0 (by decide) (hts _ mT_194) (fun _ h9 => h9) rfl dX6_copy_59 ?_
            refine lv_iload_n hx hb dX6_copy_62 rfl (lv_at hl 2 rfl) ?_
            obtain ⟨b63, hf⟩ := gd_some hf
            refine va_iald (n := 10) (f := q1.2 1) hx hb hK hP 13 0 rfl rfl (ck_in b63) dX6_copy_63 ?_
            obtain ⟨b64, hf⟩ := gd_some hf
            refine va_iast (n := 10) (f := w_25 3) hx hb hK hP hD hS 4 0 rfl rfl (ck_in b64) dX6_copy_64 (fun H locs hP hD hS => ?_)
            have hP : va_P D vwCl ((cFF fa wa pta i0a i1a bka kna tra jda f ++ ([(wa, .inr (4, [.int (w_25 0 0), .int (w_25 0 1), .int (w_25 0 2), .ref w1, .ref w2, .ref w3, .ref w4, .ref w5, .ref w6, .ref w7, .ref w8, .ref w9])), (w1, .inl (cI, 64, .inl (w_25 1))), (w2, .inl (cI, 10, .inl (w_25 2))), (w3, .inl (cI, 10, .inl (upd (w_25 3) (Int32.toNatClampNeg x2_25) ((q1.2 1) (Int32.toNatClampNeg x2_25))))), (w4, .inl (cI, 20, .inl (w_25 4))), (w5, .inl (cI, 20, .inl (w_25 5))), (w6, .inl (cI, 160, .inl (w_25 6))), (w7, .inl (cI, 20, .inl (w_25 7))), (w8, .inl (cI, 20, .inl (w_25 8))), (w9, .inl (cI, 20, .inl (w_25 9)))] ++ (cPst pta rr q18.1 ++ (cWork cI kna kn1 kn2 q1.2)))) ++ cRing cI cR rr ra q18.2) H := hP
            have hD : va_D A ((cFF fa wa pta i0a i1a bka kna tra jda f ++ ([(wa, .inr (4, [.int (w_25 0 0), .int (w_25 0 1), .int (w_25 0 2), .ref w1, .ref w2, .ref w3, .ref w4, .ref w5, .ref w6, .ref w7, .ref w8, .ref w9])), (w1, .inl (cI, 64, .inl (w_25 1))), (w2, .inl (cI, 10, .inl (w_25 2))), (w3, .inl (cI, 10, .inl (upd (w_25 3) (Int32.toNatClampNeg x2_25) ((q1.2 1) (Int32.toNatClampNeg x2_25))))), (w4, .inl (cI, 20, .inl (w_25 4))), (w5, .inl (cI, 20, .inl (w_25 5))), (w6, .inl (cI, 160, .inl (w_25 6))), (w7, .inl (cI, 20, .inl (w_25 7))), (w8, .inl (cI, 20, .inl (w_25 8))), (w9, .inl (cI, 20, .inl (w_25 9)))] ++ (cPst pta rr q18.1 ++ (cWork cI kna kn1 kn2 q1.2)))) ++ cRing cI cR rr ra q18.2) := hD
            refine lv_iinc (v := x1_25 + 1) (lv' := [(1, .int (x1_25 + 1)), (0, .ref fa), (2, .int x2_25)]) hx hb dX6_copy_65 hl (k := 1) rfl rfl (by decide) rfl (fun ls hl => ?_)
            refine lv_iinc (v := x2_25 + 1) (lv' := [(2, .int (x2_25 + 1)), (1, .int (x1_25 + 1)), (0, .ref fa)]) hx hb dX6_copy_68 hl (k := 2) rfl rfl (by decide) rfl (fun ls hl => ?_)
            refine lv_goto (tgt := 25) hx hb dX6_copy_71 (by decide) ?_
            exact ih25 (x1_25 + 1) (x2_25 + 1) (sA w_25 3 (upd (w_25 3) (Int32.toNatClampNeg x2_25) ((q1.2 1) (Int32.toNatClampNeg x2_25)))) _ _ _ hf hP hD hS (lv_sub hl [2, 1, 0] rfl)
    exact lh25 10000 0 0 w _ _ _ hf hP hD hS (lv_sub hl [2, 1, 0] rfl)
  · have hf := ite_t c4 hf
    refine lv_ldc (v := (-1000000003)) hx hb hown (hts _ mT_498) dX6_copy_7 ?_
    exact hret _ _ _ (w, pt, q1.2, rg) _ _ hf dX6_copy_9 hP hD hS
theorem s_yX6_draw : kMS yX6_draw cX6_draw 2 (some .int) 1 := ⟨mT_514, mT_51, by decide +kernel⟩
theorem v_yX6_draw : kMV yX6_draw := ⟨mT_513, mT_16⟩
def f_x_draw (f : Ob) (x : Int32) : Option (Int32 × Ob) := if x ≤ 0 then (some (0, sI f 0 (Int64.toInt32 ((((Int32.toInt64 (f 0 0)) * 1103515245) + 12345) - (((Int32.toInt64 (f 0 0)) * 1103515245) + 12345) / 2147483648 * 2147483648)))) else (gd (nz x) (some (((Int64.toInt32 ((((Int32.toInt64 (f 0 0)) * 1103515245) + 12345) - (((Int32.toInt64 (f 0 0)) * 1103515245) + 12345) / 2147483648 * 2147483648)) / 65536) - ((Int64.toInt32 ((((Int32.toInt64 (f 0 0)) * 1103515245) + 12345) - (((Int32.toInt64 (f 0 0)) * 1103515245) + 12345) / 2147483648 * 2147483648)) / 65536) / x * x, sI f 0 (Int64.toInt32 ((((Int32.toInt64 (f 0 0)) * 1103515245) + 12345) - (((Int32.toInt64 (f 0 0)) * 1103515245) + 12345) / 2147483648 * 2147483648)))))
set_option maxHeartbeats 4000000 in
set_option maxRecDepth 100000 in
theorem c_x_draw (l : Launch) (D : va_G) (cI cZ cR : ClassId) (fa wa pta i0a i1a bka kna tra jda : Nat) (f : Ob) (x : Int32) (sz : Nat) (r : Int32) (u : Ob) (hf : f_x_draw f x = some (r, u)) : kCi l yX6_draw cX6_draw 2 (some .int) { frames := 0, cells := 0, slots := 0, locals := 0 } [.ref fa, .int x] D cI cZ cR (cFF fa wa pta i0a i1a bka kna tra jda f) sz (cFF fa wa pta i0a i1a bka kna tra jda u) r := by
  refine kMwi (wf := (fun u : Ob => cFF fa wa pta i0a i1a bka kna tra jda u)) (u := u) (by decide) (Nat.le_of_ble_eq_true rfl) ?_
  intro p e s m below meth c Q A hx hb hml hown hts hk hP hD hA hS hret ls hl
  have hS0 := hS
  have hK := hk.1
  have hl : lv_has ls 2 [(0, .ref fa), (1, .int x)] := hl
  rw [f_x_draw] at hf
  refine lv_aload_n hx hb dX6_draw_0 rfl (lv_at hl 0 rfl) ?_
  refine lv_aload_n hx hb dX6_draw_1 rfl (lv_at hl 0 rfl) ?_
  refine va_get (D := D) (ci := 6) (v := .int (f 0 0)) (C := RX6) (T := TX6) (N := 9) hx hb hts inT6 hown hK hP 0 rfl rfl 8 (by decide) (hts _ mT_234) (fun _ h9 => h9) rfl dX6_draw_2 ?_
  refine lv_i2l (v := Int32.toInt64 (f 0 0)) hx hb dX6_draw_5 rfl ?_
  refine lv_ldc2 (v := 1103515245) hx hb hown (hts _ mT_515) dX6_draw_6 ?_
  refine lv_lmul hx hb dX6_draw_9 ?_
  refine lv_ldc2 (v := 12345) hx hb hown (hts _ mT_516) dX6_draw_10 ?_
  refine lv_ladd hx hb dX6_draw_13 ?_
  refine lv_ldc2 (v := 2147483648) hx hb hown (hts _ mT_517) dX6_draw_14 ?_
  refine lv_lrem hx hb dX6_draw_17 (by decide) ?_
  refine lv_l2i (v := Int64.toInt32 ((((Int32.toInt64 (f 0 0)) * 1103515245) + 12345) - (((Int32.toInt64 (f 0 0)) * 1103515245) + 12345) / 2147483648 * 2147483648)) hx hb dX6_draw_18 rfl ?_
  refine va_put (D := D) (ci := 6) (v := .int (Int64.toInt32 ((((Int32.toInt64 (f 0 0)) * 1103515245) + 12345) - (((Int32.toInt64 (f 0 0)) * 1103515245) + 12345) / 2147483648 * 2147483648))) (ty := .int) (C := RX6) (T := TX6) (N := 9) hx hb hts inT6 tyX6 tyX6_ok nmX6 hown hK hP hD hS 0 rfl rfl 8 (by decide) (hts _ mT_234) (fun _ h9 => h9) rfl (by decide +kernel) rfl rfl (Nat.le_of_ble_eq_true rfl) dX6_draw_19 (fun H locs hP hD hS => ?_)
  have hP : va_P D vwCl ([(fa, .inr (6, [.ref wa, .ref pta, .ref i0a, .ref i1a, .ref bka, .ref kna, .ref tra, .ref jda, .int (Int64.toInt32 ((((Int32.toInt64 (f 0 0)) * 1103515245) + 12345) - (((Int32.toInt64 (f 0 0)) * 1103515245) + 12345) / 2147483648 * 2147483648))]))]) H := hP
  have hD : va_D A ([(fa, .inr (6, [.ref wa, .ref pta, .ref i0a, .ref i1a, .ref bka, .ref kna, .ref tra, .ref jda, .int (Int64.toInt32 ((((Int32.toInt64 (f 0 0)) * 1103515245) + 12345) - (((Int32.toInt64 (f 0 0)) * 1103515245) + 12345) / 2147483648 * 2147483648))]))]) := hD
  refine lv_iload_n hx hb dX6_draw_22 rfl (lv_at hl 1 rfl) ?_
  refine lv_if_le (tgt := 38) hx hb dX6_draw_23 (by decide) (fun c23 => ?_) (fun c23 => ?_)
  · have hf := ite_t c23 hf
    refine lv_iconst (v := 0) hx hb dX6_draw_38 (by decide) ?_
    exact hret _ _ _ (sI f 0 (Int64.toInt32 ((((Int32.toInt64 (f 0 0)) * 1103515245) + 12345) - (((Int32.toInt64 (f 0 0)) * 1103515245) + 12345) / 2147483648 * 2147483648))) _ _ hf dX6_draw_39 hP hD hS
  · have hf := ite_f c23 hf
    refine lv_aload_n hx hb dX6_draw_26 rfl (lv_at hl 0 rfl) ?_
    refine va_get (D := D) (ci := 6) (v := .int (Int64.toInt32 ((((Int32.toInt64 (f 0 0)) * 1103515245) + 12345) - (((Int32.toInt64 (f 0 0)) * 1103515245) + 12345) / 2147483648 * 2147483648))) (C := RX6) (T := TX6) (N := 9) hx hb hts inT6 hown hK hP 0 rfl rfl 8 (by decide) (hts _ mT_234) (fun _ h9 => h9) rfl dX6_draw_27 ?_
    refine lv_ldc (v := 65536) hx hb hown (hts _ mT_518) dX6_draw_30 ?_
    refine lv_idiv hx hb dX6_draw_32 (by decide) ?_
    refine lv_iload_n hx hb dX6_draw_33 rfl (lv_at hl 1 rfl) ?_
    obtain ⟨b34, hf⟩ := gd_some hf
    refine lv_irem hx hb dX6_draw_34 (nz_ne b34) ?_
    refine lv_goto (tgt := 39) hx hb dX6_draw_35 (by decide) ?_
    exact hret _ _ _ (sI f 0 (Int64.toInt32 ((((Int32.toInt64 (f 0 0)) * 1103515245) + 12345) - (((Int32.toInt64 (f 0 0)) * 1103515245) + 12345) / 2147483648 * 2147483648))) _ _ hf dX6_draw_39 hP hD hS
theorem s_yX6_addDrawnWay : kMS yX6_addDrawnWay cX6_addDrawnWay 4 none 0 := ⟨mT_510, mT_51, by decide +kernel⟩
theorem v_yX6_addDrawnWay : kMV yX6_addDrawnWay := ⟨mT_509, mT_15⟩
def f_x_addDrawnWay (f : Ob) (w : Ob) : Option (Ob × Ob) := bd (f_x_draw f (w 0 1)) (fun q8 => bd (f_x_draw q8.2 (w 0 1)) (fun q20 => bd (f_addWay w q8.1 q20.1) (fun q30 => bd (f_x_draw q20.2 (q30.2 0 0)) (fun q50 => gd (ck q30.1 20) (bd (f_x_draw q50.2 8) (fun q66 => gd (ck q30.1 20) (bd (f_x_draw q66.2 8) (fun q83 => gd (ck q30.1 20) (some (q83.2, sA (sA (sA q30.2 9 (upd (q30.2 9) (Int32.toNatClampNeg q30.1) q50.1)) 7 (upd (q30.2 7) (Int32.toNatClampNeg q30.1) (1 <<< (q66.1 &&& 31)))) 8 (upd (q30.2 8) (Int32.toNatClampNeg q30.1) (1 <<< (q83.1 &&& 31)))))))))))))
set_option maxHeartbeats 4000000 in
set_option maxRecDepth 100000 in
theorem c_x_addDrawnWay (l : Launch) (D : va_G) (cI cZ cR : ClassId) (fa wa pta i0a i1a bka kna tra jda w1 w2 w3 w4 w5 w6 w7 w8 w9 : Nat) (f : Ob) (w : Ob) (sz : Nat) (u : Ob × Ob) (hf : f_x_addDrawnWay f w = some u) : kCv l yX6_addDrawnWay cX6_addDrawnWay 4 none { frames := 1, cells := 0, slots := 0, locals := 24 } [.ref fa] D cI cZ cR (cFF fa wa pta i0a i1a bka kna tra jda f ++ (cWeb cI wa w1 w2 w3 w4 w5 w6 w7 w8 w9 w)) sz (cFF fa wa pta i0a i1a bka kna tra jda u.1 ++ (cWeb cI wa w1 w2 w3 w4 w5 w6 w7 w8 w9 u.2)) := by
  refine kMwv (wf := (fun u : Ob × Ob => cFF fa wa pta i0a i1a bka kna tra jda u.1 ++ (cWeb cI wa w1 w2 w3 w4 w5 w6 w7 w8 w9 u.2))) (u := u) (by decide) (Nat.le_of_ble_eq_true rfl) ?_
  intro p e s m below meth c Q A hx hb hml hown hts hk hP hD hA hS hret ls hl
  have hS0 := hS
  have hK := hk.1
  have hl : lv_has ls 4 [(0, .ref fa)] := hl
  rw [f_x_addDrawnWay] at hf
  refine lv_aload_n hx hb dX6_addDrawnWay_0 rfl (lv_at hl 0 rfl) ?_
  refine lv_aload_n hx hb dX6_addDrawnWay_1 rfl (lv_at hl 0 rfl) ?_
  refine va_get (D := D) (ci := 6) (v := .ref wa) (C := RX6) (T := TX6) (N := 9) hx hb hts inT6 hown hK hP 0 rfl rfl 0 (by decide) (hts _ mT_226) (fun _ h9 => h9) rfl dX6_addDrawnWay_2 ?_
  refine va_get (D := D) (ci := 4) (v := .int (w 0 1)) (C := RX4) (T := TX4) (N := 12) hx hb hts inT4 hown hK hP 1 rfl rfl 1 (by decide) (hts _ mT_80) (fun _ h9 => h9) rfl dX6_addDrawnWay_5 ?_
  obtain ⟨q8, h8, hf⟩ := bd_some hf
  refine kx_wi (As := [.int (w 0 1)]) (rest := []) (wc := cFF fa wa pta i0a i1a bka kna tra jda f) (wr := [(wa, .inr (4, [.int (w 0 0), .int (w 0 1), .int (w 0 2), .ref w1, .ref w2, .ref w3, .ref w4, .ref w5, .ref w6, .ref w7, .ref w8, .ref w9])), (w1, .inl (cI, 64, .inl (w 1))), (w2, .inl (cI, 10, .inl (w 2))), (w3, .inl (cI, 10, .inl (w 3))), (w4, .inl (cI, 20, .inl (w 4))), (w5, .inl (cI, 20, .inl (w 5))), (w6, .inl (cI, 160, .inl (w 6))), (w7, .inl (cI, 20, .inl (w 7))), (w8, .inl (cI, 20, .inl (w 8))), (w9, .inl (cI, 20, .inl (w 9)))]) (wd := cFF fa wa pta i0a i1a bka kna tra jda q8.2) (wn := cFF fa wa pta i0a i1a bka kna tra jda q8.2 ++ (cWeb cI wa w1 w2 w3 w4 w5 w6 w7 w8 w9 w)) hx hb hml hown hts hk hP hD hS hA hl.1 s_yX6_draw v_yX6_draw (c_x_draw l D cI cZ cR fa wa pta i0a i1a bka kna tra jda f (w 0 1) s.heap.size _ _ h8) mT_511 rfl rfl ⟨Nat.le_of_ble_eq_true rfl, Nat.le_of_ble_eq_true rfl⟩ [0] [1, 2, 3, 4, 5, 6, 7, 8, 9, 10] [10, 0, 1, 2, 3, 4, 5, 6, 7, 8, 9] rfl rfl (by decide) (by decide) (by decide) (by decide) rfl (ci := 6) (q0 := 0) rfl rfl rfl (Nat.le_of_ble_eq_true rfl) ⟨Nat.zero_le _, Nat.zero_le _⟩ dX6_addDrawnWay_8 (fun H locs hP hD hS => ?_)
  refine lv_istore_n (lv' := [(1, .int q8.1), (0, .ref fa)]) hx hb dX6_addDrawnWay_11 rfl hl (by decide) rfl (fun ls hl => ?_)
  refine lv_aload_n hx hb dX6_addDrawnWay_12 rfl (lv_at hl 1 rfl) ?_
  refine lv_aload_n hx hb dX6_addDrawnWay_13 rfl (lv_at hl 1 rfl) ?_
  refine va_get (D := D) (ci := 6) (v := .ref wa) (C := RX6) (T := TX6) (N := 9) hx hb hts inT6 hown hK hP 0 rfl rfl 0 (by decide) (hts _ mT_226) (fun _ h9 => h9) rfl dX6_addDrawnWay_14 ?_
  refine va_get (D := D) (ci := 4) (v := .int (w 0 1)) (C := RX4) (T := TX4) (N := 12) hx hb hts inT4 hown hK hP 1 rfl rfl 1 (by decide) (hts _ mT_80) (fun _ h9 => h9) rfl dX6_addDrawnWay_17 ?_
  obtain ⟨q20, h20, hf⟩ := bd_some hf
  refine kx_wi (As := [.int (w 0 1)]) (rest := []) (wc := cFF fa wa pta i0a i1a bka kna tra jda q8.2) (wr := [(wa, .inr (4, [.int (w 0 0), .int (w 0 1), .int (w 0 2), .ref w1, .ref w2, .ref w3, .ref w4, .ref w5, .ref w6, .ref w7, .ref w8, .ref w9])), (w1, .inl (cI, 64, .inl (w 1))), (w2, .inl (cI, 10, .inl (w 2))), (w3, .inl (cI, 10, .inl (w 3))), (w4, .inl (cI, 20, .inl (w 4))), (w5, .inl (cI, 20, .inl (w 5))), (w6, .inl (cI, 160, .inl (w 6))), (w7, .inl (cI, 20, .inl (w 7))), (w8, .inl (cI, 20, .inl (w 8))), (w9, .inl (cI, 20, .inl (w 9)))]) (wd := cFF fa wa pta i0a i1a bka kna tra jda q20.2) (wn := cFF fa wa pta i0a i1a bka kna tra jda q20.2 ++ (cWeb cI wa w1 w2 w3 w4 w5 w6 w7 w8 w9 w)) hx hb hml hown hts hk hP hD hS hA hl.1 s_yX6_draw v_yX6_draw (c_x_draw l D cI cZ cR fa wa pta i0a i1a bka kna tra jda q8.2 (w 0 1) H.size _ _ h20) mT_511 rfl rfl ⟨Nat.le_of_ble_eq_true rfl, Nat.le_of_ble_eq_true rfl⟩ [0] [1, 2, 3, 4, 5, 6, 7, 8, 9, 10] [10, 0, 1, 2, 3, 4, 5, 6, 7, 8, 9] rfl rfl (by decide) (by decide) (by decide) (by decide) rfl (ci := 6) (q0 := 0) rfl rfl rfl (Nat.le_of_ble_eq_true rfl) ⟨Nat.zero_le _, Nat.zero_le _⟩ dX6_addDrawnWay_20 (fun H locs hP hD hS => ?_)
  refine lv_istore_n (lv' := [(2, .int q20.1), (1, .int q8.1), (0, .ref fa)]) hx hb dX6_addDrawnWay_23 rfl hl (by decide) rfl (fun ls hl => ?_)
  refine lv_aload_n hx hb dX6_addDrawnWay_24 rfl (lv_at hl 2 rfl) ?_
  refine va_get (D := D) (ci := 6) (v := .ref wa) (C := RX6) (T := TX6) (N := 9) hx hb hts inT6 hown hK hP 0 rfl rfl 0 (by decide) (hts _ mT_226) (fun _ h9 => h9) rfl dX6_addDrawnWay_25 ?_
  refine lv_iload_n hx hb dX6_addDrawnWay_28 rfl (lv_at hl 1 rfl) ?_
  refine lv_iload_n hx hb dX6_addDrawnWay_29 rfl (lv_at hl 0 rfl) ?_
  obtain ⟨q30, h30, hf⟩ := bd_some hf
  refine kx_wi (As := [.int q8.1, .int q20.1]) (rest := []) (wc := cWeb cI wa w1 w2 w3 w4 w5 w6 w7 w8 w9 w) (wr := [(fa, .inr (6, [.ref wa, .ref pta, .ref i0a, .ref i1a, .ref bka, .ref kna, .ref tra, .ref jda, .int (q20.2 0 0)]))]) (wd := cWeb cI wa w1 w2 w3 w4 w5 w6 w7 w8 w9 q30.2) (wn := cFF fa wa pta i0a i1a bka kna tra jda q20.2 ++ (cWeb cI wa w1 w2 w3 w4 w5 w6 w7 w8 w9 q30.2)) hx hb hml hown hts hk hP hD hS hA hl.1 s_yX4_addWay v_yX4_addWay (c_addWay l D cI cZ cR wa w1 w2 w3 w4 w5 w6 w7 w8 w9 w q8.1 q20.1 H.size _ _ h30) mT_470 rfl rfl ⟨Nat.le_of_ble_eq_true rfl, Nat.le_of_ble_eq_true rfl⟩ [1, 2, 3, 4, 5, 6, 7, 8, 9, 10] [0] [0, 1, 2, 3, 4, 5, 6, 7, 8, 9, 10] rfl rfl (by decide) (by decide) (by decide) (by decide) rfl (ci := 4) (q0 := 0) rfl rfl rfl (Nat.le_of_ble_eq_true rfl) ⟨Nat.zero_le _, Nat.zero_le _⟩ dX6_addDrawnWay_30 (fun H locs hP hD hS => ?_)
  refine lv_istore_n (lv' := [(3, .int q30.1), (2, .int q20.1), (1, .int q8.1), (0, .ref fa)]) hx hb dX6_addDrawnWay_33 rfl hl (by decide) rfl (fun ls hl => ?_)
  refine lv_aload_n hx hb dX6_addDrawnWay_34 rfl (lv_at hl 3 rfl) ?_
  refine va_get (D := D) (ci := 6) (v := .ref wa) (C := RX6) (T := TX6) (N := 9) hx hb hts inT6 hown hK hP 0 rfl rfl 0 (by decide) (hts _ mT_226) (fun _ h9 => h9) rfl dX6_addDrawnWay_35 ?_
  refine va_get (D := D) (ci := 4) (v := .ref w9) (C := RX4) (T := TX4) (N := 12) hx hb hts inT4 hown hK hP 1 rfl rfl 11 (by decide) (hts _ mT_104) (fun _ h9 => h9) rfl dX6_addDrawnWay_38 ?_
  refine lv_iload_n hx hb dX6_addDrawnWay_41 rfl (lv_at hl 0 rfl) ?_
  refine lv_aload_n hx hb dX6_addDrawnWay_42 rfl (lv_at hl 3 rfl) ?_
  refine lv_aload_n hx hb dX6_addDrawnWay_43 rfl (lv_at hl 3 rfl) ?_
  refine va_get (D := D) (ci := 6) (v := .ref wa) (C := RX6) (T := TX6) (N := 9) hx hb hts inT6 hown hK hP 0 rfl rfl 0 (by decide) (hts _ mT_226) (fun _ h9 => h9) rfl dX6_addDrawnWay_44 ?_
  refine va_get (D := D) (ci := 4) (v := .int (q30.2 0 0)) (C := RX4) (T := TX4) (N := 12) hx hb hts inT4 hown hK hP 1 rfl rfl 0 (by decide) (hts _ mT_76) (fun _ h9 => h9) rfl dX6_addDrawnWay_47 ?_
  obtain ⟨q50, h50, hf⟩ := bd_some hf
  refine kx_wi (As := [.int (q30.2 0 0)]) (rest := [.int q30.1, .ref w9]) (wc := cFF fa wa pta i0a i1a bka kna tra jda q20.2) (wr := [(wa, .inr (4, [.int (q30.2 0 0), .int (q30.2 0 1), .int (q30.2 0 2), .ref w1, .ref w2, .ref w3, .ref w4, .ref w5, .ref w6, .ref w7, .ref w8, .ref w9])), (w1, .inl (cI, 64, .inl (q30.2 1))), (w2, .inl (cI, 10, .inl (q30.2 2))), (w3, .inl (cI, 10, .inl (q30.2 3))), (w4, .inl (cI, 20, .inl (q30.2 4))), (w5, .inl (cI, 20, .inl (q30.2 5))), (w6, .inl (cI, 160, .inl (q30.2 6))), (w7, .inl (cI, 20, .inl (q30.2 7))), (w8, .inl (cI, 20, .inl (q30.2 8))), (w9, .inl (cI, 20, .inl (q30.2 9)))]) (wd := cFF fa wa pta i0a i1a bka kna tra jda q50.2) (wn := cFF fa wa pta i0a i1a bka kna tra jda q50.2 ++ (cWeb cI wa w1 w2 w3 w4 w5 w6 w7 w8 w9 q30.2)) hx hb hml hown hts hk hP hD hS hA hl.1 s_yX6_draw v_yX6_draw (c_x_draw l D cI cZ cR fa wa pta i0a i1a bka kna tra jda q20.2 (q30.2 0 0) H.size _ _ h50) mT_511 rfl rfl ⟨Nat.le_of_ble_eq_true rfl, Nat.le_of_ble_eq_true rfl⟩ [0] [1, 2, 3, 4, 5, 6, 7, 8, 9, 10] [10, 0, 1, 2, 3, 4, 5, 6, 7, 8, 9] rfl rfl (by decide) (by decide) (by decide) (by decide) rfl (ci := 6) (q0 := 0) rfl rfl rfl (Nat.le_of_ble_eq_true rfl) ⟨Nat.zero_le _, Nat.zero_le _⟩ dX6_addDrawnWay_50 (fun H locs hP hD hS => ?_)
  obtain ⟨b53, hf⟩ := gd_some hf
  refine va_iast (n := 20) (f := q30.2 9) hx hb hK hP hD hS 10 0 rfl rfl (ck_in b53) dX6_addDrawnWay_53 (fun H locs hP hD hS => ?_)
  have hP : va_P D vwCl (cFF fa wa pta i0a i1a bka kna tra jda q50.2 ++ ([(wa, .inr (4, [.int (q30.2 0 0), .int (q30.2 0 1), .int (q30.2 0 2), .ref w1, .ref w2, .ref w3, .ref w4, .ref w5, .ref w6, .ref w7, .ref w8, .ref w9])), (w1, .inl (cI, 64, .inl (q30.2 1))), (w2, .inl (cI, 10, .inl (q30.2 2))), (w3, .inl (cI, 10, .inl (q30.2 3))), (w4, .inl (cI, 20, .inl (q30.2 4))), (w5, .inl (cI, 20, .inl (q30.2 5))), (w6, .inl (cI, 160, .inl (q30.2 6))), (w7, .inl (cI, 20, .inl (q30.2 7))), (w8, .inl (cI, 20, .inl (q30.2 8))), (w9, .inl (cI, 20, .inl (upd (q30.2 9) (Int32.toNatClampNeg q30.1) q50.1)))])) H := hP
  have hD : va_D A (cFF fa wa pta i0a i1a bka kna tra jda q50.2 ++ ([(wa, .inr (4, [.int (q30.2 0 0), .int (q30.2 0 1), .int (q30.2 0 2), .ref w1, .ref w2, .ref w3, .ref w4, .ref w5, .ref w6, .ref w7, .ref w8, .ref w9])), (w1, .inl (cI, 64, .inl (q30.2 1))), (w2, .inl (cI, 10, .inl (q30.2 2))), (w3, .inl (cI, 10, .inl (q30.2 3))), (w4, .inl (cI, 20, .inl (q30.2 4))), (w5, .inl (cI, 20, .inl (q30.2 5))), (w6, .inl (cI, 160, .inl (q30.2 6))), (w7, .inl (cI, 20, .inl (q30.2 7))), (w8, .inl (cI, 20, .inl (q30.2 8))), (w9, .inl (cI, 20, .inl (upd (q30.2 9) (Int32.toNatClampNeg q30.1) q50.1)))])) := hD
  refine lv_aload_n hx hb dX6_addDrawnWay_54 rfl (lv_at hl 3 rfl) ?_
  refine va_get (D := D) (ci := 6) (v := .ref wa) (C := RX6) (T := TX6) (N := 9) hx hb hts inT6 hown hK hP 0 rfl rfl 0 (by decide) (hts _ mT_226) (fun _ h9 => h9) rfl dX6_addDrawnWay_55 ?_
  refine va_get (D := D) (ci := 4) (v := .ref w7) (C := RX4) (T := TX4) (N := 12) hx hb hts inT4 hown hK hP 1 rfl rfl 9 (by decide) (hts _ mT_100) (fun _ h9 => h9) rfl dX6_addDrawnWay_58 ?_
  refine lv_iload_n hx hb dX6_addDrawnWay_61 rfl (lv_at hl 0 rfl) ?_
  refine lv_iconst (v := 1) hx hb dX6_addDrawnWay_62 (by decide) ?_
  refine lv_aload_n hx hb dX6_addDrawnWay_63 rfl (lv_at hl 3 rfl) ?_
  refine lv_bipush (v := 8) hx hb dX6_addDrawnWay_64 (by decide) ?_
  obtain ⟨q66, h66, hf⟩ := bd_some hf
  refine kx_wi (As := [.int 8]) (rest := [.int 1, .int q30.1, .ref w7]) (wc := cFF fa wa pta i0a i1a bka kna tra jda q50.2) (wr := [(wa, .inr (4, [.int (q30.2 0 0), .int (q30.2 0 1), .int (q30.2 0 2), .ref w1, .ref w2, .ref w3, .ref w4, .ref w5, .ref w6, .ref w7, .ref w8, .ref w9])), (w1, .inl (cI, 64, .inl (q30.2 1))), (w2, .inl (cI, 10, .inl (q30.2 2))), (w3, .inl (cI, 10, .inl (q30.2 3))), (w4, .inl (cI, 20, .inl (q30.2 4))), (w5, .inl (cI, 20, .inl (q30.2 5))), (w6, .inl (cI, 160, .inl (q30.2 6))), (w7, .inl (cI, 20, .inl (q30.2 7))), (w8, .inl (cI, 20, .inl (q30.2 8))), (w9, .inl (cI, 20, .inl (upd (q30.2 9) (Int32.toNatClampNeg q30.1) q50.1)))]) (wd := cFF fa wa pta i0a i1a bka kna tra jda q66.2) (wn := cFF fa wa pta i0a i1a bka kna tra jda q66.2 ++ (cWeb cI wa w1 w2 w3 w4 w5 w6 w7 w8 w9 (sA q30.2 9 (upd (q30.2 9) (Int32.toNatClampNeg q30.1) q50.1)))) hx hb hml hown hts hk hP hD hS hA hl.1 s_yX6_draw v_yX6_draw (c_x_draw l D cI cZ cR fa wa pta i0a i1a bka kna tra jda q50.2 8 H.size _ _ h66) mT_511 rfl rfl ⟨Nat.le_of_ble_eq_true rfl, Nat.le_of_ble_eq_true rfl⟩ [0] [1, 2, 3, 4, 5, 6, 7, 8, 9, 10] [10, 0, 1, 2, 3, 4, 5, 6, 7, 8, 9] rfl rfl (by decide) (by decide) (by decide) (by decide) rfl (ci := 6) (q0 := 0) rfl rfl rfl (Nat.le_of_ble_eq_true rfl) ⟨Nat.zero_le _, Nat.zero_le _⟩ dX6_addDrawnWay_66 (fun H locs hP hD hS => ?_)
  refine lv_ishl hx hb dX6_addDrawnWay_69 ?_
  obtain ⟨b70, hf⟩ := gd_some hf
  refine va_iast (n := 20) (f := q30.2 7) hx hb hK hP hD hS 8 0 rfl rfl (ck_in b70) dX6_addDrawnWay_70 (fun H locs hP hD hS => ?_)
  have hP : va_P D vwCl (cFF fa wa pta i0a i1a bka kna tra jda q66.2 ++ ([(wa, .inr (4, [.int (q30.2 0 0), .int (q30.2 0 1), .int (q30.2 0 2), .ref w1, .ref w2, .ref w3, .ref w4, .ref w5, .ref w6, .ref w7, .ref w8, .ref w9])), (w1, .inl (cI, 64, .inl (q30.2 1))), (w2, .inl (cI, 10, .inl (q30.2 2))), (w3, .inl (cI, 10, .inl (q30.2 3))), (w4, .inl (cI, 20, .inl (q30.2 4))), (w5, .inl (cI, 20, .inl (q30.2 5))), (w6, .inl (cI, 160, .inl (q30.2 6))), (w7, .inl (cI, 20, .inl (upd (q30.2 7) (Int32.toNatClampNeg q30.1) (1 <<< (q66.1 &&& 31))))), (w8, .inl (cI, 20, .inl (q30.2 8))), (w9, .inl (cI, 20, .inl (upd (q30.2 9) (Int32.toNatClampNeg q30.1) q50.1)))])) H := hP
  have hD : va_D A (cFF fa wa pta i0a i1a bka kna tra jda q66.2 ++ ([(wa, .inr (4, [.int (q30.2 0 0), .int (q30.2 0 1), .int (q30.2 0 2), .ref w1, .ref w2, .ref w3, .ref w4, .ref w5, .ref w6, .ref w7, .ref w8, .ref w9])), (w1, .inl (cI, 64, .inl (q30.2 1))), (w2, .inl (cI, 10, .inl (q30.2 2))), (w3, .inl (cI, 10, .inl (q30.2 3))), (w4, .inl (cI, 20, .inl (q30.2 4))), (w5, .inl (cI, 20, .inl (q30.2 5))), (w6, .inl (cI, 160, .inl (q30.2 6))), (w7, .inl (cI, 20, .inl (upd (q30.2 7) (Int32.toNatClampNeg q30.1) (1 <<< (q66.1 &&& 31))))), (w8, .inl (cI, 20, .inl (q30.2 8))), (w9, .inl (cI, 20, .inl (upd (q30.2 9) (Int32.toNatClampNeg q30.1) q50.1)))])) := hD
  refine lv_aload_n hx hb dX6_addDrawnWay_71 rfl (lv_at hl 3 rfl) ?_
  refine va_get (D := D) (ci := 6) (v := .ref wa) (C := RX6) (T := TX6) (N := 9) hx hb hts inT6 hown hK hP 0 rfl rfl 0 (by decide) (hts _ mT_226) (fun _ h9 => h9) rfl dX6_addDrawnWay_72 ?_
  refine va_get (D := D) (ci := 4) (v := .ref w8) (C := RX4) (T := TX4) (N := 12) hx hb hts inT4 hown hK hP 1 rfl rfl 10 (by decide) (hts _ mT_102) (fun _ h9 => h9) rfl dX6_addDrawnWay_75 ?_
  refine lv_iload_n hx hb dX6_addDrawnWay_78 rfl (lv_at hl 0 rfl) ?_
  refine lv_iconst (v := 1) hx hb dX6_addDrawnWay_79 (by decide) ?_
  refine lv_aload_n hx hb dX6_addDrawnWay_80 rfl (lv_at hl 3 rfl) ?_
  refine lv_bipush (v := 8) hx hb dX6_addDrawnWay_81 (by decide) ?_
  obtain ⟨q83, h83, hf⟩ := bd_some hf
  refine kx_wi (As := [.int 8]) (rest := [.int 1, .int q30.1, .ref w8]) (wc := cFF fa wa pta i0a i1a bka kna tra jda q66.2) (wr := [(wa, .inr (4, [.int (q30.2 0 0), .int (q30.2 0 1), .int (q30.2 0 2), .ref w1, .ref w2, .ref w3, .ref w4, .ref w5, .ref w6, .ref w7, .ref w8, .ref w9])), (w1, .inl (cI, 64, .inl (q30.2 1))), (w2, .inl (cI, 10, .inl (q30.2 2))), (w3, .inl (cI, 10, .inl (q30.2 3))), (w4, .inl (cI, 20, .inl (q30.2 4))), (w5, .inl (cI, 20, .inl (q30.2 5))), (w6, .inl (cI, 160, .inl (q30.2 6))), (w7, .inl (cI, 20, .inl (upd (q30.2 7) (Int32.toNatClampNeg q30.1) (1 <<< (q66.1 &&& 31))))), (w8, .inl (cI, 20, .inl (q30.2 8))), (w9, .inl (cI, 20, .inl (upd (q30.2 9) (Int32.toNatClampNeg q30.1) q50.1)))]) (wd := cFF fa wa pta i0a i1a bka kna tra jda q83.2) (wn := cFF fa wa pta i0a i1a bka kna tra jda q83.2 ++ (cWeb cI wa w1 w2 w3 w4 w5 w6 w7 w8 w9 (sA (sA q30.2 9 (upd (q30.2 9) (Int32.toNatClampNeg q30.1) q50.1)) 7 (upd (q30.2 7) (Int32.toNatClampNeg q30.1) (1 <<< (q66.1 &&& 31)))))) hx hb hml hown hts hk hP hD hS hA hl.1 s_yX6_draw v_yX6_draw (c_x_draw l D cI cZ cR fa wa pta i0a i1a bka kna tra jda q66.2 8 H.size _ _ h83) mT_511 rfl rfl ⟨Nat.le_of_ble_eq_true rfl, Nat.le_of_ble_eq_true rfl⟩ [0] [1, 2, 3, 4, 5, 6, 7, 8, 9, 10] [10, 0, 1, 2, 3, 4, 5, 6, 7, 8, 9] rfl rfl (by decide) (by decide) (by decide) (by decide) rfl (ci := 6) (q0 := 0) rfl rfl rfl (Nat.le_of_ble_eq_true rfl) ⟨Nat.zero_le _, Nat.zero_le _⟩ dX6_addDrawnWay_83 (fun H locs hP hD hS => ?_)
  refine lv_ishl hx hb dX6_addDrawnWay_86 ?_
  obtain ⟨b87, hf⟩ := gd_some hf
  refine va_iast (n := 20) (f := q30.2 8) hx hb hK hP hD hS 9 0 rfl rfl (ck_in b87) dX6_addDrawnWay_87 (fun H locs hP hD hS => ?_)
  have hP : va_P D vwCl (cFF fa wa pta i0a i1a bka kna tra jda q83.2 ++ ([(wa, .inr (4, [.int (q30.2 0 0), .int (q30.2 0 1), .int (q30.2 0 2), .ref w1, .ref w2, .ref w3, .ref w4, .ref w5, .ref w6, .ref w7, .ref w8, .ref w9])), (w1, .inl (cI, 64, .inl (q30.2 1))), (w2, .inl (cI, 10, .inl (q30.2 2))), (w3, .inl (cI, 10, .inl (q30.2 3))), (w4, .inl (cI, 20, .inl (q30.2 4))), (w5, .inl (cI, 20, .inl (q30.2 5))), (w6, .inl (cI, 160, .inl (q30.2 6))), (w7, .inl (cI, 20, .inl (upd (q30.2 7) (Int32.toNatClampNeg q30.1) (1 <<< (q66.1 &&& 31))))), (w8, .inl (cI, 20, .inl (upd (q30.2 8) (Int32.toNatClampNeg q30.1) (1 <<< (q83.1 &&& 31))))), (w9, .inl (cI, 20, .inl (upd (q30.2 9) (Int32.toNatClampNeg q30.1) q50.1)))])) H := hP
  have hD : va_D A (cFF fa wa pta i0a i1a bka kna tra jda q83.2 ++ ([(wa, .inr (4, [.int (q30.2 0 0), .int (q30.2 0 1), .int (q30.2 0 2), .ref w1, .ref w2, .ref w3, .ref w4, .ref w5, .ref w6, .ref w7, .ref w8, .ref w9])), (w1, .inl (cI, 64, .inl (q30.2 1))), (w2, .inl (cI, 10, .inl (q30.2 2))), (w3, .inl (cI, 10, .inl (q30.2 3))), (w4, .inl (cI, 20, .inl (q30.2 4))), (w5, .inl (cI, 20, .inl (q30.2 5))), (w6, .inl (cI, 160, .inl (q30.2 6))), (w7, .inl (cI, 20, .inl (upd (q30.2 7) (Int32.toNatClampNeg q30.1) (1 <<< (q66.1 &&& 31))))), (w8, .inl (cI, 20, .inl (upd (q30.2 8) (Int32.toNatClampNeg q30.1) (1 <<< (q83.1 &&& 31))))), (w9, .inl (cI, 20, .inl (upd (q30.2 9) (Int32.toNatClampNeg q30.1) q50.1)))])) := hD
  exact hret _ _ (q83.2, sA (sA (sA q30.2 9 (upd (q30.2 9) (Int32.toNatClampNeg q30.1) q50.1)) 7 (upd (q30.2 7) (Int32.toNatClampNeg q30.1) (1 <<< (q66.1 &&& 31)))) 8 (upd (q30.2 8) (Int32.toNatClampNeg q30.1) (1 <<< (q83.1 &&& 31)))) _ _ hf dX6_addDrawnWay_88 hP hD hS
theorem s_yX6_drift : kMS yX6_drift cX6_drift 3 (some .int) 1 := ⟨mT_506, mT_51, by decide +kernel⟩
theorem v_yX6_drift : kMV yX6_drift := ⟨mT_504, mT_505⟩
def k_x_drift_16 (x2_16 : Int32) (f_16 : Ob) (w_16 : Ob) (pt_16 : Ob) (rg_16 : Nat → Ob) : Option (Int32 × Ob × Ob × Ob × (Nat → Ob)) := some (w_16 0 2, f_16, w_16, pt_16, rg_16)
def lp_x_drift_16 (x : Int32) (kk0 : Int32 → Ob → Ob → Ob → (Nat → Ob) → Option (Int32 × Ob × Ob × Ob × (Nat → Ob))) : Nat → Int32 → Ob → Ob → Ob → (Nat → Ob) → Option (Int32 × Ob × Ob × Ob × (Nat → Ob))
  | 0, _, _, _, _, _ => none
  | fu16 + 1, x2_16, f_16, w_16, pt_16, rg_16 => if x ≤ x2_16 then (kk0 x2_16 f_16 w_16 pt_16 rg_16) else (if (w_16 0 1) ≤ 0 then (kk0 x2_16 f_16 w_16 pt_16 rg_16) else (if 20 ≤ (w_16 0 2) then (kk0 x2_16 f_16 w_16 pt_16 rg_16) else (bd (f_remember pt_16 w_16 rg_16) (fun q51 => bd (f_x_addDrawnWay f_16 w_16) (fun q55 => (lp_x_drift_16 x kk0 fu16) (x2_16 + 1) q55.1 q55.2 q51.1 q51.2)))))
def f_x_drift (f : Ob) (w : Ob) (pt : Ob) (rg : Nat → Ob) (x : Int32) : Option (Int32 × Ob × Ob × Ob × (Nat → Ob)) := if x < 1 then (some ((-1000000002), f, w, pt, rg)) else (if x ≤ 16 then (lp_x_drift_16 x k_x_drift_16 10000 0 f w pt rg) else (some ((-1000000002), f, w, pt, rg)))
set_option maxHeartbeats 4000000 in
set_option maxRecDepth 100000 in
theorem c_x_drift (l : Launch) (D : va_G) (cI cZ cR : ClassId) (fa wa pta i0a i1a bka kna tra jda w1 w2 w3 w4 w5 w6 w7 w8 w9 rr : Nat) (ra : Nat → Nat → Nat) (f : Ob) (w : Ob) (pt : Ob) (rg : Nat → Ob) (x : Int32) (sz : Nat) (r : Int32) (u : Ob × Ob × Ob × (Nat → Ob)) (hf : f_x_drift f w pt rg x = some (r, u)) : kCi l yX6_drift cX6_drift 3 (some .int) { frames := 3, cells := 0, slots := 0, locals := 82 } [.ref fa, .int x] D cI cZ cR ((cFF fa wa pta i0a i1a bka kna tra jda f ++ (cWeb cI wa w1 w2 w3 w4 w5 w6 w7 w8 w9 w ++ (cPst pta rr pt))) ++ cRing cI cR rr ra rg) sz ((cFF fa wa pta i0a i1a bka kna tra jda u.1 ++ (cWeb cI wa w1 w2 w3 w4 w5 w6 w7 w8 w9 u.2.1 ++ (cPst pta rr u.2.2.1))) ++ cRing cI cR rr ra u.2.2.2) r := by
  refine kMwi (wf := (fun u : Ob × Ob × Ob × (Nat → Ob) => (cFF fa wa pta i0a i1a bka kna tra jda u.1 ++ (cWeb cI wa w1 w2 w3 w4 w5 w6 w7 w8 w9 u.2.1 ++ (cPst pta rr u.2.2.1))) ++ cRing cI cR rr ra u.2.2.2)) (u := u) (by decide) (Nat.le_of_ble_eq_true rfl) ?_
  intro p e s m below meth c Q A hx hb hml hown hts hk hP hD hA hS hret ls hl
  have hS0 := hS
  have hK := hk.1
  have hl : lv_has ls 3 [(0, .ref fa), (1, .int x)] := hl
  rw [f_x_drift] at hf
  refine lv_iload_n hx hb dX6_drift_0 rfl (lv_at hl 1 rfl) ?_
  refine lv_iconst (v := 1) hx hb dX6_drift_1 (by decide) ?_
  refine lv_icmp_lt (tgt := 11) hx hb dX6_drift_2 (by decide) (fun c2 => ?_) (fun c2 => ?_)
  · have hf := ite_t c2 hf
    refine lv_ldc (v := (-1000000002)) hx hb hown (hts _ mT_379) dX6_drift_11 ?_
    exact hret _ _ _ (f, w, pt, rg) _ _ hf dX6_drift_13 hP hD hS
  · have hf := ite_f c2 hf
    refine lv_iload_n hx hb dX6_drift_5 rfl (lv_at hl 1 rfl) ?_
    refine lv_bipush (v := 16) hx hb dX6_drift_6 (by decide) ?_
    refine lv_icmp_le (tgt := 14) hx hb dX6_drift_8 (by decide) (fun c8 => ?_) (fun c8 => ?_)
    · have hf := ite_t c8 hf
      refine lv_iconst (v := 0) hx hb dX6_drift_14 (by decide) ?_
      refine lv_istore_n (lv' := [(2, .int 0), (0, .ref fa), (1, .int x)]) hx hb dX6_drift_15 rfl hl (by decide) rfl (fun ls hl => ?_)
      have kx16 : ∀ (x2_16 : Int32) (f_16 : Ob) (w_16 : Ob) (pt_16 : Ob) (rg_16 : Nat → Ob) (H : Heap) (locs : List Loc) (ls : Array Slot), k_x_drift_16 x2_16 f_16 w_16 pt_16 rg_16 = some (r, u) → va_P D vwCl ((cFF fa wa pta i0a i1a bka kna tra jda f_16 ++ (cWeb cI wa w1 w2 w3 w4 w5 w6 w7 w8 w9 w_16 ++ (cPst pta rr pt_16))) ++ cRing cI cR rr ra rg_16) H → va_D A ((cFF fa wa pta i0a i1a bka kna tra jda f_16 ++ (cWeb cI wa w1 w2 w3 w4 w5 w6 w7 w8 w9 w_16 ++ (cPst pta rr pt_16))) ++ cRing cI cR rr ra rg_16) → va_S A s.heap H locs → lv_has ls 3 [(0, .ref fa), (1, .int x), (2, .int x2_16)] → W p l e ({ frames := 3, cells := 0, slots := 0, locals := 82 } : Room) s m ([.ref fa, .int x] : List Value).toArray below meth c H locs 0 0 Q (F0 m 64 ls []) := by
        intro x2_16 f_16 w_16 pt_16 rg_16 H locs ls hf hP hD hS hl
        rw [k_x_drift_16] at hf
        refine lv_aload_n hx hb dX6_drift_64 rfl (lv_at hl 0 rfl) ?_
        refine va_get (D := D) (ci := 6) (v := .ref wa) (C := RX6) (T := TX6) (N := 9) hx hb hts inT6 hown hK hP 0 rfl rfl 0 (by decide) (hts _ mT_226) (fun _ h9 => h9) rfl dX6_drift_65 ?_
        refine va_get (D := D) (ci := 4) (v := .int (w_16 0 2)) (C := RX4) (T := TX4) (N := 12) hx hb hts inT4 hown hK hP 1 rfl rfl 2 (by decide) (hts _ mT_82) (fun _ h9 => h9) rfl dX6_drift_68 ?_
        exact hret _ _ _ (f_16, w_16, pt_16, rg_16) _ _ hf dX6_drift_71 hP hD hS
      have lh16 : ∀ (fu16 : Nat) (x2_16 : Int32) (f_16 : Ob) (w_16 : Ob) (pt_16 : Ob) (rg_16 : Nat → Ob) (H : Heap) (locs : List Loc) (ls : Array Slot), lp_x_drift_16 x k_x_drift_16 fu16 x2_16 f_16 w_16 pt_16 rg_16 = some (r, u) → va_P D vwCl ((cFF fa wa pta i0a i1a bka kna tra jda f_16 ++ (cWeb cI wa w1 w2 w3 w4 w5 w6 w7 w8 w9 w_16 ++ (cPst pta rr pt_16))) ++ cRing cI cR rr ra rg_16) H → va_D A ((cFF fa wa pta i0a i1a bka kna tra jda f_16 ++ (cWeb cI wa w1 w2 w3 w4 w5 w6 w7 w8 w9 w_16 ++ (cPst pta rr pt_16))) ++ cRing cI cR rr ra rg_16) → va_S A s.heap H locs → lv_has ls 3 [(0, .ref fa), (1, .int x), (2, .int x2_16)] → W p l e ({ frames := 3, cells := 0, slots := 0, locals := 82 } : Room) s m ([.ref fa, .int x] : List Value).toArray below meth c H locs 0 0 Q (F0 m 16 ls []) := by
        intro fu16
        induction fu16 with
        | zero => intro x2_16 f_16 w_16 pt_16 rg_16 H locs ls hf hP hD hS hl; exact no_none hf
        | succ fu16 ih16 =>
          intro x2_16 f_16 w_16 pt_16 rg_16 H locs ls hf hP hD hS hl
          rw [lp_x_drift_16] at hf
          refine lv_iload_n hx hb dX6_drift_16 rfl (lv_at hl 2 rfl) ?_
          refine lv_iload_n hx hb dX6_drift_17 rfl (lv_at hl 1 rfl) ?_
          refine lv_icmp_ge (tgt := 64) hx hb dX6_drift_18 (by decide) (fun c18 => ?_) (fun c18 => ?_)
          · have hf := ite_t c18 hf
            exact kx16 x2_16 f_16 w_16 pt_16 rg_16 _ _ _ hf hP hD hS (lv_sub hl [0, 1, 2] rfl)
          · have hf := ite_f c18 hf
            refine lv_aload_n hx hb dX6_drift_21 rfl (lv_at hl 0 rfl) ?_
            refine va_get (D := D) (ci := 6) (v := .ref wa) (C := RX6) (T := TX6) (N := 9) hx hb hts inT6 hown hK hP 0 rfl rfl 0 (by decide) (hts _ mT_226) (fun _ h9 => h9) rfl dX6_drift_22 ?_
            refine va_get (D := D) (ci := 4) (v := .int (w_16 0 1)) (C := RX4) (T := TX4) (N := 12) hx hb hts inT4 hown hK hP 1 rfl rfl 1 (by decide) (hts _ mT_80) (fun _ h9 => h9) rfl dX6_drift_25 ?_
            refine lv_if_le (tgt := 64) hx hb dX6_drift_28 (by decide) (fun c28 => ?_) (fun c28 => ?_)
            · have hf := ite_t c28 hf
              exact kx16 x2_16 f_16 w_16 pt_16 rg_16 _ _ _ hf hP hD hS (lv_sub hl [0, 1, 2] rfl)
            · have hf := ite_f c28 hf
              refine lv_aload_n hx hb dX6_drift_31 rfl (lv_at hl 0 rfl) ?_
              refine va_get (D := D) (ci := 6) (v := .ref wa) (C := RX6) (T := TX6) (N := 9) hx hb hts inT6 hown hK hP 0 rfl rfl 0 (by decide) (hts _ mT_226) (fun _ h9 => h9) rfl dX6_drift_32 ?_
              refine va_get (D := D) (ci := 4) (v := .int (w_16 0 2)) (C := RX4) (T := TX4) (N := 12) hx hb hts inT4 hown hK hP 1 rfl rfl 2 (by decide) (hts _ mT_82) (fun _ h9 => h9) rfl dX6_drift_35 ?_
              refine lv_bipush (v := 20) hx hb dX6_drift_38 (by decide) ?_
              refine lv_icmp_ge (tgt := 64) hx hb dX6_drift_40 (by decide) (fun c40 => ?_) (fun c40 => ?_)
              · have hf := ite_t c40 hf
                exact kx16 x2_16 f_16 w_16 pt_16 rg_16 _ _ _ hf hP hD hS (lv_sub hl [0, 1, 2] rfl)
              · have hf := ite_f c40 hf
                refine lv_aload_n hx hb dX6_drift_43 rfl (lv_at hl 0 rfl) ?_
                refine va_get (D := D) (ci := 6) (v := .ref pta) (C := RX6) (T := TX6) (N := 9) hx hb hts inT6 hown hK hP 0 rfl rfl 1 (by decide) (hts _ mT_227) (fun _ h9 => h9) rfl dX6_drift_44 ?_
                refine lv_aload_n hx hb dX6_drift_47 rfl (lv_at hl 0 rfl) ?_
                refine va_get (D := D) (ci := 6) (v := .ref wa) (C := RX6) (T := TX6) (N := 9) hx hb hts inT6 hown hK hP 0 rfl rfl 0 (by decide) (hts _ mT_226) (fun _ h9 => h9) rfl dX6_drift_48 ?_
                obtain ⟨q51, h51, hf⟩ := bd_some hf
                refine kx_wvT (As := [.ref wa]) (rest := []) (ws := (cFF fa wa pta i0a i1a bka kna tra jda f_16 ++ (cWeb cI wa w1 w2 w3 w4 w5 w6 w7 w8 w9 w_16 ++ (cPst pta rr pt_16))) ++ cRing cI cR rr ra rg_16) (wn := (cFF fa wa pta i0a i1a bka kna tra jda f_16 ++ (cWeb cI wa w1 w2 w3 w4 w5 w6 w7 w8 w9 w_16 ++ (cPst pta rr q51.1))) ++ cRing cI cR rr ra q51.2) hx hb hml hown hts hk hP hD hS hA hl.1 s_yX3_remember v_yX3_remember (c_remember l D cI cZ cR pta rr wa w1 w2 w3 w4 w5 w6 w7 w8 w9 ra pt_16 w_16 rg_16 H.size _ h51) mT_440 rfl rfl ⟨Nat.le_of_ble_eq_true rfl, Nat.le_of_ble_eq_true rfl⟩ (pmU (T := cRing cI cR rr ra rg_16) (pmx (we := cFF fa wa pta i0a i1a bka kna tra jda f_16 ++ (cWeb cI wa w1 w2 w3 w4 w5 w6 w7 w8 w9 w_16 ++ (cPst pta rr pt_16))) (wx := (cPst pta rr pt_16 ++ (cWeb cI wa w1 w2 w3 w4 w5 w6 w7 w8 w9 w_16)) ++ [(fa, .inr (6, [.ref wa, .ref pta, .ref i0a, .ref i1a, .ref bka, .ref kna, .ref tra, .ref jda, .int (f_16 0 0)]))]) 12 [11, 1, 2, 3, 4, 5, 6, 7, 8, 9, 10, 0] rfl (by decide +kernel) rfl)) (pmU' (T := cRing cI cR rr ra q51.2) (pmx (we := (cPst pta rr q51.1 ++ (cWeb cI wa w1 w2 w3 w4 w5 w6 w7 w8 w9 w_16)) ++ [(fa, .inr (6, [.ref wa, .ref pta, .ref i0a, .ref i1a, .ref bka, .ref kna, .ref tra, .ref jda, .int (f_16 0 0)]))]) (wx := cFF fa wa pta i0a i1a bka kna tra jda f_16 ++ (cWeb cI wa w1 w2 w3 w4 w5 w6 w7 w8 w9 w_16 ++ (cPst pta rr q51.1))) 12 [11, 1, 2, 3, 4, 5, 6, 7, 8, 9, 10, 0] rfl (by decide +kernel) rfl)) (ci := 3) (q0 := 0) rfl rfl rfl (Nat.le_of_ble_eq_true rfl) ⟨Nat.zero_le _, Nat.zero_le _⟩ dX6_drift_51 (fun H locs hP hD hS => ?_)
                refine lv_aload_n hx hb dX6_drift_54 rfl (lv_at hl 0 rfl) ?_
                obtain ⟨q55, h55, hf⟩ := bd_some hf
                refine kx_wvT (As := []) (rest := []) (ws := (cFF fa wa pta i0a i1a bka kna tra jda f_16 ++ (cWeb cI wa w1 w2 w3 w4 w5 w6 w7 w8 w9 w_16 ++ (cPst pta rr q51.1))) ++ cRing cI cR rr ra q51.2) (wn := (cFF fa wa pta i0a i1a bka kna tra jda q55.1 ++ (cWeb cI wa w1 w2 w3 w4 w5 w6 w7 w8 w9 q55.2 ++ (cPst pta rr q51.1))) ++ cRing cI cR rr ra q51.2) hx hb hml hown hts hk hP hD hS hA hl.1 s_yX6_addDrawnWay v_yX6_addDrawnWay (c_x_addDrawnWay l D cI cZ cR fa wa pta i0a i1a bka kna tra jda w1 w2 w3 w4 w5 w6 w7 w8 w9 f_16 w_16 H.size _ h55) mT_507 rfl rfl ⟨Nat.le_of_ble_eq_true rfl, Nat.le_of_ble_eq_true rfl⟩ (pmT (T := cRing cI cR rr ra q51.2) (pmx (we := cFF fa wa pta i0a i1a bka kna tra jda f_16 ++ (cWeb cI wa w1 w2 w3 w4 w5 w6 w7 w8 w9 w_16 ++ (cPst pta rr q51.1))) (wx := (cFF fa wa pta i0a i1a bka kna tra jda f_16 ++ (cWeb cI wa w1 w2 w3 w4 w5 w6 w7 w8 w9 w_16)) ++ [(pta, .inr (3, [.int (q51.1 0 0), .int (q51.1 0 1), .ref rr]))]) 12 [0, 1, 2, 3, 4, 5, 6, 7, 8, 9, 10, 11] rfl (by decide +kernel) rfl)) (pmT' (T := cRing cI cR rr ra q51.2) (pmx (we := (cFF fa wa pta i0a i1a bka kna tra jda q55.1 ++ (cWeb cI wa w1 w2 w3 w4 w5 w6 w7 w8 w9 q55.2)) ++ [(pta, .inr (3, [.int (q51.1 0 0), .int (q51.1 0 1), .ref rr]))]) (wx := cFF fa wa pta i0a i1a bka kna tra jda q55.1 ++ (cWeb cI wa w1 w2 w3 w4 w5 w6 w7 w8 w9 q55.2 ++ (cPst pta rr q51.1))) 12 [0, 1, 2, 3, 4, 5, 6, 7, 8, 9, 10, 11] rfl (by decide +kernel) rfl)) (ci := 6) (q0 := 0) rfl rfl rfl (Nat.le_of_ble_eq_true rfl) ⟨Nat.zero_le _, Nat.zero_le _⟩ dX6_drift_55 (fun H locs hP hD hS => ?_)
                refine lv_iinc (v := x2_16 + 1) (lv' := [(2, .int (x2_16 + 1)), (0, .ref fa), (1, .int x)]) hx hb dX6_drift_58 hl (k := 2) rfl rfl (by decide) rfl (fun ls hl => ?_)
                refine lv_goto (tgt := 16) hx hb dX6_drift_61 (by decide) ?_
                exact ih16 (x2_16 + 1) q55.1 q55.2 q51.1 q51.2 _ _ _ hf hP hD hS (lv_sub hl [1, 2, 0] rfl)
      exact lh16 10000 0 f w pt rg _ _ _ hf hP hD hS (lv_sub hl [1, 2, 0] rfl)
    · have hf := ite_f c8 hf
      refine lv_ldc (v := (-1000000002)) hx hb hown (hts _ mT_379) dX6_drift_11 ?_
      exact hret _ _ _ (f, w, pt, rg) _ _ hf dX6_drift_13 hP hD hS
theorem s_yX6_undo : kMS yX6_undo cX6_undo 2 (some .int) 1 := ⟨mT_522, mT_51, by decide +kernel⟩
theorem v_yX6_undo : kMV yX6_undo := ⟨mT_520, mT_521⟩
def f_x_undo (f : Ob) (w : Ob) (pt : Ob) (rg : Nat → Ob) (x : Int32) : Option (Int32 × Ob × Ob) := if x < 1 then (some ((-1000000002), w, pt)) else (if x ≤ 16 then (if x ≤ (pt 0 0) then (bd (f_bringBack pt w rg x) (fun q37 => some (q37.2 0 2, q37.2, q37.1))) else (some ((-1000000003), w, pt))) else (some ((-1000000002), w, pt)))
set_option maxHeartbeats 4000000 in
set_option maxRecDepth 100000 in
theorem c_x_undo (l : Launch) (D : va_G) (cI cZ cR : ClassId) (fa wa pta i0a i1a bka kna tra jda w1 w2 w3 w4 w5 w6 w7 w8 w9 rr : Nat) (ra : Nat → Nat → Nat) (f : Ob) (w : Ob) (pt : Ob) (rg : Nat → Ob) (x : Int32) (sz : Nat) (r : Int32) (u : Ob × Ob) (hf : f_x_undo f w pt rg x = some (r, u)) : kCi l yX6_undo cX6_undo 2 (some .int) { frames := 3, cells := 0, slots := 0, locals := 83 } [.ref fa, .int x] D cI cZ cR ((cFF fa wa pta i0a i1a bka kna tra jda f ++ (cWeb cI wa w1 w2 w3 w4 w5 w6 w7 w8 w9 w ++ (cPst pta rr pt))) ++ cRing cI cR rr ra rg) sz ((cFF fa wa pta i0a i1a bka kna tra jda f ++ (cWeb cI wa w1 w2 w3 w4 w5 w6 w7 w8 w9 u.1 ++ (cPst pta rr u.2))) ++ cRing cI cR rr ra rg) r := by
  refine kMwi (wf := (fun u : Ob × Ob => (cFF fa wa pta i0a i1a bka kna tra jda f ++ (cWeb cI wa w1 w2 w3 w4 w5 w6 w7 w8 w9 u.1 ++ (cPst pta rr u.2))) ++ cRing cI cR rr ra rg)) (u := u) (by decide) (Nat.le_of_ble_eq_true rfl) ?_
  intro p e s m below meth c Q A hx hb hml hown hts hk hP hD hA hS hret ls hl
  have hS0 := hS
  have hK := hk.1
  have hl : lv_has ls 2 [(0, .ref fa), (1, .int x)] := hl
  rw [f_x_undo] at hf
  refine lv_iload_n hx hb dX6_undo_0 rfl (lv_at hl 1 rfl) ?_
  refine lv_iconst (v := 1) hx hb dX6_undo_1 (by decide) ?_
  refine lv_icmp_lt (tgt := 11) hx hb dX6_undo_2 (by decide) (fun c2 => ?_) (fun c2 => ?_)
  · have hf := ite_t c2 hf
    refine lv_ldc (v := (-1000000002)) hx hb hown (hts _ mT_379) dX6_undo_11 ?_
    exact hret _ _ _ (w, pt) _ _ hf dX6_undo_13 hP hD hS
  · have hf := ite_f c2 hf
    refine lv_iload_n hx hb dX6_undo_5 rfl (lv_at hl 1 rfl) ?_
    refine lv_bipush (v := 16) hx hb dX6_undo_6 (by decide) ?_
    refine lv_icmp_le (tgt := 14) hx hb dX6_undo_8 (by decide) (fun c8 => ?_) (fun c8 => ?_)
    · have hf := ite_t c8 hf
      refine lv_iload_n hx hb dX6_undo_14 rfl (lv_at hl 1 rfl) ?_
      refine lv_aload_n hx hb dX6_undo_15 rfl (lv_at hl 0 rfl) ?_
      refine va_get (D := D) (ci := 6) (v := .ref pta) (C := RX6) (T := TX6) (N := 9) hx hb hts inT6 hown hK hP 0 rfl rfl 1 (by decide) (hts _ mT_227) (fun _ h9 => h9) rfl dX6_undo_16 ?_
      refine va_get (D := D) (ci := 3) (v := .int (pt 0 0)) (C := RX3) (T := TX3) (N := 3) hx hb hts inT3 hown hK hP 11 rfl rfl 0 (by decide) (hts _ mT_141) (fun _ h9 => h9) rfl dX6_undo_19 ?_
      refine lv_icmp_le (tgt := 28) hx hb dX6_undo_22 (by decide) (fun c22 => ?_) (fun c22 => ?_)
      · have hf := ite_t c22 hf
        refine lv_aload_n hx hb dX6_undo_28 rfl (lv_at hl 0 rfl) ?_
        refine va_get (D := D) (ci := 6) (v := .ref pta) (C := RX6) (T := TX6) (N := 9) hx hb hts inT6 hown hK hP 0 rfl rfl 1 (by decide) (hts _ mT_227) (fun _ h9 => h9) rfl dX6_undo_29 ?_
        refine lv_aload_n hx hb dX6_undo_32 rfl (lv_at hl 0 rfl) ?_
        refine va_get (D := D) (ci := 6) (v := .ref wa) (C := RX6) (T := TX6) (N := 9) hx hb hts inT6 hown hK hP 0 rfl rfl 0 (by decide) (hts _ mT_226) (fun _ h9 => h9) rfl dX6_undo_33 ?_
        refine lv_iload_n hx hb dX6_undo_36 rfl (lv_at hl 1 rfl) ?_
        obtain ⟨q37, h37, hf⟩ := bd_some hf
        refine kx_wvT (As := [.ref wa, .int x]) (rest := []) (ws := (cFF fa wa pta i0a i1a bka kna tra jda f ++ (cWeb cI wa w1 w2 w3 w4 w5 w6 w7 w8 w9 w ++ (cPst pta rr pt))) ++ cRing cI cR rr ra rg) (wn := (cFF fa wa pta i0a i1a bka kna tra jda f ++ (cWeb cI wa w1 w2 w3 w4 w5 w6 w7 w8 w9 q37.2 ++ (cPst pta rr q37.1))) ++ cRing cI cR rr ra rg) hx hb hml hown hts hk hP hD hS hA hl.1 s_yX3_bringBack v_yX3_bringBack (c_bringBack l D cI cZ cR pta rr wa w1 w2 w3 w4 w5 w6 w7 w8 w9 ra pt w rg x s.heap.size _ h37) mT_523 rfl rfl ⟨Nat.le_of_ble_eq_true rfl, Nat.le_of_ble_eq_true rfl⟩ (pmU (T := cRing cI cR rr ra rg) (pmx (we := cFF fa wa pta i0a i1a bka kna tra jda f ++ (cWeb cI wa w1 w2 w3 w4 w5 w6 w7 w8 w9 w ++ (cPst pta rr pt))) (wx := (cPst pta rr pt ++ (cWeb cI wa w1 w2 w3 w4 w5 w6 w7 w8 w9 w)) ++ [(fa, .inr (6, [.ref wa, .ref pta, .ref i0a, .ref i1a, .ref bka, .ref kna, .ref tra, .ref jda, .int (f 0 0)]))]) 12 [11, 1, 2, 3, 4, 5, 6, 7, 8, 9, 10, 0] rfl (by decide +kernel) rfl)) (pmU' (T := cRing cI cR rr ra rg) (pmx (we := (cPst pta rr q37.1 ++ (cWeb cI wa w1 w2 w3 w4 w5 w6 w7 w8 w9 q37.2)) ++ [(fa, .inr (6, [.ref wa, .ref pta, .ref i0a, .ref i1a, .ref bka, .ref kna, .ref tra, .ref jda, .int (f 0 0)]))]) (wx := cFF fa wa pta i0a i1a bka kna tra jda f ++ (cWeb cI wa w1 w2 w3 w4 w5 w6 w7 w8 w9 q37.2 ++ (cPst pta rr q37.1))) 12 [11, 1, 2, 3, 4, 5, 6, 7, 8, 9, 10, 0] rfl (by decide +kernel) rfl)) (ci := 3) (q0 := 0) rfl rfl rfl (Nat.le_of_ble_eq_true rfl) ⟨Nat.zero_le _, Nat.zero_le _⟩ dX6_undo_37 (fun H locs hP hD hS => ?_)
        refine lv_aload_n hx hb dX6_undo_40 rfl (lv_at hl 0 rfl) ?_
        refine va_get (D := D) (ci := 6) (v := .ref wa) (C := RX6) (T := TX6) (N := 9) hx hb hts inT6 hown hK hP 0 rfl rfl 0 (by decide) (hts _ mT_226) (fun _ h9 => h9) rfl dX6_undo_41 ?_
        refine va_get (D := D) (ci := 4) (v := .int (q37.2 0 2)) (C := RX4) (T := TX4) (N := 12) hx hb hts inT4 hown hK hP 1 rfl rfl 2 (by decide) (hts _ mT_82) (fun _ h9 => h9) rfl dX6_undo_44 ?_
        exact hret _ _ _ (q37.2, q37.1) _ _ hf dX6_undo_47 hP hD hS
      · have hf := ite_f c22 hf
        refine lv_ldc (v := (-1000000003)) hx hb hown (hts _ mT_498) dX6_undo_25 ?_
        exact hret _ _ _ (w, pt) _ _ hf dX6_undo_27 hP hD hS
    · have hf := ite_f c8 hf
      refine lv_ldc (v := (-1000000002)) hx hb hown (hts _ mT_379) dX6_undo_11 ?_
      exact hret _ _ _ (w, pt) _ _ hf dX6_undo_13 hP hD hS
theorem s_yX6_note : kMS yX6_note cX6_note 4 (some .int) 3 := ⟨mT_530, mT_51, by decide +kernel⟩
theorem v_yX6_note : kMV yX6_note := ⟨mT_528, mT_529⟩
def f_x_note (f : Ob) (w : Ob) (bk : Ob) (x : Int32) (y : Int32) (v : Int32) : Option (Int32 × Ob) := bd (f_hasPlace w x) (fun q5 => if q5 = 0 then (some ((-1000000001), bk)) else (bd (f_hasValue w y) (fun q16 => if q16 = 0 then (some ((-1000000001), bk)) else (bd (f_isSet v) (fun q26 => if q26 = 0 then (some ((-1000000002), bk)) else (if (bk 0 0) < 20 then (bd (f_add bk x ((y * 256) + v)) (fun q62 => some (q62 0 0, q62))) else (some ((-1000000004), bk))))))))
set_option maxHeartbeats 4000000 in
set_option maxRecDepth 100000 in
theorem c_x_note (l : Launch) (D : va_G) (cI cZ cR : ClassId) (fa wa pta i0a i1a bka kna tra jda w1 w2 w3 w4 w5 w6 w7 w8 w9 bk1 bk2 : Nat) (f : Ob) (w : Ob) (bk : Ob) (x : Int32) (y : Int32) (v : Int32) (sz : Nat) (r : Int32) (u : Ob) (hf : f_x_note f w bk x y v = some (r, u)) : kCi l yX6_note cX6_note 4 (some .int) { frames := 1, cells := 0, slots := 0, locals := 22 } [.ref fa, .int x, .int y, .int v] D cI cZ cR (cFF fa wa pta i0a i1a bka kna tra jda f ++ (cWeb cI wa w1 w2 w3 w4 w5 w6 w7 w8 w9 w ++ (cBook cI bka bk1 bk2 bk))) sz (cFF fa wa pta i0a i1a bka kna tra jda f ++ (cWeb cI wa w1 w2 w3 w4 w5 w6 w7 w8 w9 w ++ (cBook cI bka bk1 bk2 u))) r := by
  refine kMwi (wf := (fun u : Ob => cFF fa wa pta i0a i1a bka kna tra jda f ++ (cWeb cI wa w1 w2 w3 w4 w5 w6 w7 w8 w9 w ++ (cBook cI bka bk1 bk2 u)))) (u := u) (by decide) (Nat.le_of_ble_eq_true rfl) ?_
  intro p e s m below meth c Q A hx hb hml hown hts hk hP hD hA hS hret ls hl
  have hS0 := hS
  have hK := hk.1
  have hl : lv_has ls 4 [(0, .ref fa), (1, .int x), (2, .int y), (3, .int v)] := hl
  rw [f_x_note] at hf
  refine lv_aload_n hx hb dX6_note_0 rfl (lv_at hl 0 rfl) ?_
  refine va_get (D := D) (ci := 6) (v := .ref wa) (C := RX6) (T := TX6) (N := 9) hx hb hts inT6 hown hK hP 0 rfl rfl 0 (by decide) (hts _ mT_226) (fun _ h9 => h9) rfl dX6_note_1 ?_
  refine lv_iload_n hx hb dX6_note_4 rfl (lv_at hl 1 rfl) ?_
  obtain ⟨q5, h5, hf⟩ := bd_some hf
  refine kx_rv (As := [.int x]) (rest := []) hx hb hml hown hts hk (hP.sub (ws' := cWeb cI wa w1 w2 w3 w4 w5 w6 w7 w8 w9 w) [1, 2, 3, 4, 5, 6, 7, 8, 9, 10] rfl) hl.1 s_yX4_hasPlace v_yX4_hasPlace (c_hasPlace l D cI cZ cR wa w1 w2 w3 w4 w5 w6 w7 w8 w9 w x _ h5) mT_399 rfl rfl ⟨Nat.le_of_ble_eq_true rfl, Nat.le_of_ble_eq_true rfl⟩ (ci := 4) (q0 := 0) rfl rfl rfl (Nat.le_of_ble_eq_true rfl) ⟨Nat.zero_le _, Nat.zero_le _⟩ dX6_note_5 ?_
  refine lv_if_eq (tgt := 22) hx hb dX6_note_8 (by decide) (fun c8 => ?_) (fun c8 => ?_)
  · have hf := ite_t c8 hf
    refine lv_ldc (v := (-1000000001)) hx hb hown (hts _ mT_388) dX6_note_22 ?_
    exact hret _ _ _ bk _ _ hf dX6_note_24 hP hD hS
  · have hf := ite_f c8 hf
    refine lv_aload_n hx hb dX6_note_11 rfl (lv_at hl 0 rfl) ?_
    refine va_get (D := D) (ci := 6) (v := .ref wa) (C := RX6) (T := TX6) (N := 9) hx hb hts inT6 hown hK hP 0 rfl rfl 0 (by decide) (hts _ mT_226) (fun _ h9 => h9) rfl dX6_note_12 ?_
    refine lv_iload_n hx hb dX6_note_15 rfl (lv_at hl 2 rfl) ?_
    obtain ⟨q16, h16, hf⟩ := bd_some hf
    refine kx_rv (As := [.int y]) (rest := []) hx hb hml hown hts hk (hP.sub (ws' := cWeb cI wa w1 w2 w3 w4 w5 w6 w7 w8 w9 w) [1, 2, 3, 4, 5, 6, 7, 8, 9, 10] rfl) hl.1 s_yX4_hasValue v_yX4_hasValue (c_hasValue l D cI cZ cR wa w1 w2 w3 w4 w5 w6 w7 w8 w9 w y _ h16) mT_384 rfl rfl ⟨Nat.le_of_ble_eq_true rfl, Nat.le_of_ble_eq_true rfl⟩ (ci := 4) (q0 := 0) rfl rfl rfl (Nat.le_of_ble_eq_true rfl) ⟨Nat.zero_le _, Nat.zero_le _⟩ dX6_note_16 ?_
    refine lv_if_ne (tgt := 25) hx hb dX6_note_19 (by decide) (fun c19 => ?_) (fun c19 => ?_)
    · have hf := ite_f c19 hf
      refine lv_iload_n hx hb dX6_note_25 rfl (lv_at hl 3 rfl) ?_
      obtain ⟨q26, h26, hf⟩ := bd_some hf
      refine kx_rs (As := [.int v]) (rest := []) hx hb hml hown hts hk hl.1 s_yX6_isSet mT_463 (c_isSet l D cI cZ cR v _ h26) mT_462 rfl rfl ⟨Nat.le_of_ble_eq_true rfl, Nat.le_of_ble_eq_true rfl⟩ rfl (Nat.le_of_ble_eq_true rfl) ⟨Nat.zero_le _, Nat.zero_le _⟩ dX6_note_26 ?_
      refine lv_if_ne (tgt := 35) hx hb dX6_note_29 (by decide) (fun c29 => ?_) (fun c29 => ?_)
      · have hf := ite_f c29 hf
        refine lv_aload_n hx hb dX6_note_35 rfl (lv_at hl 0 rfl) ?_
        refine va_get (D := D) (ci := 6) (v := .ref bka) (C := RX6) (T := TX6) (N := 9) hx hb hts inT6 hown hK hP 0 rfl rfl 4 (by decide) (hts _ mT_230) (fun _ h9 => h9) rfl dX6_note_36 ?_
        refine va_get (D := D) (ci := 0) (v := .int (bk 0 0)) (C := RX0) (T := TX0) (N := 3) hx hb hts inT0 hown hK hP 11 rfl rfl 0 (by decide) (hts _ mT_177) (fun _ h9 => h9) rfl dX6_note_39 ?_
        refine lv_bipush (v := 20) hx hb dX6_note_42 (by decide) ?_
        refine lv_icmp_lt (tgt := 50) hx hb dX6_note_44 (by decide) (fun c44 => ?_) (fun c44 => ?_)
        · have hf := ite_t c44 hf
          refine lv_aload_n hx hb dX6_note_50 rfl (lv_at hl 0 rfl) ?_
          refine va_get (D := D) (ci := 6) (v := .ref bka) (C := RX6) (T := TX6) (N := 9) hx hb hts inT6 hown hK hP 0 rfl rfl 4 (by decide) (hts _ mT_230) (fun _ h9 => h9) rfl dX6_note_51 ?_
          refine lv_iload_n hx hb dX6_note_54 rfl (lv_at hl 1 rfl) ?_
          refine lv_iload_n hx hb dX6_note_55 rfl (lv_at hl 2 rfl) ?_
          refine lv_sipush (v := 256) hx hb dX6_note_56 (by decide) ?_
          refine lv_imul hx hb dX6_note_59 ?_
          refine lv_iload_n hx hb dX6_note_60 rfl (lv_at hl 3 rfl) ?_
          refine lv_iadd hx hb dX6_note_61 ?_
          obtain ⟨q62, h62, hf⟩ := bd_some hf
          refine kx_wv (As := [.int x, .int ((y * 256) + v)]) (rest := []) (wc := cBook cI bka bk1 bk2 bk) (wr := [(fa, .inr (6, [.ref wa, .ref pta, .ref i0a, .ref i1a, .ref bka, .ref kna, .ref tra, .ref jda, .int (f 0 0)])), (wa, .inr (4, [.int (w 0 0), .int (w 0 1), .int (w 0 2), .ref w1, .ref w2, .ref w3, .ref w4, .ref w5, .ref w6, .ref w7, .ref w8, .ref w9])), (w1, .inl (cI, 64, .inl (w 1))), (w2, .inl (cI, 10, .inl (w 2))), (w3, .inl (cI, 10, .inl (w 3))), (w4, .inl (cI, 20, .inl (w 4))), (w5, .inl (cI, 20, .inl (w 5))), (w6, .inl (cI, 160, .inl (w 6))), (w7, .inl (cI, 20, .inl (w 7))), (w8, .inl (cI, 20, .inl (w 8))), (w9, .inl (cI, 20, .inl (w 9)))]) (wd := cBook cI bka bk1 bk2 q62) (wn := cFF fa wa pta i0a i1a bka kna tra jda f ++ (cWeb cI wa w1 w2 w3 w4 w5 w6 w7 w8 w9 w ++ (cBook cI bka bk1 bk2 q62))) hx hb hml hown hts hk hP hD hS hA hl.1 s_yX0_add v_yX0_add (c_add l D cI cZ cR bka bk1 bk2 bk x ((y * 256) + v) s.heap.size _ h62) mT_531 rfl rfl ⟨Nat.le_of_ble_eq_true rfl, Nat.le_of_ble_eq_true rfl⟩ [11, 12, 13] [0, 1, 2, 3, 4, 5, 6, 7, 8, 9, 10] [0, 1, 2, 3, 4, 5, 6, 7, 8, 9, 10, 11, 12, 13] rfl rfl (by decide) (by decide) (by decide) (by decide) rfl (ci := 0) (q0 := 0) rfl rfl rfl (Nat.le_of_ble_eq_true rfl) ⟨Nat.zero_le _, Nat.zero_le _⟩ dX6_note_62 (fun H locs hP hD hS => ?_)
          refine lv_aload_n hx hb dX6_note_65 rfl (lv_at hl 0 rfl) ?_
          refine va_get (D := D) (ci := 6) (v := .ref bka) (C := RX6) (T := TX6) (N := 9) hx hb hts inT6 hown hK hP 0 rfl rfl 4 (by decide) (hts _ mT_230) (fun _ h9 => h9) rfl dX6_note_66 ?_
          refine va_get (D := D) (ci := 0) (v := .int (q62 0 0)) (C := RX0) (T := TX0) (N := 3) hx hb hts inT0 hown hK hP 11 rfl rfl 0 (by decide) (hts _ mT_177) (fun _ h9 => h9) rfl dX6_note_69 ?_
          exact hret _ _ _ q62 _ _ hf dX6_note_72 hP hD hS
        · have hf := ite_f c44 hf
          refine lv_ldc (v := (-1000000004)) hx hb hown (hts _ mT_469) dX6_note_47 ?_
          exact hret _ _ _ bk _ _ hf dX6_note_49 hP hD hS
      · have hf := ite_t c29 hf
        refine lv_ldc (v := (-1000000002)) hx hb hown (hts _ mT_379) dX6_note_32 ?_
        exact hret _ _ _ bk _ _ hf dX6_note_34 hP hD hS
    · have hf := ite_t c19 hf
      refine lv_ldc (v := (-1000000001)) hx hb hown (hts _ mT_388) dX6_note_22 ?_
      exact hret _ _ _ bk _ _ hf dX6_note_24 hP hD hS
theorem s_yX6_tear : kMS yX6_tear cX6_tear 2 (some .int) 0 := ⟨mT_538, mT_51, by decide +kernel⟩
theorem v_yX6_tear : kMV yX6_tear := ⟨mT_536, mT_537⟩
def f_x_tear (f : Ob) (bk : Ob) : Option (Int32 × Ob) := some (bk 0 0, sI bk 0 0)
set_option maxHeartbeats 4000000 in
set_option maxRecDepth 100000 in
theorem c_x_tear (l : Launch) (D : va_G) (cI cZ cR : ClassId) (fa wa pta i0a i1a bka kna tra jda bk1 bk2 : Nat) (f : Ob) (bk : Ob) (sz : Nat) (r : Int32) (u : Ob) (hf : f_x_tear f bk = some (r, u)) : kCi l yX6_tear cX6_tear 2 (some .int) { frames := 0, cells := 0, slots := 0, locals := 0 } [.ref fa] D cI cZ cR (cFF fa wa pta i0a i1a bka kna tra jda f ++ (cBook cI bka bk1 bk2 bk)) sz (cFF fa wa pta i0a i1a bka kna tra jda f ++ (cBook cI bka bk1 bk2 u)) r := by
  refine kMwi (wf := (fun u : Ob => cFF fa wa pta i0a i1a bka kna tra jda f ++ (cBook cI bka bk1 bk2 u))) (u := u) (by decide) (Nat.le_of_ble_eq_true rfl) ?_
  intro p e s m below meth c Q A hx hb hml hown hts hk hP hD hA hS hret ls hl
  have hS0 := hS
  have hK := hk.1
  have hl : lv_has ls 2 [(0, .ref fa)] := hl
  rw [f_x_tear] at hf
  refine lv_aload_n hx hb dX6_tear_0 rfl (lv_at hl 0 rfl) ?_
  refine va_get (D := D) (ci := 6) (v := .ref bka) (C := RX6) (T := TX6) (N := 9) hx hb hts inT6 hown hK hP 0 rfl rfl 4 (by decide) (hts _ mT_230) (fun _ h9 => h9) rfl dX6_tear_1 ?_
  refine va_get (D := D) (ci := 0) (v := .int (bk 0 0)) (C := RX0) (T := TX0) (N := 3) hx hb hts inT0 hown hK hP 1 rfl rfl 0 (by decide) (hts _ mT_177) (fun _ h9 => h9) rfl dX6_tear_4 ?_
  refine lv_istore_n (lv' := [(1, .int (bk 0 0)), (0, .ref fa)]) hx hb dX6_tear_7 rfl hl (by decide) rfl (fun ls hl => ?_)
  refine lv_aload_n hx hb dX6_tear_8 rfl (lv_at hl 1 rfl) ?_
  refine va_get (D := D) (ci := 6) (v := .ref bka) (C := RX6) (T := TX6) (N := 9) hx hb hts inT6 hown hK hP 0 rfl rfl 4 (by decide) (hts _ mT_230) (fun _ h9 => h9) rfl dX6_tear_9 ?_
  refine lv_iconst (v := 0) hx hb dX6_tear_12 (by decide) ?_
  refine va_put (D := D) (ci := 0) (v := .int 0) (ty := .int) (C := RX0) (T := TX0) (N := 3) hx hb hts inT0 tyX0 tyX0_ok nmX0 hown hK hP hD hS 1 rfl rfl 0 (by decide) (hts _ mT_177) (fun _ h9 => h9) rfl (by decide +kernel) rfl rfl (Nat.le_of_ble_eq_true rfl) dX6_tear_13 (fun H locs hP hD hS => ?_)
  have hP : va_P D vwCl (cFF fa wa pta i0a i1a bka kna tra jda f ++ ([(bka, .inr (0, [.int 0, .ref bk1, .ref bk2])), (bk1, .inl (cI, 20, .inl (bk 1))), (bk2, .inl (cI, 20, .inl (bk 2)))])) H := hP
  have hD : va_D A (cFF fa wa pta i0a i1a bka kna tra jda f ++ ([(bka, .inr (0, [.int 0, .ref bk1, .ref bk2])), (bk1, .inl (cI, 20, .inl (bk 1))), (bk2, .inl (cI, 20, .inl (bk 2)))])) := hD
  refine lv_iload_n hx hb dX6_tear_16 rfl (lv_at hl 0 rfl) ?_
  exact hret _ _ _ (sI bk 0 0) _ _ hf dX6_tear_17 hP hD hS
theorem s_yX6_seed : kMS yX6_seed cX6_seed 3 (some .int) 1 := ⟨mT_542, mT_51, by decide +kernel⟩
theorem v_yX6_seed : kMV yX6_seed := ⟨mT_540, mT_541⟩
def f_x_seed (f : Ob) (x : Int32) : Option (Int32 × Ob) := if 0 ≤ x then (some (f 0 0, sI f 0 x)) else (some ((-1000000002), f))
set_option maxHeartbeats 4000000 in
set_option maxRecDepth 100000 in
theorem c_x_seed (l : Launch) (D : va_G) (cI cZ cR : ClassId) (fa wa pta i0a i1a bka kna tra jda : Nat) (f : Ob) (x : Int32) (sz : Nat) (r : Int32) (u : Ob) (hf : f_x_seed f x = some (r, u)) : kCi l yX6_seed cX6_seed 3 (some .int) { frames := 0, cells := 0, slots := 0, locals := 0 } [.ref fa, .int x] D cI cZ cR (cFF fa wa pta i0a i1a bka kna tra jda f) sz (cFF fa wa pta i0a i1a bka kna tra jda u) r := by
  refine kMwi (wf := (fun u : Ob => cFF fa wa pta i0a i1a bka kna tra jda u)) (u := u) (by decide) (Nat.le_of_ble_eq_true rfl) ?_
  intro p e s m below meth c Q A hx hb hml hown hts hk hP hD hA hS hret ls hl
  have hS0 := hS
  have hK := hk.1
  have hl : lv_has ls 3 [(0, .ref fa), (1, .int x)] := hl
  rw [f_x_seed] at hf
  refine lv_iload_n hx hb dX6_seed_0 rfl (lv_at hl 1 rfl) ?_
  refine lv_if_ge (tgt := 7) hx hb dX6_seed_1 (by decide) (fun c1 => ?_) (fun c1 => ?_)
  · have hf := ite_t c1 hf
    refine lv_aload_n hx hb dX6_seed_7 rfl (lv_at hl 0 rfl) ?_
    refine va_get (D := D) (ci := 6) (v := .int (f 0 0)) (C := RX6) (T := TX6) (N := 9) hx hb hts inT6 hown hK hP 0 rfl rfl 8 (by decide) (hts _ mT_234) (fun _ h9 => h9) rfl dX6_seed_8 ?_
    refine lv_istore_n (lv' := [(2, .int (f 0 0)), (0, .ref fa), (1, .int x)]) hx hb dX6_seed_11 rfl hl (by decide) rfl (fun ls hl => ?_)
    refine lv_aload_n hx hb dX6_seed_12 rfl (lv_at hl 1 rfl) ?_
    refine lv_iload_n hx hb dX6_seed_13 rfl (lv_at hl 2 rfl) ?_
    refine va_put (D := D) (ci := 6) (v := .int x) (ty := .int) (C := RX6) (T := TX6) (N := 9) hx hb hts inT6 tyX6 tyX6_ok nmX6 hown hK hP hD hS 0 rfl rfl 8 (by decide) (hts _ mT_234) (fun _ h9 => h9) rfl (by decide +kernel) rfl rfl (Nat.le_of_ble_eq_true rfl) dX6_seed_14 (fun H locs hP hD hS => ?_)
    have hP : va_P D vwCl ([(fa, .inr (6, [.ref wa, .ref pta, .ref i0a, .ref i1a, .ref bka, .ref kna, .ref tra, .ref jda, .int x]))]) H := hP
    have hD : va_D A ([(fa, .inr (6, [.ref wa, .ref pta, .ref i0a, .ref i1a, .ref bka, .ref kna, .ref tra, .ref jda, .int x]))]) := hD
    refine lv_iload_n hx hb dX6_seed_17 rfl (lv_at hl 0 rfl) ?_
    exact hret _ _ _ (sI f 0 x) _ _ hf dX6_seed_18 hP hD hS
  · have hf := ite_f c1 hf
    refine lv_ldc (v := (-1000000002)) hx hb hown (hts _ mT_379) dX6_seed_4 ?_
    exact hret _ _ _ f _ _ hf dX6_seed_6 hP hD hS
theorem s_yX6_keep : kMS yX6_keep cX6_keep 3 (some .int) 1 := ⟨mT_546, mT_51, by decide +kernel⟩
theorem v_yX6_keep : kMV yX6_keep := ⟨mT_544, mT_545⟩
def f_x_keep (f : Ob) (w : Ob) (pt : Ob) (i0 : Ob) (v0 : Ob) (i1 : Ob) (v1 : Ob) (x : Int32) : Option (Int32 × Ob × Ob × Ob × Ob × Ob) := if x < 0 then (some ((-1000000001), pt, i0, v0, i1, v1)) else (if x ≤ 1 then (if x = 0 then (bd (f_become v0 w) (fun q41 => bd (f_forget pt) (fun q56 => some (1, q56, sI (sI i0 1 1) 0 (f 0 0), q41, i1, v1)))) else (bd (f_become v1 w) (fun q41 => bd (f_forget pt) (fun q56 => some (1, q56, i0, v0, sI (sI i1 1 1) 0 (f 0 0), q41))))) else (some ((-1000000001), pt, i0, v0, i1, v1)))
set_option maxHeartbeats 4000000 in
set_option maxRecDepth 100000 in
theorem c_x_keep (l : Launch) (D : va_G) (cI cZ cR : ClassId) (fa wa pta i0a i1a bka kna tra jda w1 w2 w3 w4 w5 w6 w7 w8 w9 rr v0a v01 v02 v03 v04 v05 v06 v07 v08 v09 v1a v11 v12 v13 v14 v15 v16 v17 v18 v19 : Nat) (f : Ob) (w : Ob) (pt : Ob) (i0 : Ob) (v0 : Ob) (i1 : Ob) (v1 : Ob) (x : Int32) (sz : Nat) (r : Int32) (u : Ob × Ob × Ob × Ob × Ob) (hf : f_x_keep f w pt i0 v0 i1 v1 x = some (r, u)) : kCi l yX6_keep cX6_keep 3 (some .int) { frames := 2, cells := 0, slots := 0, locals := 61 } [.ref fa, .int x] D cI cZ cR (cFF fa wa pta i0a i1a bka kna tra jda f ++ (cWeb cI wa w1 w2 w3 w4 w5 w6 w7 w8 w9 w ++ (cPst pta rr pt ++ (cImg i0a v0a i0 ++ (cWeb cI v0a v01 v02 v03 v04 v05 v06 v07 v08 v09 v0 ++ (cImg i1a v1a i1 ++ (cWeb cI v1a v11 v12 v13 v14 v15 v16 v17 v18 v19 v1))))))) sz (cFF fa wa pta i0a i1a bka kna tra jda f ++ (cWeb cI wa w1 w2 w3 w4 w5 w6 w7 w8 w9 w ++ (cPst pta rr u.1 ++ (cImg i0a v0a u.2.1 ++ (cWeb cI v0a v01 v02 v03 v04 v05 v06 v07 v08 v09 u.2.2.1 ++ (cImg i1a v1a u.2.2.2.1 ++ (cWeb cI v1a v11 v12 v13 v14 v15 v16 v17 v18 v19 u.2.2.2.2))))))) r := by
  refine kMwi (wf := (fun u : Ob × Ob × Ob × Ob × Ob => cFF fa wa pta i0a i1a bka kna tra jda f ++ (cWeb cI wa w1 w2 w3 w4 w5 w6 w7 w8 w9 w ++ (cPst pta rr u.1 ++ (cImg i0a v0a u.2.1 ++ (cWeb cI v0a v01 v02 v03 v04 v05 v06 v07 v08 v09 u.2.2.1 ++ (cImg i1a v1a u.2.2.2.1 ++ (cWeb cI v1a v11 v12 v13 v14 v15 v16 v17 v18 v19 u.2.2.2.2)))))))) (u := u) (by decide) (Nat.le_of_ble_eq_true rfl) ?_
  intro p e s m below meth c Q A hx hb hml hown hts hk hP hD hA hS hret ls hl
  have hS0 := hS
  have hK := hk.1
  have hl : lv_has ls 3 [(0, .ref fa), (1, .int x)] := hl
  rw [f_x_keep] at hf
  refine lv_iload_n hx hb dX6_keep_0 rfl (lv_at hl 1 rfl) ?_
  refine lv_if_lt (tgt := 9) hx hb dX6_keep_1 (by decide) (fun c1 => ?_) (fun c1 => ?_)
  · have hf := ite_t c1 hf
    refine lv_ldc (v := (-1000000001)) hx hb hown (hts _ mT_388) dX6_keep_9 ?_
    exact hret _ _ _ (pt, i0, v0, i1, v1) _ _ hf dX6_keep_11 hP hD hS
  · have hf := ite_f c1 hf
    refine lv_iload_n hx hb dX6_keep_4 rfl (lv_at hl 1 rfl) ?_
    refine lv_iconst (v := 1) hx hb dX6_keep_5 (by decide) ?_
    refine lv_icmp_le (tgt := 12) hx hb dX6_keep_6 (by decide) (fun c6 => ?_) (fun c6 => ?_)
    · have hf := ite_t c6 hf
      refine lv_iload_n hx hb dX6_keep_12 rfl (lv_at hl 1 rfl) ?_
      refine lv_if_ne (tgt := 23) hx hb dX6_keep_13 (by decide) (fun c13 => ?_) (fun c13 => ?_)
      · have hf := ite_f c13 hf
        refine lv_aload_n hx hb dX6_keep_23 rfl (lv_at hl 0 rfl) ?_
        refine va_get (D := D) (ci := 6) (v := .ref i1a) (C := RX6) (T := TX6) (N := 9) hx hb hts inT6 hown hK hP 0 rfl rfl 3 (by decide) (hts _ mT_229) (fun _ h9 => h9) rfl dX6_keep_24 ?_
        refine lv_astore_n (lv' := [(2, .ref i1a), (0, .ref fa), (1, .int x)]) hx hb dX6_keep_27 rfl hl (by decide) rfl (fun ls hl => ?_)
        refine lv_aload_n hx hb dX6_keep_28 rfl (lv_at hl 0 rfl) ?_
        refine lv_iconst (v := 1) hx hb dX6_keep_29 (by decide) ?_
        refine va_put (D := D) (ci := 1) (v := .int 1) (ty := .boolean) (C := RX1) (T := TX1) (N := 3) hx hb hts inT1 tyX1 tyX1_ok nmX1 hown hK hP hD hS 23 rfl rfl 2 (by decide) (hts _ mT_162) (fun _ h9 => h9) rfl (by decide +kernel) rfl rfl (Nat.le_of_ble_eq_true rfl) dX6_keep_30 (fun H locs hP hD hS => ?_)
        have hP : va_P D vwCl (cFF fa wa pta i0a i1a bka kna tra jda f ++ (cWeb cI wa w1 w2 w3 w4 w5 w6 w7 w8 w9 w ++ (cPst pta rr pt ++ (cImg i0a v0a i0 ++ (cWeb cI v0a v01 v02 v03 v04 v05 v06 v07 v08 v09 v0 ++ ([(i1a, .inr (1, [.ref v1a, .int (i1 0 0), .int 1]))] ++ (cWeb cI v1a v11 v12 v13 v14 v15 v16 v17 v18 v19 v1))))))) H := hP
        have hD : va_D A (cFF fa wa pta i0a i1a bka kna tra jda f ++ (cWeb cI wa w1 w2 w3 w4 w5 w6 w7 w8 w9 w ++ (cPst pta rr pt ++ (cImg i0a v0a i0 ++ (cWeb cI v0a v01 v02 v03 v04 v05 v06 v07 v08 v09 v0 ++ ([(i1a, .inr (1, [.ref v1a, .int (i1 0 0), .int 1]))] ++ (cWeb cI v1a v11 v12 v13 v14 v15 v16 v17 v18 v19 v1))))))) := hD
        refine lv_aload_n hx hb dX6_keep_33 rfl (lv_at hl 0 rfl) ?_
        refine va_get (D := D) (ci := 1) (v := .ref v1a) (C := RX1) (T := TX1) (N := 3) hx hb hts inT1 hown hK hP 23 rfl rfl 0 (by decide) (hts _ mT_160) (fun _ h9 => h9) rfl dX6_keep_34 ?_
        refine lv_aload_n hx hb dX6_keep_37 rfl (lv_at hl 1 rfl) ?_
        refine va_get (D := D) (ci := 6) (v := .ref wa) (C := RX6) (T := TX6) (N := 9) hx hb hts inT6 hown hK hP 0 rfl rfl 0 (by decide) (hts _ mT_226) (fun _ h9 => h9) rfl dX6_keep_38 ?_
        obtain ⟨q41, h41, hf⟩ := bd_some hf
        refine kx_wv (As := [.ref wa]) (rest := []) (wc := cWeb cI v1a v11 v12 v13 v14 v15 v16 v17 v18 v19 v1 ++ (cWeb cI wa w1 w2 w3 w4 w5 w6 w7 w8 w9 w)) (wr := [(fa, .inr (6, [.ref wa, .ref pta, .ref i0a, .ref i1a, .ref bka, .ref kna, .ref tra, .ref jda, .int (f 0 0)])), (pta, .inr (3, [.int (pt 0 0), .int (pt 0 1), .ref rr])), (i0a, .inr (1, [.ref v0a, .int (i0 0 0), .int (i0 0 1)])), (v0a, .inr (4, [.int (v0 0 0), .int (v0 0 1), .int (v0 0 2), .ref v01, .ref v02, .ref v03, .ref v04, .ref v05, .ref v06, .ref v07, .ref v08, .ref v09])), (v01, .inl (cI, 64, .inl (v0 1))), (v02, .inl (cI, 10, .inl (v0 2))), (v03, .inl (cI, 10, .inl (v0 3))), (v04, .inl (cI, 20, .inl (v0 4))), (v05, .inl (cI, 20, .inl (v0 5))), (v06, .inl (cI, 160, .inl (v0 6))), (v07, .inl (cI, 20, .inl (v0 7))), (v08, .inl (cI, 20, .inl (v0 8))), (v09, .inl (cI, 20, .inl (v0 9))), (i1a, .inr (1, [.ref v1a, .int (i1 0 0), .int 1]))]) (wd := cWeb cI v1a v11 v12 v13 v14 v15 v16 v17 v18 v19 q41 ++ (cWeb cI wa w1 w2 w3 w4 w5 w6 w7 w8 w9 w)) (wn := cFF fa wa pta i0a i1a bka kna tra jda f ++ (cWeb cI wa w1 w2 w3 w4 w5 w6 w7 w8 w9 w ++ (cPst pta rr pt ++ (cImg i0a v0a i0 ++ (cWeb cI v0a v01 v02 v03 v04 v05 v06 v07 v08 v09 v0 ++ (cImg i1a v1a (sI i1 1 1) ++ (cWeb cI v1a v11 v12 v13 v14 v15 v16 v17 v18 v19 q41))))))) hx hb hml hown hts hk hP hD hS hA hl.1 s_yX4_become v_yX4_become (c_become l D cI cZ cR v1a v11 v12 v13 v14 v15 v16 v17 v18 v19 wa w1 w2 w3 w4 w5 w6 w7 w8 w9 v1 w H.size _ h41) mT_547 rfl rfl ⟨Nat.le_of_ble_eq_true rfl, Nat.le_of_ble_eq_true rfl⟩ [24, 25, 26, 27, 28, 29, 30, 31, 32, 33, 1, 2, 3, 4, 5, 6, 7, 8, 9, 10] [0, 11, 12, 13, 14, 15, 16, 17, 18, 19, 20, 21, 22, 23] [0, 24, 25, 26, 27, 28, 29, 30, 31, 32, 33, 1, 2, 3, 4, 5, 6, 7, 8, 9, 10, 11, 12, 13, 14, 15, 16, 17, 18, 19, 20, 21, 22, 23] rfl rfl (by decide) (by decide) (by decide) (by decide) rfl (ci := 4) (q0 := 0) rfl rfl rfl (Nat.le_of_ble_eq_true rfl) ⟨Nat.zero_le _, Nat.zero_le _⟩ dX6_keep_41 (fun H locs hP hD hS => ?_)
        refine lv_aload_n hx hb dX6_keep_44 rfl (lv_at hl 0 rfl) ?_
        refine lv_aload_n hx hb dX6_keep_45 rfl (lv_at hl 1 rfl) ?_
        refine va_get (D := D) (ci := 6) (v := .int (f 0 0)) (C := RX6) (T := TX6) (N := 9) hx hb hts inT6 hown hK hP 0 rfl rfl 8 (by decide) (hts _ mT_234) (fun _ h9 => h9) rfl dX6_keep_46 ?_
        refine va_put (D := D) (ci := 1) (v := .int (f 0 0)) (ty := .int) (C := RX1) (T := TX1) (N := 3) hx hb hts inT1 tyX1 tyX1_ok nmX1 hown hK hP hD hS 23 rfl rfl 1 (by decide) (hts _ mT_161) (fun _ h9 => h9) rfl (by decide +kernel) rfl rfl (Nat.le_of_ble_eq_true rfl) dX6_keep_49 (fun H locs hP hD hS => ?_)
        have hP : va_P D vwCl (cFF fa wa pta i0a i1a bka kna tra jda f ++ (cWeb cI wa w1 w2 w3 w4 w5 w6 w7 w8 w9 w ++ (cPst pta rr pt ++ (cImg i0a v0a i0 ++ (cWeb cI v0a v01 v02 v03 v04 v05 v06 v07 v08 v09 v0 ++ ([(i1a, .inr (1, [.ref v1a, .int (f 0 0), .int 1]))] ++ (cWeb cI v1a v11 v12 v13 v14 v15 v16 v17 v18 v19 q41))))))) H := hP
        have hD : va_D A (cFF fa wa pta i0a i1a bka kna tra jda f ++ (cWeb cI wa w1 w2 w3 w4 w5 w6 w7 w8 w9 w ++ (cPst pta rr pt ++ (cImg i0a v0a i0 ++ (cWeb cI v0a v01 v02 v03 v04 v05 v06 v07 v08 v09 v0 ++ ([(i1a, .inr (1, [.ref v1a, .int (f 0 0), .int 1]))] ++ (cWeb cI v1a v11 v12 v13 v14 v15 v16 v17 v18 v19 q41))))))) := hD
        refine lv_aload_n hx hb dX6_keep_52 rfl (lv_at hl 1 rfl) ?_
        refine va_get (D := D) (ci := 6) (v := .ref pta) (C := RX6) (T := TX6) (N := 9) hx hb hts inT6 hown hK hP 0 rfl rfl 1 (by decide) (hts _ mT_227) (fun _ h9 => h9) rfl dX6_keep_53 ?_
        obtain ⟨q56, h56, hf⟩ := bd_some hf
        refine kx_wv (As := []) (rest := []) (wc := cPst pta rr pt) (wr := [(fa, .inr (6, [.ref wa, .ref pta, .ref i0a, .ref i1a, .ref bka, .ref kna, .ref tra, .ref jda, .int (f 0 0)])), (wa, .inr (4, [.int (w 0 0), .int (w 0 1), .int (w 0 2), .ref w1, .ref w2, .ref w3, .ref w4, .ref w5, .ref w6, .ref w7, .ref w8, .ref w9])), (w1, .inl (cI, 64, .inl (w 1))), (w2, .inl (cI, 10, .inl (w 2))), (w3, .inl (cI, 10, .inl (w 3))), (w4, .inl (cI, 20, .inl (w 4))), (w5, .inl (cI, 20, .inl (w 5))), (w6, .inl (cI, 160, .inl (w 6))), (w7, .inl (cI, 20, .inl (w 7))), (w8, .inl (cI, 20, .inl (w 8))), (w9, .inl (cI, 20, .inl (w 9))), (i0a, .inr (1, [.ref v0a, .int (i0 0 0), .int (i0 0 1)])), (v0a, .inr (4, [.int (v0 0 0), .int (v0 0 1), .int (v0 0 2), .ref v01, .ref v02, .ref v03, .ref v04, .ref v05, .ref v06, .ref v07, .ref v08, .ref v09])), (v01, .inl (cI, 64, .inl (v0 1))), (v02, .inl (cI, 10, .inl (v0 2))), (v03, .inl (cI, 10, .inl (v0 3))), (v04, .inl (cI, 20, .inl (v0 4))), (v05, .inl (cI, 20, .inl (v0 5))), (v06, .inl (cI, 160, .inl (v0 6))), (v07, .inl (cI, 20, .inl (v0 7))), (v08, .inl (cI, 20, .inl (v0 8))), (v09, .inl (cI, 20, .inl (v0 9))), (i1a, .inr (1, [.ref v1a, .int (f 0 0), .int 1])), (v1a, .inr (4, [.int (q41 0 0), .int (q41 0 1), .int (q41 0 2), .ref v11, .ref v12, .ref v13, .ref v14, .ref v15, .ref v16, .ref v17, .ref v18, .ref v19])), (v11, .inl (cI, 64, .inl (q41 1))), (v12, .inl (cI, 10, .inl (q41 2))), (v13, .inl (cI, 10, .inl (q41 3))), (v14, .inl (cI, 20, .inl (q41 4))), (v15, .inl (cI, 20, .inl (q41 5))), (v16, .inl (cI, 160, .inl (q41 6))), (v17, .inl (cI, 20, .inl (q41 7))), (v18, .inl (cI, 20, .inl (q41 8))), (v19, .inl (cI, 20, .inl (q41 9)))]) (wd := cPst pta rr q56) (wn := cFF fa wa pta i0a i1a bka kna tra jda f ++ (cWeb cI wa w1 w2 w3 w4 w5 w6 w7 w8 w9 w ++ (cPst pta rr q56 ++ (cImg i0a v0a i0 ++ (cWeb cI v0a v01 v02 v03 v04 v05 v06 v07 v08 v09 v0 ++ (cImg i1a v1a (sI (sI i1 1 1) 0 (f 0 0)) ++ (cWeb cI v1a v11 v12 v13 v14 v15 v16 v17 v18 v19 q41))))))) hx hb hml hown hts hk hP hD hS hA hl.1 s_yX3_forget v_yX3_forget (c_forget l D cI cZ cR pta rr pt H.size _ h56) mT_548 rfl rfl ⟨Nat.le_of_ble_eq_true rfl, Nat.le_of_ble_eq_true rfl⟩ [11] [0, 1, 2, 3, 4, 5, 6, 7, 8, 9, 10, 12, 13, 14, 15, 16, 17, 18, 19, 20, 21, 22, 23, 24, 25, 26, 27, 28, 29, 30, 31, 32, 33] [0, 1, 2, 3, 4, 5, 6, 7, 8, 9, 10, 33, 11, 12, 13, 14, 15, 16, 17, 18, 19, 20, 21, 22, 23, 24, 25, 26, 27, 28, 29, 30, 31, 32] rfl rfl (by decide) (by decide) (by decide) (by decide) rfl (ci := 3) (q0 := 0) rfl rfl rfl (Nat.le_of_ble_eq_true rfl) ⟨Nat.zero_le _, Nat.zero_le _⟩ dX6_keep_56 (fun H locs hP hD hS => ?_)
        refine lv_iconst (v := 1) hx hb dX6_keep_59 (by decide) ?_
        exact hret _ _ _ (q56, i0, v0, sI (sI i1 1 1) 0 (f 0 0), q41) _ _ hf dX6_keep_60 hP hD hS
      · have hf := ite_t c13 hf
        refine lv_aload_n hx hb dX6_keep_16 rfl (lv_at hl 0 rfl) ?_
        refine va_get (D := D) (ci := 6) (v := .ref i0a) (C := RX6) (T := TX6) (N := 9) hx hb hts inT6 hown hK hP 0 rfl rfl 2 (by decide) (hts _ mT_228) (fun _ h9 => h9) rfl dX6_keep_17 ?_
        refine lv_goto (tgt := 27) hx hb dX6_keep_20 (by decide) ?_
        refine lv_astore_n (lv' := [(2, .ref i0a), (0, .ref fa), (1, .int x)]) hx hb dX6_keep_27 rfl hl (by decide) rfl (fun ls hl => ?_)
        refine lv_aload_n hx hb dX6_keep_28 rfl (lv_at hl 0 rfl) ?_
        refine lv_iconst (v := 1) hx hb dX6_keep_29 (by decide) ?_
        refine va_put (D := D) (ci := 1) (v := .int 1) (ty := .boolean) (C := RX1) (T := TX1) (N := 3) hx hb hts inT1 tyX1 tyX1_ok nmX1 hown hK hP hD hS 12 rfl rfl 2 (by decide) (hts _ mT_162) (fun _ h9 => h9) rfl (by decide +kernel) rfl rfl (Nat.le_of_ble_eq_true rfl) dX6_keep_30 (fun H locs hP hD hS => ?_)
        have hP : va_P D vwCl (cFF fa wa pta i0a i1a bka kna tra jda f ++ (cWeb cI wa w1 w2 w3 w4 w5 w6 w7 w8 w9 w ++ (cPst pta rr pt ++ ([(i0a, .inr (1, [.ref v0a, .int (i0 0 0), .int 1]))] ++ (cWeb cI v0a v01 v02 v03 v04 v05 v06 v07 v08 v09 v0 ++ (cImg i1a v1a i1 ++ (cWeb cI v1a v11 v12 v13 v14 v15 v16 v17 v18 v19 v1))))))) H := hP
        have hD : va_D A (cFF fa wa pta i0a i1a bka kna tra jda f ++ (cWeb cI wa w1 w2 w3 w4 w5 w6 w7 w8 w9 w ++ (cPst pta rr pt ++ ([(i0a, .inr (1, [.ref v0a, .int (i0 0 0), .int 1]))] ++ (cWeb cI v0a v01 v02 v03 v04 v05 v06 v07 v08 v09 v0 ++ (cImg i1a v1a i1 ++ (cWeb cI v1a v11 v12 v13 v14 v15 v16 v17 v18 v19 v1))))))) := hD
        refine lv_aload_n hx hb dX6_keep_33 rfl (lv_at hl 0 rfl) ?_
        refine va_get (D := D) (ci := 1) (v := .ref v0a) (C := RX1) (T := TX1) (N := 3) hx hb hts inT1 hown hK hP 12 rfl rfl 0 (by decide) (hts _ mT_160) (fun _ h9 => h9) rfl dX6_keep_34 ?_
        refine lv_aload_n hx hb dX6_keep_37 rfl (lv_at hl 1 rfl) ?_
        refine va_get (D := D) (ci := 6) (v := .ref wa) (C := RX6) (T := TX6) (N := 9) hx hb hts inT6 hown hK hP 0 rfl rfl 0 (by decide) (hts _ mT_226) (fun _ h9 => h9) rfl dX6_keep_38 ?_
        obtain ⟨q41, h41, hf⟩ := bd_some hf
        refine kx_wv (As := [.ref wa]) (rest := []) (wc := cWeb cI v0a v01 v02 v03 v04 v05 v06 v07 v08 v09 v0 ++ (cWeb cI wa w1 w2 w3 w4 w5 w6 w7 w8 w9 w)) (wr := [(fa, .inr (6, [.ref wa, .ref pta, .ref i0a, .ref i1a, .ref bka, .ref kna, .ref tra, .ref jda, .int (f 0 0)])), (pta, .inr (3, [.int (pt 0 0), .int (pt 0 1), .ref rr])), (i0a, .inr (1, [.ref v0a, .int (i0 0 0), .int 1])), (i1a, .inr (1, [.ref v1a, .int (i1 0 0), .int (i1 0 1)])), (v1a, .inr (4, [.int (v1 0 0), .int (v1 0 1), .int (v1 0 2), .ref v11, .ref v12, .ref v13, .ref v14, .ref v15, .ref v16, .ref v17, .ref v18, .ref v19])), (v11, .inl (cI, 64, .inl (v1 1))), (v12, .inl (cI, 10, .inl (v1 2))), (v13, .inl (cI, 10, .inl (v1 3))), (v14, .inl (cI, 20, .inl (v1 4))), (v15, .inl (cI, 20, .inl (v1 5))), (v16, .inl (cI, 160, .inl (v1 6))), (v17, .inl (cI, 20, .inl (v1 7))), (v18, .inl (cI, 20, .inl (v1 8))), (v19, .inl (cI, 20, .inl (v1 9)))]) (wd := cWeb cI v0a v01 v02 v03 v04 v05 v06 v07 v08 v09 q41 ++ (cWeb cI wa w1 w2 w3 w4 w5 w6 w7 w8 w9 w)) (wn := cFF fa wa pta i0a i1a bka kna tra jda f ++ (cWeb cI wa w1 w2 w3 w4 w5 w6 w7 w8 w9 w ++ (cPst pta rr pt ++ (cImg i0a v0a (sI i0 1 1) ++ (cWeb cI v0a v01 v02 v03 v04 v05 v06 v07 v08 v09 q41 ++ (cImg i1a v1a i1 ++ (cWeb cI v1a v11 v12 v13 v14 v15 v16 v17 v18 v19 v1))))))) hx hb hml hown hts hk hP hD hS hA hl.1 s_yX4_become v_yX4_become (c_become l D cI cZ cR v0a v01 v02 v03 v04 v05 v06 v07 v08 v09 wa w1 w2 w3 w4 w5 w6 w7 w8 w9 v0 w H.size _ h41) mT_547 rfl rfl ⟨Nat.le_of_ble_eq_true rfl, Nat.le_of_ble_eq_true rfl⟩ [13, 14, 15, 16, 17, 18, 19, 20, 21, 22, 1, 2, 3, 4, 5, 6, 7, 8, 9, 10] [0, 11, 12, 23, 24, 25, 26, 27, 28, 29, 30, 31, 32, 33] [0, 24, 25, 26, 27, 28, 29, 30, 31, 32, 33, 1, 2, 14, 15, 16, 17, 18, 19, 20, 21, 22, 23, 3, 4, 5, 6, 7, 8, 9, 10, 11, 12, 13] rfl rfl (by decide) (by decide) (by decide) (by decide) rfl (ci := 4) (q0 := 0) rfl rfl rfl (Nat.le_of_ble_eq_true rfl) ⟨Nat.zero_le _, Nat.zero_le _⟩ dX6_keep_41 (fun H locs hP hD hS => ?_)
        refine lv_aload_n hx hb dX6_keep_44 rfl (lv_at hl 0 rfl) ?_
        refine lv_aload_n hx hb dX6_keep_45 rfl (lv_at hl 1 rfl) ?_
        refine va_get (D := D) (ci := 6) (v := .int (f 0 0)) (C := RX6) (T := TX6) (N := 9) hx hb hts inT6 hown hK hP 0 rfl rfl 8 (by decide) (hts _ mT_234) (fun _ h9 => h9) rfl dX6_keep_46 ?_
        refine va_put (D := D) (ci := 1) (v := .int (f 0 0)) (ty := .int) (C := RX1) (T := TX1) (N := 3) hx hb hts inT1 tyX1 tyX1_ok nmX1 hown hK hP hD hS 12 rfl rfl 1 (by decide) (hts _ mT_161) (fun _ h9 => h9) rfl (by decide +kernel) rfl rfl (Nat.le_of_ble_eq_true rfl) dX6_keep_49 (fun H locs hP hD hS => ?_)
        have hP : va_P D vwCl (cFF fa wa pta i0a i1a bka kna tra jda f ++ (cWeb cI wa w1 w2 w3 w4 w5 w6 w7 w8 w9 w ++ (cPst pta rr pt ++ ([(i0a, .inr (1, [.ref v0a, .int (f 0 0), .int 1]))] ++ (cWeb cI v0a v01 v02 v03 v04 v05 v06 v07 v08 v09 q41 ++ (cImg i1a v1a i1 ++ (cWeb cI v1a v11 v12 v13 v14 v15 v16 v17 v18 v19 v1))))))) H := hP
        have hD : va_D A (cFF fa wa pta i0a i1a bka kna tra jda f ++ (cWeb cI wa w1 w2 w3 w4 w5 w6 w7 w8 w9 w ++ (cPst pta rr pt ++ ([(i0a, .inr (1, [.ref v0a, .int (f 0 0), .int 1]))] ++ (cWeb cI v0a v01 v02 v03 v04 v05 v06 v07 v08 v09 q41 ++ (cImg i1a v1a i1 ++ (cWeb cI v1a v11 v12 v13 v14 v15 v16 v17 v18 v19 v1))))))) := hD
        refine lv_aload_n hx hb dX6_keep_52 rfl (lv_at hl 1 rfl) ?_
        refine va_get (D := D) (ci := 6) (v := .ref pta) (C := RX6) (T := TX6) (N := 9) hx hb hts inT6 hown hK hP 0 rfl rfl 1 (by decide) (hts _ mT_227) (fun _ h9 => h9) rfl dX6_keep_53 ?_
        obtain ⟨q56, h56, hf⟩ := bd_some hf
        refine kx_wv (As := []) (rest := []) (wc := cPst pta rr pt) (wr := [(fa, .inr (6, [.ref wa, .ref pta, .ref i0a, .ref i1a, .ref bka, .ref kna, .ref tra, .ref jda, .int (f 0 0)])), (wa, .inr (4, [.int (w 0 0), .int (w 0 1), .int (w 0 2), .ref w1, .ref w2, .ref w3, .ref w4, .ref w5, .ref w6, .ref w7, .ref w8, .ref w9])), (w1, .inl (cI, 64, .inl (w 1))), (w2, .inl (cI, 10, .inl (w 2))), (w3, .inl (cI, 10, .inl (w 3))), (w4, .inl (cI, 20, .inl (w 4))), (w5, .inl (cI, 20, .inl (w 5))), (w6, .inl (cI, 160, .inl (w 6))), (w7, .inl (cI, 20, .inl (w 7))), (w8, .inl (cI, 20, .inl (w 8))), (w9, .inl (cI, 20, .inl (w 9))), (i0a, .inr (1, [.ref v0a, .int (f 0 0), .int 1])), (v0a, .inr (4, [.int (q41 0 0), .int (q41 0 1), .int (q41 0 2), .ref v01, .ref v02, .ref v03, .ref v04, .ref v05, .ref v06, .ref v07, .ref v08, .ref v09])), (v01, .inl (cI, 64, .inl (q41 1))), (v02, .inl (cI, 10, .inl (q41 2))), (v03, .inl (cI, 10, .inl (q41 3))), (v04, .inl (cI, 20, .inl (q41 4))), (v05, .inl (cI, 20, .inl (q41 5))), (v06, .inl (cI, 160, .inl (q41 6))), (v07, .inl (cI, 20, .inl (q41 7))), (v08, .inl (cI, 20, .inl (q41 8))), (v09, .inl (cI, 20, .inl (q41 9))), (i1a, .inr (1, [.ref v1a, .int (i1 0 0), .int (i1 0 1)])), (v1a, .inr (4, [.int (v1 0 0), .int (v1 0 1), .int (v1 0 2), .ref v11, .ref v12, .ref v13, .ref v14, .ref v15, .ref v16, .ref v17, .ref v18, .ref v19])), (v11, .inl (cI, 64, .inl (v1 1))), (v12, .inl (cI, 10, .inl (v1 2))), (v13, .inl (cI, 10, .inl (v1 3))), (v14, .inl (cI, 20, .inl (v1 4))), (v15, .inl (cI, 20, .inl (v1 5))), (v16, .inl (cI, 160, .inl (v1 6))), (v17, .inl (cI, 20, .inl (v1 7))), (v18, .inl (cI, 20, .inl (v1 8))), (v19, .inl (cI, 20, .inl (v1 9)))]) (wd := cPst pta rr q56) (wn := cFF fa wa pta i0a i1a bka kna tra jda f ++ (cWeb cI wa w1 w2 w3 w4 w5 w6 w7 w8 w9 w ++ (cPst pta rr q56 ++ (cImg i0a v0a (sI (sI i0 1 1) 0 (f 0 0)) ++ (cWeb cI v0a v01 v02 v03 v04 v05 v06 v07 v08 v09 q41 ++ (cImg i1a v1a i1 ++ (cWeb cI v1a v11 v12 v13 v14 v15 v16 v17 v18 v19 v1))))))) hx hb hml hown hts hk hP hD hS hA hl.1 s_yX3_forget v_yX3_forget (c_forget l D cI cZ cR pta rr pt H.size _ h56) mT_548 rfl rfl ⟨Nat.le_of_ble_eq_true rfl, Nat.le_of_ble_eq_true rfl⟩ [11] [0, 1, 2, 3, 4, 5, 6, 7, 8, 9, 10, 12, 13, 14, 15, 16, 17, 18, 19, 20, 21, 22, 23, 24, 25, 26, 27, 28, 29, 30, 31, 32, 33] [0, 1, 2, 3, 4, 5, 6, 7, 8, 9, 10, 33, 11, 12, 13, 14, 15, 16, 17, 18, 19, 20, 21, 22, 23, 24, 25, 26, 27, 28, 29, 30, 31, 32] rfl rfl (by decide) (by decide) (by decide) (by decide) rfl (ci := 3) (q0 := 0) rfl rfl rfl (Nat.le_of_ble_eq_true rfl) ⟨Nat.zero_le _, Nat.zero_le _⟩ dX6_keep_56 (fun H locs hP hD hS => ?_)
        refine lv_iconst (v := 1) hx hb dX6_keep_59 (by decide) ?_
        exact hret _ _ _ (q56, sI (sI i0 1 1) 0 (f 0 0), q41, i1, v1) _ _ hf dX6_keep_60 hP hD hS
    · have hf := ite_f c6 hf
      refine lv_ldc (v := (-1000000001)) hx hb hown (hts _ mT_388) dX6_keep_9 ?_
      exact hret _ _ _ (pt, i0, v0, i1, v1) _ _ hf dX6_keep_11 hP hD hS
theorem s_yX6_goBack : kMS yX6_goBack cX6_goBack 3 (some .int) 1 := ⟨mT_555, mT_51, by decide +kernel⟩
theorem v_yX6_goBack : kMV yX6_goBack := ⟨mT_553, mT_554⟩
def f_x_goBack (f : Ob) (w : Ob) (pt : Ob) (i0 : Ob) (v0 : Ob) (i1 : Ob) (v1 : Ob) (x : Int32) : Option (Int32 × Ob × Ob × Ob) := if x < 0 then (some ((-1000000001), f, w, pt)) else (if x ≤ 1 then (if x = 0 then (if (i0 0 1) = 0 then (some ((-1000000003), f, w, pt)) else (bd (f_become w v0) (fun q46 => bd (f_forget pt) (fun q61 => some (1, sI f 0 (i0 0 0), q46, q61))))) else (if (i1 0 1) = 0 then (some ((-1000000003), f, w, pt)) else (bd (f_become w v1) (fun q46 => bd (f_forget pt) (fun q61 => some (1, sI f 0 (i1 0 0), q46, q61)))))) else (some ((-1000000001), f, w, pt)))
set_option maxHeartbeats 4000000 in
set_option maxRecDepth 100000 in
theorem c_x_goBack (l : Launch) (D : va_G) (cI cZ cR : ClassId) (fa wa pta i0a i1a bka kna tra jda w1 w2 w3 w4 w5 w6 w7 w8 w9 rr v0a v01 v02 v03 v04 v05 v06 v07 v08 v09 v1a v11 v12 v13 v14 v15 v16 v17 v18 v19 : Nat) (f : Ob) (w : Ob) (pt : Ob) (i0 : Ob) (v0 : Ob) (i1 : Ob) (v1 : Ob) (x : Int32) (sz : Nat) (r : Int32) (u : Ob × Ob × Ob) (hf : f_x_goBack f w pt i0 v0 i1 v1 x = some (r, u)) : kCi l yX6_goBack cX6_goBack 3 (some .int) { frames := 2, cells := 0, slots := 0, locals := 61 } [.ref fa, .int x] D cI cZ cR (cFF fa wa pta i0a i1a bka kna tra jda f ++ (cWeb cI wa w1 w2 w3 w4 w5 w6 w7 w8 w9 w ++ (cPst pta rr pt ++ (cImg i0a v0a i0 ++ (cWeb cI v0a v01 v02 v03 v04 v05 v06 v07 v08 v09 v0 ++ (cImg i1a v1a i1 ++ (cWeb cI v1a v11 v12 v13 v14 v15 v16 v17 v18 v19 v1))))))) sz (cFF fa wa pta i0a i1a bka kna tra jda u.1 ++ (cWeb cI wa w1 w2 w3 w4 w5 w6 w7 w8 w9 u.2.1 ++ (cPst pta rr u.2.2 ++ (cImg i0a v0a i0 ++ (cWeb cI v0a v01 v02 v03 v04 v05 v06 v07 v08 v09 v0 ++ (cImg i1a v1a i1 ++ (cWeb cI v1a v11 v12 v13 v14 v15 v16 v17 v18 v19 v1))))))) r := by
  refine kMwi (wf := (fun u : Ob × Ob × Ob => cFF fa wa pta i0a i1a bka kna tra jda u.1 ++ (cWeb cI wa w1 w2 w3 w4 w5 w6 w7 w8 w9 u.2.1 ++ (cPst pta rr u.2.2 ++ (cImg i0a v0a i0 ++ (cWeb cI v0a v01 v02 v03 v04 v05 v06 v07 v08 v09 v0 ++ (cImg i1a v1a i1 ++ (cWeb cI v1a v11 v12 v13 v14 v15 v16 v17 v18 v19 v1)))))))) (u := u) (by decide) (Nat.le_of_ble_eq_true rfl) ?_
  intro p e s m below meth c Q A hx hb hml hown hts hk hP hD hA hS hret ls hl
  have hS0 := hS
  have hK := hk.1
  have hl : lv_has ls 3 [(0, .ref fa), (1, .int x)] := hl
  rw [f_x_goBack] at hf
  refine lv_iload_n hx hb dX6_goBack_0 rfl (lv_at hl 1 rfl) ?_
  refine lv_if_lt (tgt := 9) hx hb dX6_goBack_1 (by decide) (fun c1 => ?_) (fun c1 => ?_)
  · have hf := ite_t c1 hf
    refine lv_ldc (v := (-1000000001)) hx hb hown (hts _ mT_388) dX6_goBack_9 ?_
    exact hret _ _ _ (f, w, pt) _ _ hf dX6_goBack_11 hP hD hS
  · have hf := ite_f c1 hf
    refine lv_iload_n hx hb dX6_goBack_4 rfl (lv_at hl 1 rfl) ?_
    refine lv_iconst (v := 1) hx hb dX6_goBack_5 (by decide) ?_
    refine lv_icmp_le (tgt := 12) hx hb dX6_goBack_6 (by decide) (fun c6 => ?_) (fun c6 => ?_)
    · have hf := ite_t c6 hf
      refine lv_iload_n hx hb dX6_goBack_12 rfl (lv_at hl 1 rfl) ?_
      refine lv_if_ne (tgt := 23) hx hb dX6_goBack_13 (by decide) (fun c13 => ?_) (fun c13 => ?_)
      · have hf := ite_f c13 hf
        refine lv_aload_n hx hb dX6_goBack_23 rfl (lv_at hl 0 rfl) ?_
        refine va_get (D := D) (ci := 6) (v := .ref i1a) (C := RX6) (T := TX6) (N := 9) hx hb hts inT6 hown hK hP 0 rfl rfl 3 (by decide) (hts _ mT_229) (fun _ h9 => h9) rfl dX6_goBack_24 ?_
        refine lv_astore_n (lv' := [(2, .ref i1a), (0, .ref fa), (1, .int x)]) hx hb dX6_goBack_27 rfl hl (by decide) rfl (fun ls hl => ?_)
        refine lv_aload_n hx hb dX6_goBack_28 rfl (lv_at hl 0 rfl) ?_
        refine va_get (D := D) (ci := 1) (v := .int (i1 0 1)) (C := RX1) (T := TX1) (N := 3) hx hb hts inT1 hown hK hP 23 rfl rfl 2 (by decide) (hts _ mT_162) (fun _ h9 => h9) rfl dX6_goBack_29 ?_
        refine lv_if_ne (tgt := 38) hx hb dX6_goBack_32 (by decide) (fun c32 => ?_) (fun c32 => ?_)
        · have hf := ite_f c32 hf
          refine lv_aload_n hx hb dX6_goBack_38 rfl (lv_at hl 1 rfl) ?_
          refine va_get (D := D) (ci := 6) (v := .ref wa) (C := RX6) (T := TX6) (N := 9) hx hb hts inT6 hown hK hP 0 rfl rfl 0 (by decide) (hts _ mT_226) (fun _ h9 => h9) rfl dX6_goBack_39 ?_
          refine lv_aload_n hx hb dX6_goBack_42 rfl (lv_at hl 0 rfl) ?_
          refine va_get (D := D) (ci := 1) (v := .ref v1a) (C := RX1) (T := TX1) (N := 3) hx hb hts inT1 hown hK hP 23 rfl rfl 0 (by decide) (hts _ mT_160) (fun _ h9 => h9) rfl dX6_goBack_43 ?_
          obtain ⟨q46, h46, hf⟩ := bd_some hf
          refine kx_wv (As := [.ref v1a]) (rest := []) (wc := cWeb cI wa w1 w2 w3 w4 w5 w6 w7 w8 w9 w ++ (cWeb cI v1a v11 v12 v13 v14 v15 v16 v17 v18 v19 v1)) (wr := [(fa, .inr (6, [.ref wa, .ref pta, .ref i0a, .ref i1a, .ref bka, .ref kna, .ref tra, .ref jda, .int (f 0 0)])), (pta, .inr (3, [.int (pt 0 0), .int (pt 0 1), .ref rr])), (i0a, .inr (1, [.ref v0a, .int (i0 0 0), .int (i0 0 1)])), (v0a, .inr (4, [.int (v0 0 0), .int (v0 0 1), .int (v0 0 2), .ref v01, .ref v02, .ref v03, .ref v04, .ref v05, .ref v06, .ref v07, .ref v08, .ref v09])), (v01, .inl (cI, 64, .inl (v0 1))), (v02, .inl (cI, 10, .inl (v0 2))), (v03, .inl (cI, 10, .inl (v0 3))), (v04, .inl (cI, 20, .inl (v0 4))), (v05, .inl (cI, 20, .inl (v0 5))), (v06, .inl (cI, 160, .inl (v0 6))), (v07, .inl (cI, 20, .inl (v0 7))), (v08, .inl (cI, 20, .inl (v0 8))), (v09, .inl (cI, 20, .inl (v0 9))), (i1a, .inr (1, [.ref v1a, .int (i1 0 0), .int (i1 0 1)]))]) (wd := cWeb cI wa w1 w2 w3 w4 w5 w6 w7 w8 w9 q46 ++ (cWeb cI v1a v11 v12 v13 v14 v15 v16 v17 v18 v19 v1)) (wn := cFF fa wa pta i0a i1a bka kna tra jda f ++ (cWeb cI wa w1 w2 w3 w4 w5 w6 w7 w8 w9 q46 ++ (cPst pta rr pt ++ (cImg i0a v0a i0 ++ (cWeb cI v0a v01 v02 v03 v04 v05 v06 v07 v08 v09 v0 ++ (cImg i1a v1a i1 ++ (cWeb cI v1a v11 v12 v13 v14 v15 v16 v17 v18 v19 v1))))))) hx hb hml hown hts hk hP hD hS hA hl.1 s_yX4_become v_yX4_become (c_become l D cI cZ cR wa w1 w2 w3 w4 w5 w6 w7 w8 w9 v1a v11 v12 v13 v14 v15 v16 v17 v18 v19 w v1 s.heap.size _ h46) mT_547 rfl rfl ⟨Nat.le_of_ble_eq_true rfl, Nat.le_of_ble_eq_true rfl⟩ [1, 2, 3, 4, 5, 6, 7, 8, 9, 10, 24, 25, 26, 27, 28, 29, 30, 31, 32, 33] [0, 11, 12, 13, 14, 15, 16, 17, 18, 19, 20, 21, 22, 23] [0, 14, 15, 16, 17, 18, 19, 20, 21, 22, 23, 1, 2, 3, 4, 5, 6, 7, 8, 9, 10, 11, 12, 13, 24, 25, 26, 27, 28, 29, 30, 31, 32, 33] rfl rfl (by decide) (by decide) (by decide) (by decide) rfl (ci := 4) (q0 := 0) rfl rfl rfl (Nat.le_of_ble_eq_true rfl) ⟨Nat.zero_le _, Nat.zero_le _⟩ dX6_goBack_46 (fun H locs hP hD hS => ?_)
          refine lv_aload_n hx hb dX6_goBack_49 rfl (lv_at hl 1 rfl) ?_
          refine lv_aload_n hx hb dX6_goBack_50 rfl (lv_at hl 0 rfl) ?_
          refine va_get (D := D) (ci := 1) (v := .int (i1 0 0)) (C := RX1) (T := TX1) (N := 3) hx hb hts inT1 hown hK hP 23 rfl rfl 1 (by decide) (hts _ mT_161) (fun _ h9 => h9) rfl dX6_goBack_51 ?_
          refine va_put (D := D) (ci := 6) (v := .int (i1 0 0)) (ty := .int) (C := RX6) (T := TX6) (N := 9) hx hb hts inT6 tyX6 tyX6_ok nmX6 hown hK hP hD hS 0 rfl rfl 8 (by decide) (hts _ mT_234) (fun _ h9 => h9) rfl (by decide +kernel) rfl rfl (Nat.le_of_ble_eq_true rfl) dX6_goBack_54 (fun H locs hP hD hS => ?_)
          have hP : va_P D vwCl ([(fa, .inr (6, [.ref wa, .ref pta, .ref i0a, .ref i1a, .ref bka, .ref kna, .ref tra, .ref jda, .int (i1 0 0)]))] ++ (cWeb cI wa w1 w2 w3 w4 w5 w6 w7 w8 w9 q46 ++ (cPst pta rr pt ++ (cImg i0a v0a i0 ++ (cWeb cI v0a v01 v02 v03 v04 v05 v06 v07 v08 v09 v0 ++ (cImg i1a v1a i1 ++ (cWeb cI v1a v11 v12 v13 v14 v15 v16 v17 v18 v19 v1))))))) H := hP
          have hD : va_D A ([(fa, .inr (6, [.ref wa, .ref pta, .ref i0a, .ref i1a, .ref bka, .ref kna, .ref tra, .ref jda, .int (i1 0 0)]))] ++ (cWeb cI wa w1 w2 w3 w4 w5 w6 w7 w8 w9 q46 ++ (cPst pta rr pt ++ (cImg i0a v0a i0 ++ (cWeb cI v0a v01 v02 v03 v04 v05 v06 v07 v08 v09 v0 ++ (cImg i1a v1a i1 ++ (cWeb cI v1a v11 v12 v13 v14 v15 v16 v17 v18 v19 v1))))))) := hD
          refine lv_aload_n hx hb dX6_goBack_57 rfl (lv_at hl 1 rfl) ?_
          refine va_get (D := D) (ci := 6) (v := .ref pta) (C := RX6) (T := TX6) (N := 9) hx hb hts inT6 hown hK hP 0 rfl rfl 1 (by decide) (hts _ mT_227) (fun _ h9 => h9) rfl dX6_goBack_58 ?_
          obtain ⟨q61, h61, hf⟩ := bd_some hf
          refine kx_wv (As := []) (rest := []) (wc := cPst pta rr pt) (wr := [(fa, .inr (6, [.ref wa, .ref pta, .ref i0a, .ref i1a, .ref bka, .ref kna, .ref tra, .ref jda, .int (i1 0 0)])), (wa, .inr (4, [.int (q46 0 0), .int (q46 0 1), .int (q46 0 2), .ref w1, .ref w2, .ref w3, .ref w4, .ref w5, .ref w6, .ref w7, .ref w8, .ref w9])), (w1, .inl (cI, 64, .inl (q46 1))), (w2, .inl (cI, 10, .inl (q46 2))), (w3, .inl (cI, 10, .inl (q46 3))), (w4, .inl (cI, 20, .inl (q46 4))), (w5, .inl (cI, 20, .inl (q46 5))), (w6, .inl (cI, 160, .inl (q46 6))), (w7, .inl (cI, 20, .inl (q46 7))), (w8, .inl (cI, 20, .inl (q46 8))), (w9, .inl (cI, 20, .inl (q46 9))), (i0a, .inr (1, [.ref v0a, .int (i0 0 0), .int (i0 0 1)])), (v0a, .inr (4, [.int (v0 0 0), .int (v0 0 1), .int (v0 0 2), .ref v01, .ref v02, .ref v03, .ref v04, .ref v05, .ref v06, .ref v07, .ref v08, .ref v09])), (v01, .inl (cI, 64, .inl (v0 1))), (v02, .inl (cI, 10, .inl (v0 2))), (v03, .inl (cI, 10, .inl (v0 3))), (v04, .inl (cI, 20, .inl (v0 4))), (v05, .inl (cI, 20, .inl (v0 5))), (v06, .inl (cI, 160, .inl (v0 6))), (v07, .inl (cI, 20, .inl (v0 7))), (v08, .inl (cI, 20, .inl (v0 8))), (v09, .inl (cI, 20, .inl (v0 9))), (i1a, .inr (1, [.ref v1a, .int (i1 0 0), .int (i1 0 1)])), (v1a, .inr (4, [.int (v1 0 0), .int (v1 0 1), .int (v1 0 2), .ref v11, .ref v12, .ref v13, .ref v14, .ref v15, .ref v16, .ref v17, .ref v18, .ref v19])), (v11, .inl (cI, 64, .inl (v1 1))), (v12, .inl (cI, 10, .inl (v1 2))), (v13, .inl (cI, 10, .inl (v1 3))), (v14, .inl (cI, 20, .inl (v1 4))), (v15, .inl (cI, 20, .inl (v1 5))), (v16, .inl (cI, 160, .inl (v1 6))), (v17, .inl (cI, 20, .inl (v1 7))), (v18, .inl (cI, 20, .inl (v1 8))), (v19, .inl (cI, 20, .inl (v1 9)))]) (wd := cPst pta rr q61) (wn := cFF fa wa pta i0a i1a bka kna tra jda (sI f 0 (i1 0 0)) ++ (cWeb cI wa w1 w2 w3 w4 w5 w6 w7 w8 w9 q46 ++ (cPst pta rr q61 ++ (cImg i0a v0a i0 ++ (cWeb cI v0a v01 v02 v03 v04 v05 v06 v07 v08 v09 v0 ++ (cImg i1a v1a i1 ++ (cWeb cI v1a v11 v12 v13 v14 v15 v16 v17 v18 v19 v1))))))) hx hb hml hown hts hk hP hD hS hA hl.1 s_yX3_forget v_yX3_forget (c_forget l D cI cZ cR pta rr pt H.size _ h61) mT_548 rfl rfl ⟨Nat.le_of_ble_eq_true rfl, Nat.le_of_ble_eq_true rfl⟩ [11] [0, 1, 2, 3, 4, 5, 6, 7, 8, 9, 10, 12, 13, 14, 15, 16, 17, 18, 19, 20, 21, 22, 23, 24, 25, 26, 27, 28, 29, 30, 31, 32, 33] [0, 1, 2, 3, 4, 5, 6, 7, 8, 9, 10, 33, 11, 12, 13, 14, 15, 16, 17, 18, 19, 20, 21, 22, 23, 24, 25, 26, 27, 28, 29, 30, 31, 32] rfl rfl (by decide) (by decide) (by decide) (by decide) rfl (ci := 3) (q0 := 0) rfl rfl rfl (Nat.le_of_ble_eq_true rfl) ⟨Nat.zero_le _, Nat.zero_le _⟩ dX6_goBack_61 (fun H locs hP hD hS => ?_)
          refine lv_iconst (v := 1) hx hb dX6_goBack_64 (by decide) ?_
          exact hret _ _ _ (sI f 0 (i1 0 0), q46, q61) _ _ hf dX6_goBack_65 hP hD hS
        · have hf := ite_t c32 hf
          refine lv_ldc (v := (-1000000003)) hx hb hown (hts _ mT_498) dX6_goBack_35 ?_
          exact hret _ _ _ (f, w, pt) _ _ hf dX6_goBack_37 hP hD hS
      · have hf := ite_t c13 hf
        refine lv_aload_n hx hb dX6_goBack_16 rfl (lv_at hl 0 rfl) ?_
        refine va_get (D := D) (ci := 6) (v := .ref i0a) (C := RX6) (T := TX6) (N := 9) hx hb hts inT6 hown hK hP 0 rfl rfl 2 (by decide) (hts _ mT_228) (fun _ h9 => h9) rfl dX6_goBack_17 ?_
        refine lv_goto (tgt := 27) hx hb dX6_goBack_20 (by decide) ?_
        refine lv_astore_n (lv' := [(2, .ref i0a), (0, .ref fa), (1, .int x)]) hx hb dX6_goBack_27 rfl hl (by decide) rfl (fun ls hl => ?_)
        refine lv_aload_n hx hb dX6_goBack_28 rfl (lv_at hl 0 rfl) ?_
        refine va_get (D := D) (ci := 1) (v := .int (i0 0 1)) (C := RX1) (T := TX1) (N := 3) hx hb hts inT1 hown hK hP 12 rfl rfl 2 (by decide) (hts _ mT_162) (fun _ h9 => h9) rfl dX6_goBack_29 ?_
        refine lv_if_ne (tgt := 38) hx hb dX6_goBack_32 (by decide) (fun c32 => ?_) (fun c32 => ?_)
        · have hf := ite_f c32 hf
          refine lv_aload_n hx hb dX6_goBack_38 rfl (lv_at hl 1 rfl) ?_
          refine va_get (D := D) (ci := 6) (v := .ref wa) (C := RX6) (T := TX6) (N := 9) hx hb hts inT6 hown hK hP 0 rfl rfl 0 (by decide) (hts _ mT_226) (fun _ h9 => h9) rfl dX6_goBack_39 ?_
          refine lv_aload_n hx hb dX6_goBack_42 rfl (lv_at hl 0 rfl) ?_
          refine va_get (D := D) (ci := 1) (v := .ref v0a) (C := RX1) (T := TX1) (N := 3) hx hb hts inT1 hown hK hP 12 rfl rfl 0 (by decide) (hts _ mT_160) (fun _ h9 => h9) rfl dX6_goBack_43 ?_
          obtain ⟨q46, h46, hf⟩ := bd_some hf
          refine kx_wv (As := [.ref v0a]) (rest := []) (wc := cWeb cI wa w1 w2 w3 w4 w5 w6 w7 w8 w9 w ++ (cWeb cI v0a v01 v02 v03 v04 v05 v06 v07 v08 v09 v0)) (wr := [(fa, .inr (6, [.ref wa, .ref pta, .ref i0a, .ref i1a, .ref bka, .ref kna, .ref tra, .ref jda, .int (f 0 0)])), (pta, .inr (3, [.int (pt 0 0), .int (pt 0 1), .ref rr])), (i0a, .inr (1, [.ref v0a, .int (i0 0 0), .int (i0 0 1)])), (i1a, .inr (1, [.ref v1a, .int (i1 0 0), .int (i1 0 1)])), (v1a, .inr (4, [.int (v1 0 0), .int (v1 0 1), .int (v1 0 2), .ref v11, .ref v12, .ref v13, .ref v14, .ref v15, .ref v16, .ref v17, .ref v18, .ref v19])), (v11, .inl (cI, 64, .inl (v1 1))), (v12, .inl (cI, 10, .inl (v1 2))), (v13, .inl (cI, 10, .inl (v1 3))), (v14, .inl (cI, 20, .inl (v1 4))), (v15, .inl (cI, 20, .inl (v1 5))), (v16, .inl (cI, 160, .inl (v1 6))), (v17, .inl (cI, 20, .inl (v1 7))), (v18, .inl (cI, 20, .inl (v1 8))), (v19, .inl (cI, 20, .inl (v1 9)))]) (wd := cWeb cI wa w1 w2 w3 w4 w5 w6 w7 w8 w9 q46 ++ (cWeb cI v0a v01 v02 v03 v04 v05 v06 v07 v08 v09 v0)) (wn := cFF fa wa pta i0a i1a bka kna tra jda f ++ (cWeb cI wa w1 w2 w3 w4 w5 w6 w7 w8 w9 q46 ++ (cPst pta rr pt ++ (cImg i0a v0a i0 ++ (cWeb cI v0a v01 v02 v03 v04 v05 v06 v07 v08 v09 v0 ++ (cImg i1a v1a i1 ++ (cWeb cI v1a v11 v12 v13 v14 v15 v16 v17 v18 v19 v1))))))) hx hb hml hown hts hk hP hD hS hA hl.1 s_yX4_become v_yX4_become (c_become l D cI cZ cR wa w1 w2 w3 w4 w5 w6 w7 w8 w9 v0a v01 v02 v03 v04 v05 v06 v07 v08 v09 w v0 s.heap.size _ h46) mT_547 rfl rfl ⟨Nat.le_of_ble_eq_true rfl, Nat.le_of_ble_eq_true rfl⟩ [1, 2, 3, 4, 5, 6, 7, 8, 9, 10, 13, 14, 15, 16, 17, 18, 19, 20, 21, 22] [0, 11, 12, 23, 24, 25, 26, 27, 28, 29, 30, 31, 32, 33] [0, 14, 15, 16, 17, 18, 19, 20, 21, 22, 23, 1, 2, 24, 25, 26, 27, 28, 29, 30, 31, 32, 33, 3, 4, 5, 6, 7, 8, 9, 10, 11, 12, 13] rfl rfl (by decide) (by decide) (by decide) (by decide) rfl (ci := 4) (q0 := 0) rfl rfl rfl (Nat.le_of_ble_eq_true rfl) ⟨Nat.zero_le _, Nat.zero_le _⟩ dX6_goBack_46 (fun H locs hP hD hS => ?_)
          refine lv_aload_n hx hb dX6_goBack_49 rfl (lv_at hl 1 rfl) ?_
          refine lv_aload_n hx hb dX6_goBack_50 rfl (lv_at hl 0 rfl) ?_
          refine va_get (D := D) (ci := 1) (v := .int (i0 0 0)) (C := RX1) (T := TX1) (N := 3) hx hb hts inT1 hown hK hP 12 rfl rfl 1 (by decide) (hts _ mT_161) (fun _ h9 => h9) rfl dX6_goBack_51 ?_
          refine va_put (D := D) (ci := 6) (v := .int (i0 0 0)) (ty := .int) (C := RX6) (T := TX6) (N := 9) hx hb hts inT6 tyX6 tyX6_ok nmX6 hown hK hP hD hS 0 rfl rfl 8 (by decide) (hts _ mT_234) (fun _ h9 => h9) rfl (by decide +kernel) rfl rfl (Nat.le_of_ble_eq_true rfl) dX6_goBack_54 (fun H locs hP hD hS => ?_)
          have hP : va_P D vwCl ([(fa, .inr (6, [.ref wa, .ref pta, .ref i0a, .ref i1a, .ref bka, .ref kna, .ref tra, .ref jda, .int (i0 0 0)]))] ++ (cWeb cI wa w1 w2 w3 w4 w5 w6 w7 w8 w9 q46 ++ (cPst pta rr pt ++ (cImg i0a v0a i0 ++ (cWeb cI v0a v01 v02 v03 v04 v05 v06 v07 v08 v09 v0 ++ (cImg i1a v1a i1 ++ (cWeb cI v1a v11 v12 v13 v14 v15 v16 v17 v18 v19 v1))))))) H := hP
          have hD : va_D A ([(fa, .inr (6, [.ref wa, .ref pta, .ref i0a, .ref i1a, .ref bka, .ref kna, .ref tra, .ref jda, .int (i0 0 0)]))] ++ (cWeb cI wa w1 w2 w3 w4 w5 w6 w7 w8 w9 q46 ++ (cPst pta rr pt ++ (cImg i0a v0a i0 ++ (cWeb cI v0a v01 v02 v03 v04 v05 v06 v07 v08 v09 v0 ++ (cImg i1a v1a i1 ++ (cWeb cI v1a v11 v12 v13 v14 v15 v16 v17 v18 v19 v1))))))) := hD
          refine lv_aload_n hx hb dX6_goBack_57 rfl (lv_at hl 1 rfl) ?_
          refine va_get (D := D) (ci := 6) (v := .ref pta) (C := RX6) (T := TX6) (N := 9) hx hb hts inT6 hown hK hP 0 rfl rfl 1 (by decide) (hts _ mT_227) (fun _ h9 => h9) rfl dX6_goBack_58 ?_
          obtain ⟨q61, h61, hf⟩ := bd_some hf
          refine kx_wv (As := []) (rest := []) (wc := cPst pta rr pt) (wr := [(fa, .inr (6, [.ref wa, .ref pta, .ref i0a, .ref i1a, .ref bka, .ref kna, .ref tra, .ref jda, .int (i0 0 0)])), (wa, .inr (4, [.int (q46 0 0), .int (q46 0 1), .int (q46 0 2), .ref w1, .ref w2, .ref w3, .ref w4, .ref w5, .ref w6, .ref w7, .ref w8, .ref w9])), (w1, .inl (cI, 64, .inl (q46 1))), (w2, .inl (cI, 10, .inl (q46 2))), (w3, .inl (cI, 10, .inl (q46 3))), (w4, .inl (cI, 20, .inl (q46 4))), (w5, .inl (cI, 20, .inl (q46 5))), (w6, .inl (cI, 160, .inl (q46 6))), (w7, .inl (cI, 20, .inl (q46 7))), (w8, .inl (cI, 20, .inl (q46 8))), (w9, .inl (cI, 20, .inl (q46 9))), (i0a, .inr (1, [.ref v0a, .int (i0 0 0), .int (i0 0 1)])), (v0a, .inr (4, [.int (v0 0 0), .int (v0 0 1), .int (v0 0 2), .ref v01, .ref v02, .ref v03, .ref v04, .ref v05, .ref v06, .ref v07, .ref v08, .ref v09])), (v01, .inl (cI, 64, .inl (v0 1))), (v02, .inl (cI, 10, .inl (v0 2))), (v03, .inl (cI, 10, .inl (v0 3))), (v04, .inl (cI, 20, .inl (v0 4))), (v05, .inl (cI, 20, .inl (v0 5))), (v06, .inl (cI, 160, .inl (v0 6))), (v07, .inl (cI, 20, .inl (v0 7))), (v08, .inl (cI, 20, .inl (v0 8))), (v09, .inl (cI, 20, .inl (v0 9))), (i1a, .inr (1, [.ref v1a, .int (i1 0 0), .int (i1 0 1)])), (v1a, .inr (4, [.int (v1 0 0), .int (v1 0 1), .int (v1 0 2), .ref v11, .ref v12, .ref v13, .ref v14, .ref v15, .ref v16, .ref v17, .ref v18, .ref v19])), (v11, .inl (cI, 64, .inl (v1 1))), (v12, .inl (cI, 10, .inl (v1 2))), (v13, .inl (cI, 10, .inl (v1 3))), (v14, .inl (cI, 20, .inl (v1 4))), (v15, .inl (cI, 20, .inl (v1 5))), (v16, .inl (cI, 160, .inl (v1 6))), (v17, .inl (cI, 20, .inl (v1 7))), (v18, .inl (cI, 20, .inl (v1 8))), (v19, .inl (cI, 20, .inl (v1 9)))]) (wd := cPst pta rr q61) (wn := cFF fa wa pta i0a i1a bka kna tra jda (sI f 0 (i0 0 0)) ++ (cWeb cI wa w1 w2 w3 w4 w5 w6 w7 w8 w9 q46 ++ (cPst pta rr q61 ++ (cImg i0a v0a i0 ++ (cWeb cI v0a v01 v02 v03 v04 v05 v06 v07 v08 v09 v0 ++ (cImg i1a v1a i1 ++ (cWeb cI v1a v11 v12 v13 v14 v15 v16 v17 v18 v19 v1))))))) hx hb hml hown hts hk hP hD hS hA hl.1 s_yX3_forget v_yX3_forget (c_forget l D cI cZ cR pta rr pt H.size _ h61) mT_548 rfl rfl ⟨Nat.le_of_ble_eq_true rfl, Nat.le_of_ble_eq_true rfl⟩ [11] [0, 1, 2, 3, 4, 5, 6, 7, 8, 9, 10, 12, 13, 14, 15, 16, 17, 18, 19, 20, 21, 22, 23, 24, 25, 26, 27, 28, 29, 30, 31, 32, 33] [0, 1, 2, 3, 4, 5, 6, 7, 8, 9, 10, 33, 11, 12, 13, 14, 15, 16, 17, 18, 19, 20, 21, 22, 23, 24, 25, 26, 27, 28, 29, 30, 31, 32] rfl rfl (by decide) (by decide) (by decide) (by decide) rfl (ci := 3) (q0 := 0) rfl rfl rfl (Nat.le_of_ble_eq_true rfl) ⟨Nat.zero_le _, Nat.zero_le _⟩ dX6_goBack_61 (fun H locs hP hD hS => ?_)
          refine lv_iconst (v := 1) hx hb dX6_goBack_64 (by decide) ?_
          exact hret _ _ _ (sI f 0 (i0 0 0), q46, q61) _ _ hf dX6_goBack_65 hP hD hS
        · have hf := ite_t c32 hf
          refine lv_ldc (v := (-1000000003)) hx hb hown (hts _ mT_498) dX6_goBack_35 ?_
          exact hret _ _ _ (f, w, pt) _ _ hf dX6_goBack_37 hP hD hS
    · have hf := ite_f c6 hf
      refine lv_ldc (v := (-1000000001)) hx hb hown (hts _ mT_388) dX6_goBack_9 ?_
      exact hret _ _ _ (f, w, pt) _ _ hf dX6_goBack_11 hP hD hS
