theorem s_yX3_forget : kMS yX3_forget cX3_forget 1 none 0 := ⟨mT_551, mT_53, by decide +kernel⟩
theorem v_yX3_forget : kMV yX3_forget := ⟨mT_549, mT_550⟩
def f_forget (pt : Ob) : Option Ob := some (sI pt 0 0)
set_option maxHeartbeats 4000000 in
set_option maxRecDepth 100000 in
theorem c_forget (l : Launch) (D : va_G) (cI cZ cR : ClassId) (pta rr : Nat) (pt : Ob) (sz : Nat) (u : Ob) (hf : f_forget pt = some u) : kCv l yX3_forget cX3_forget 1 none { frames := 0, cells := 0, slots := 0, locals := 0 } [.ref pta] D cI cZ cR (cPst pta rr pt) sz (cPst pta rr u) := by
  refine kMwv (wf := (fun u : Ob => cPst pta rr u)) (u := u) (by decide) (Nat.le_of_ble_eq_true rfl) ?_
  intro p e s m below meth c Q A hx hb hml hown hts hk hP hD hA hS hret ls hl
  have hS0 := hS
  have hK := hk.1
  have hl : lv_has ls 1 [(0, .ref pta)] := hl
  rw [f_forget] at hf
  refine lv_aload_n hx hb dX3_forget_0 rfl (lv_at hl 0 rfl) ?_
  refine lv_iconst (v := 0) hx hb dX3_forget_1 (by decide) ?_
  refine va_put (D := D) (ci := 3) (v := .int 0) (ty := .int) (C := RX3) (T := TX3) (N := 3) hx hb hts inT3 tyX3 tyX3_ok nmX3 hown hK hP hD hS 0 rfl rfl 0 (by decide) (hts _ mT_140) (fun _ h9 => h9) rfl (by decide +kernel) rfl rfl (Nat.le_of_ble_eq_true rfl) dX3_forget_2 (fun H locs hP hD hS => ?_)
  have hP : va_P D vwCl ([(pta, .inr (3, [.int 0, .int (pt 0 1), .ref rr]))]) H := hP
  have hD : va_D A ([(pta, .inr (3, [.int 0, .int (pt 0 1), .ref rr]))]) := hD
  exact hret _ _ (sI pt 0 0) _ _ hf dX3_forget_5 hP hD hS
theorem s_yX6_isSet : kMS yX6_isSet cX6_isSet 1 (some .boolean) 1 := ⟨mT_464, mT_51, by decide +kernel⟩
def f_isSet (x : Int32) : Option Int32 := if x < 0 then (some 0) else (if 255 < x then (some 0) else (some 1))
set_option maxHeartbeats 4000000 in
set_option maxRecDepth 100000 in
theorem c_isSet (l : Launch) (D : va_G) (cI cZ cR : ClassId) (x : Int32) (r : Int32) (hf : f_isSet x = some r) : kCr l yX6_isSet cX6_isSet 1 (some .boolean) { frames := 0, cells := 0, slots := 0, locals := 0 } [.int x] D cI cZ cR ([]) r := by
  refine kMrz (by decide) (Nat.le_of_ble_eq_true rfl) ?_
  intro p e s m below meth c Q hx hb hml hown hts hk hP hret ls hl
  have hK := hk.1
  have hl : lv_has ls 1 [(0, .int x)] := hl
  rw [f_isSet] at hf
  refine lv_iload_n hx hb dX6_isSet_0 rfl (lv_at hl 0 rfl) ?_
  refine lv_if_lt (tgt := 15) hx hb dX6_isSet_1 (by decide) (fun c1 => ?_) (fun c1 => ?_)
  · have hf := ite_t c1 hf
    refine lv_iconst (v := 0) hx hb dX6_isSet_15 (by decide) ?_
    exact hret _ _ _ hf (Or.inl rfl) dX6_isSet_16
  · have hf := ite_f c1 hf
    refine lv_iload_n hx hb dX6_isSet_4 rfl (lv_at hl 0 rfl) ?_
    refine lv_sipush (v := 255) hx hb dX6_isSet_5 (by decide) ?_
    refine lv_icmp_gt (tgt := 15) hx hb dX6_isSet_8 (by decide) (fun c8 => ?_) (fun c8 => ?_)
    · have hf := ite_t c8 hf
      refine lv_iconst (v := 0) hx hb dX6_isSet_15 (by decide) ?_
      exact hret _ _ _ hf (Or.inl rfl) dX6_isSet_16
    · have hf := ite_f c8 hf
      refine lv_iconst (v := 1) hx hb dX6_isSet_11 (by decide) ?_
      refine lv_goto (tgt := 16) hx hb dX6_isSet_12 (by decide) ?_
      exact hret _ _ _ hf (Or.inr rfl) dX6_isSet_16
theorem s_yX6_isChoice : kMS yX6_isChoice cX6_isChoice 1 (some .boolean) 1 := ⟨mT_431, mT_51, by decide +kernel⟩
def f_isChoice (x : Int32) : Option Int32 := if x < 0 then (some 0) else (if 2 < x then (some 0) else (some 1))
set_option maxHeartbeats 4000000 in
set_option maxRecDepth 100000 in
theorem c_isChoice (l : Launch) (D : va_G) (cI cZ cR : ClassId) (x : Int32) (r : Int32) (hf : f_isChoice x = some r) : kCr l yX6_isChoice cX6_isChoice 1 (some .boolean) { frames := 0, cells := 0, slots := 0, locals := 0 } [.int x] D cI cZ cR ([]) r := by
  refine kMrz (by decide) (Nat.le_of_ble_eq_true rfl) ?_
  intro p e s m below meth c Q hx hb hml hown hts hk hP hret ls hl
  have hK := hk.1
  have hl : lv_has ls 1 [(0, .int x)] := hl
  rw [f_isChoice] at hf
  refine lv_iload_n hx hb dX6_isChoice_0 rfl (lv_at hl 0 rfl) ?_
  refine lv_if_lt (tgt := 13) hx hb dX6_isChoice_1 (by decide) (fun c1 => ?_) (fun c1 => ?_)
  · have hf := ite_t c1 hf
    refine lv_iconst (v := 0) hx hb dX6_isChoice_13 (by decide) ?_
    exact hret _ _ _ hf (Or.inl rfl) dX6_isChoice_14
  · have hf := ite_f c1 hf
    refine lv_iload_n hx hb dX6_isChoice_4 rfl (lv_at hl 0 rfl) ?_
    refine lv_iconst (v := 2) hx hb dX6_isChoice_5 (by decide) ?_
    refine lv_icmp_gt (tgt := 13) hx hb dX6_isChoice_6 (by decide) (fun c6 => ?_) (fun c6 => ?_)
    · have hf := ite_t c6 hf
      refine lv_iconst (v := 0) hx hb dX6_isChoice_13 (by decide) ?_
      exact hret _ _ _ hf (Or.inl rfl) dX6_isChoice_14
    · have hf := ite_f c6 hf
      refine lv_iconst (v := 1) hx hb dX6_isChoice_9 (by decide) ?_
      refine lv_goto (tgt := 14) hx hb dX6_isChoice_10 (by decide) ?_
      exact hret _ _ _ hf (Or.inr rfl) dX6_isChoice_14
theorem s_yX6_joined : kMS yX6_joined cX6_joined 3 (some .int) 2 := ⟨mT_383, mT_51, by decide +kernel⟩
theorem v_yX6_joined : kMV yX6_joined := ⟨mT_381, mT_382⟩
def f_x_joined (f : Ob) (w : Ob) (x : Int32) (y : Int32) : Option Int32 := bd (f_hasValue w x) (fun q5 => if q5 = 0 then (some (-1000000001)) else (bd (f_hasValue w y) (fun q16 => if q16 = 0 then (some (-1000000001)) else (bd (f_join w x y) (fun q31 => some q31)))))
set_option maxHeartbeats 4000000 in
set_option maxRecDepth 100000 in
theorem c_x_joined (l : Launch) (D : va_G) (cI cZ cR : ClassId) (fa wa pta i0a i1a bka kna tra jda w1 w2 w3 w4 w5 w6 w7 w8 w9 : Nat) (f : Ob) (w : Ob) (x : Int32) (y : Int32) (r : Int32) (hf : f_x_joined f w x y = some r) : kCr l yX6_joined cX6_joined 3 (some .int) { frames := 1, cells := 0, slots := 0, locals := 22 } [.ref fa, .int x, .int y] D cI cZ cR (cFF fa wa pta i0a i1a bka kna tra jda f ++ (cWeb cI wa w1 w2 w3 w4 w5 w6 w7 w8 w9 w)) r := by
  refine kMri (by decide) (Nat.le_of_ble_eq_true rfl) ?_
  intro p e s m below meth c Q hx hb hml hown hts hk hP hret ls hl
  have hK := hk.1
  have hl : lv_has ls 3 [(0, .ref fa), (1, .int x), (2, .int y)] := hl
  rw [f_x_joined] at hf
  refine lv_aload_n hx hb dX6_joined_0 rfl (lv_at hl 0 rfl) ?_
  refine va_get (D := D) (ci := 6) (v := .ref wa) (C := RX6) (T := TX6) (N := 9) hx hb hts inT6 hown hK hP 0 rfl rfl 0 (by decide) (hts _ mT_226) (fun _ h9 => h9) rfl dX6_joined_1 ?_
  refine lv_iload_n hx hb dX6_joined_4 rfl (lv_at hl 1 rfl) ?_
  obtain ⟨q5, h5, hf⟩ := bd_some hf
  refine kx_rv (As := [.int x]) (rest := []) hx hb hml hown hts hk (hP.sub (ws' := cWeb cI wa w1 w2 w3 w4 w5 w6 w7 w8 w9 w) [1, 2, 3, 4, 5, 6, 7, 8, 9, 10] rfl) hl.1 s_yX4_hasValue v_yX4_hasValue (c_hasValue l D cI cZ cR wa w1 w2 w3 w4 w5 w6 w7 w8 w9 w x _ h5) mT_384 rfl rfl ⟨Nat.le_of_ble_eq_true rfl, Nat.le_of_ble_eq_true rfl⟩ (ci := 4) (q0 := 0) rfl rfl rfl (Nat.le_of_ble_eq_true rfl) ⟨Nat.zero_le _, Nat.zero_le _⟩ dX6_joined_5 ?_
  refine lv_if_eq (tgt := 22) hx hb dX6_joined_8 (by decide) (fun c8 => ?_) (fun c8 => ?_)
  · have hf := ite_t c8 hf
    refine lv_ldc (v := (-1000000001)) hx hb hown (hts _ mT_388) dX6_joined_22 ?_
    exact hret _ _ _ hf dX6_joined_24
  · have hf := ite_f c8 hf
    refine lv_aload_n hx hb dX6_joined_11 rfl (lv_at hl 0 rfl) ?_
    refine va_get (D := D) (ci := 6) (v := .ref wa) (C := RX6) (T := TX6) (N := 9) hx hb hts inT6 hown hK hP 0 rfl rfl 0 (by decide) (hts _ mT_226) (fun _ h9 => h9) rfl dX6_joined_12 ?_
    refine lv_iload_n hx hb dX6_joined_15 rfl (lv_at hl 2 rfl) ?_
    obtain ⟨q16, h16, hf⟩ := bd_some hf
    refine kx_rv (As := [.int y]) (rest := []) hx hb hml hown hts hk (hP.sub (ws' := cWeb cI wa w1 w2 w3 w4 w5 w6 w7 w8 w9 w) [1, 2, 3, 4, 5, 6, 7, 8, 9, 10] rfl) hl.1 s_yX4_hasValue v_yX4_hasValue (c_hasValue l D cI cZ cR wa w1 w2 w3 w4 w5 w6 w7 w8 w9 w y _ h16) mT_384 rfl rfl ⟨Nat.le_of_ble_eq_true rfl, Nat.le_of_ble_eq_true rfl⟩ (ci := 4) (q0 := 0) rfl rfl rfl (Nat.le_of_ble_eq_true rfl) ⟨Nat.zero_le _, Nat.zero_le _⟩ dX6_joined_16 ?_
    refine lv_if_ne (tgt := 25) hx hb dX6_joined_19 (by decide) (fun c19 => ?_) (fun c19 => ?_)
    · have hf := ite_f c19 hf
      refine lv_aload_n hx hb dX6_joined_25 rfl (lv_at hl 0 rfl) ?_
      refine va_get (D := D) (ci := 6) (v := .ref wa) (C := RX6) (T := TX6) (N := 9) hx hb hts inT6 hown hK hP 0 rfl rfl 0 (by decide) (hts _ mT_226) (fun _ h9 => h9) rfl dX6_joined_26 ?_
      refine lv_iload_n hx hb dX6_joined_29 rfl (lv_at hl 1 rfl) ?_
      refine lv_iload_n hx hb dX6_joined_30 rfl (lv_at hl 2 rfl) ?_
      obtain ⟨q31, h31, hf⟩ := bd_some hf
      refine kx_rv (As := [.int x, .int y]) (rest := []) hx hb hml hown hts hk (hP.sub (ws' := cWeb cI wa w1 w2 w3 w4 w5 w6 w7 w8 w9 w) [1, 2, 3, 4, 5, 6, 7, 8, 9, 10] rfl) hl.1 s_yX4_join v_yX4_join (c_join l D cI cZ cR wa w1 w2 w3 w4 w5 w6 w7 w8 w9 w x y _ h31) mT_389 rfl rfl ⟨Nat.le_of_ble_eq_true rfl, Nat.le_of_ble_eq_true rfl⟩ (ci := 4) (q0 := 0) rfl rfl rfl (Nat.le_of_ble_eq_true rfl) ⟨Nat.zero_le _, Nat.zero_le _⟩ dX6_joined_31 ?_
      exact hret _ _ _ hf dX6_joined_34
    · have hf := ite_t c19 hf
      refine lv_ldc (v := (-1000000001)) hx hb hown (hts _ mT_388) dX6_joined_22 ?_
      exact hret _ _ _ hf dX6_joined_24
theorem s_yX6_below : kMS yX6_below cX6_below 3 (some .int) 2 := ⟨mT_393, mT_51, by decide +kernel⟩
theorem v_yX6_below : kMV yX6_below := ⟨mT_391, mT_392⟩
def f_x_below (f : Ob) (w : Ob) (x : Int32) (y : Int32) : Option Int32 := bd (f_hasValue w x) (fun q5 => if q5 = 0 then (some (-1000000001)) else (bd (f_hasValue w y) (fun q16 => if q16 = 0 then (some (-1000000001)) else (bd (f_isBelow w x y) (fun q31 => if q31 = 0 then (some 0) else (some 1))))))
set_option maxHeartbeats 4000000 in
set_option maxRecDepth 100000 in
theorem c_x_below (l : Launch) (D : va_G) (cI cZ cR : ClassId) (fa wa pta i0a i1a bka kna tra jda w1 w2 w3 w4 w5 w6 w7 w8 w9 : Nat) (f : Ob) (w : Ob) (x : Int32) (y : Int32) (r : Int32) (hf : f_x_below f w x y = some r) : kCr l yX6_below cX6_below 3 (some .int) { frames := 1, cells := 0, slots := 0, locals := 22 } [.ref fa, .int x, .int y] D cI cZ cR (cFF fa wa pta i0a i1a bka kna tra jda f ++ (cWeb cI wa w1 w2 w3 w4 w5 w6 w7 w8 w9 w)) r := by
  refine kMri (by decide) (Nat.le_of_ble_eq_true rfl) ?_
  intro p e s m below meth c Q hx hb hml hown hts hk hP hret ls hl
  have hK := hk.1
  have hl : lv_has ls 3 [(0, .ref fa), (1, .int x), (2, .int y)] := hl
  rw [f_x_below] at hf
  refine lv_aload_n hx hb dX6_below_0 rfl (lv_at hl 0 rfl) ?_
  refine va_get (D := D) (ci := 6) (v := .ref wa) (C := RX6) (T := TX6) (N := 9) hx hb hts inT6 hown hK hP 0 rfl rfl 0 (by decide) (hts _ mT_226) (fun _ h9 => h9) rfl dX6_below_1 ?_
  refine lv_iload_n hx hb dX6_below_4 rfl (lv_at hl 1 rfl) ?_
  obtain ⟨q5, h5, hf⟩ := bd_some hf
  refine kx_rv (As := [.int x]) (rest := []) hx hb hml hown hts hk (hP.sub (ws' := cWeb cI wa w1 w2 w3 w4 w5 w6 w7 w8 w9 w) [1, 2, 3, 4, 5, 6, 7, 8, 9, 10] rfl) hl.1 s_yX4_hasValue v_yX4_hasValue (c_hasValue l D cI cZ cR wa w1 w2 w3 w4 w5 w6 w7 w8 w9 w x _ h5) mT_384 rfl rfl ⟨Nat.le_of_ble_eq_true rfl, Nat.le_of_ble_eq_true rfl⟩ (ci := 4) (q0 := 0) rfl rfl rfl (Nat.le_of_ble_eq_true rfl) ⟨Nat.zero_le _, Nat.zero_le _⟩ dX6_below_5 ?_
  refine lv_if_eq (tgt := 22) hx hb dX6_below_8 (by decide) (fun c8 => ?_) (fun c8 => ?_)
  · have hf := ite_t c8 hf
    refine lv_ldc (v := (-1000000001)) hx hb hown (hts _ mT_388) dX6_below_22 ?_
    exact hret _ _ _ hf dX6_below_24
  · have hf := ite_f c8 hf
    refine lv_aload_n hx hb dX6_below_11 rfl (lv_at hl 0 rfl) ?_
    refine va_get (D := D) (ci := 6) (v := .ref wa) (C := RX6) (T := TX6) (N := 9) hx hb hts inT6 hown hK hP 0 rfl rfl 0 (by decide) (hts _ mT_226) (fun _ h9 => h9) rfl dX6_below_12 ?_
    refine lv_iload_n hx hb dX6_below_15 rfl (lv_at hl 2 rfl) ?_
    obtain ⟨q16, h16, hf⟩ := bd_some hf
    refine kx_rv (As := [.int y]) (rest := []) hx hb hml hown hts hk (hP.sub (ws' := cWeb cI wa w1 w2 w3 w4 w5 w6 w7 w8 w9 w) [1, 2, 3, 4, 5, 6, 7, 8, 9, 10] rfl) hl.1 s_yX4_hasValue v_yX4_hasValue (c_hasValue l D cI cZ cR wa w1 w2 w3 w4 w5 w6 w7 w8 w9 w y _ h16) mT_384 rfl rfl ⟨Nat.le_of_ble_eq_true rfl, Nat.le_of_ble_eq_true rfl⟩ (ci := 4) (q0 := 0) rfl rfl rfl (Nat.le_of_ble_eq_true rfl) ⟨Nat.zero_le _, Nat.zero_le _⟩ dX6_below_16 ?_
    refine lv_if_ne (tgt := 25) hx hb dX6_below_19 (by decide) (fun c19 => ?_) (fun c19 => ?_)
    · have hf := ite_f c19 hf
      refine lv_aload_n hx hb dX6_below_25 rfl (lv_at hl 0 rfl) ?_
      refine va_get (D := D) (ci := 6) (v := .ref wa) (C := RX6) (T := TX6) (N := 9) hx hb hts inT6 hown hK hP 0 rfl rfl 0 (by decide) (hts _ mT_226) (fun _ h9 => h9) rfl dX6_below_26 ?_
      refine lv_iload_n hx hb dX6_below_29 rfl (lv_at hl 1 rfl) ?_
      refine lv_iload_n hx hb dX6_below_30 rfl (lv_at hl 2 rfl) ?_
      obtain ⟨q31, h31, hf⟩ := bd_some hf
      refine kx_rv (As := [.int x, .int y]) (rest := []) hx hb hml hown hts hk (hP.sub (ws' := cWeb cI wa w1 w2 w3 w4 w5 w6 w7 w8 w9 w) [1, 2, 3, 4, 5, 6, 7, 8, 9, 10] rfl) hl.1 s_yX4_isBelow v_yX4_isBelow (c_isBelow l D cI cZ cR wa w1 w2 w3 w4 w5 w6 w7 w8 w9 w x y _ h31) mT_394 rfl rfl ⟨Nat.le_of_ble_eq_true rfl, Nat.le_of_ble_eq_true rfl⟩ (ci := 4) (q0 := 0) rfl rfl rfl (Nat.le_of_ble_eq_true rfl) ⟨Nat.zero_le _, Nat.zero_le _⟩ dX6_below_31 ?_
      refine lv_if_eq (tgt := 41) hx hb dX6_below_34 (by decide) (fun c34 => ?_) (fun c34 => ?_)
      · have hf := ite_t c34 hf
        refine lv_iconst (v := 0) hx hb dX6_below_41 (by decide) ?_
        exact hret _ _ _ hf dX6_below_42
      · have hf := ite_f c34 hf
        refine lv_iconst (v := 1) hx hb dX6_below_37 (by decide) ?_
        refine lv_goto (tgt := 42) hx hb dX6_below_38 (by decide) ?_
        exact hret _ _ _ hf dX6_below_42
    · have hf := ite_t c19 hf
      refine lv_ldc (v := (-1000000001)) hx hb hown (hts _ mT_388) dX6_below_22 ?_
      exact hret _ _ _ hf dX6_below_24
theorem s_yX6_mapped : kMS yX6_mapped cX6_mapped 3 (some .int) 2 := ⟨mT_424, mT_51, by decide +kernel⟩
theorem v_yX6_mapped : kMV yX6_mapped := ⟨mT_422, mT_423⟩
def f_x_mapped (f : Ob) (w : Ob) (x : Int32) (y : Int32) : Option Int32 := bd (f_hasWay w x) (fun q5 => if q5 = 0 then (some (-1000000001)) else (bd (f_hasValue w y) (fun q16 => if q16 = 0 then (some (-1000000001)) else (gd (ck ((x * 8) + y) 160) (some ((w 6) (Int32.toNatClampNeg ((x * 8) + y))))))))
set_option maxHeartbeats 4000000 in
set_option maxRecDepth 100000 in
theorem c_x_mapped (l : Launch) (D : va_G) (cI cZ cR : ClassId) (fa wa pta i0a i1a bka kna tra jda w1 w2 w3 w4 w5 w6 w7 w8 w9 : Nat) (f : Ob) (w : Ob) (x : Int32) (y : Int32) (r : Int32) (hf : f_x_mapped f w x y = some r) : kCr l yX6_mapped cX6_mapped 3 (some .int) { frames := 1, cells := 0, slots := 0, locals := 21 } [.ref fa, .int x, .int y] D cI cZ cR (cFF fa wa pta i0a i1a bka kna tra jda f ++ (cWeb cI wa w1 w2 w3 w4 w5 w6 w7 w8 w9 w)) r := by
  refine kMri (by decide) (Nat.le_of_ble_eq_true rfl) ?_
  intro p e s m below meth c Q hx hb hml hown hts hk hP hret ls hl
  have hK := hk.1
  have hl : lv_has ls 3 [(0, .ref fa), (1, .int x), (2, .int y)] := hl
  rw [f_x_mapped] at hf
  refine lv_aload_n hx hb dX6_mapped_0 rfl (lv_at hl 0 rfl) ?_
  refine va_get (D := D) (ci := 6) (v := .ref wa) (C := RX6) (T := TX6) (N := 9) hx hb hts inT6 hown hK hP 0 rfl rfl 0 (by decide) (hts _ mT_226) (fun _ h9 => h9) rfl dX6_mapped_1 ?_
  refine lv_iload_n hx hb dX6_mapped_4 rfl (lv_at hl 1 rfl) ?_
  obtain ⟨q5, h5, hf⟩ := bd_some hf
  refine kx_rv (As := [.int x]) (rest := []) hx hb hml hown hts hk (hP.sub (ws' := cWeb cI wa w1 w2 w3 w4 w5 w6 w7 w8 w9 w) [1, 2, 3, 4, 5, 6, 7, 8, 9, 10] rfl) hl.1 s_yX4_hasWay v_yX4_hasWay (c_hasWay l D cI cZ cR wa w1 w2 w3 w4 w5 w6 w7 w8 w9 w x _ h5) mT_415 rfl rfl ⟨Nat.le_of_ble_eq_true rfl, Nat.le_of_ble_eq_true rfl⟩ (ci := 4) (q0 := 0) rfl rfl rfl (Nat.le_of_ble_eq_true rfl) ⟨Nat.zero_le _, Nat.zero_le _⟩ dX6_mapped_5 ?_
  refine lv_if_eq (tgt := 22) hx hb dX6_mapped_8 (by decide) (fun c8 => ?_) (fun c8 => ?_)
  · have hf := ite_t c8 hf
    refine lv_ldc (v := (-1000000001)) hx hb hown (hts _ mT_388) dX6_mapped_22 ?_
    exact hret _ _ _ hf dX6_mapped_24
  · have hf := ite_f c8 hf
    refine lv_aload_n hx hb dX6_mapped_11 rfl (lv_at hl 0 rfl) ?_
    refine va_get (D := D) (ci := 6) (v := .ref wa) (C := RX6) (T := TX6) (N := 9) hx hb hts inT6 hown hK hP 0 rfl rfl 0 (by decide) (hts _ mT_226) (fun _ h9 => h9) rfl dX6_mapped_12 ?_
    refine lv_iload_n hx hb dX6_mapped_15 rfl (lv_at hl 2 rfl) ?_
    obtain ⟨q16, h16, hf⟩ := bd_some hf
    refine kx_rv (As := [.int y]) (rest := []) hx hb hml hown hts hk (hP.sub (ws' := cWeb cI wa w1 w2 w3 w4 w5 w6 w7 w8 w9 w) [1, 2, 3, 4, 5, 6, 7, 8, 9, 10] rfl) hl.1 s_yX4_hasValue v_yX4_hasValue (c_hasValue l D cI cZ cR wa w1 w2 w3 w4 w5 w6 w7 w8 w9 w y _ h16) mT_384 rfl rfl ⟨Nat.le_of_ble_eq_true rfl, Nat.le_of_ble_eq_true rfl⟩ (ci := 4) (q0 := 0) rfl rfl rfl (Nat.le_of_ble_eq_true rfl) ⟨Nat.zero_le _, Nat.zero_le _⟩ dX6_mapped_16 ?_
    refine lv_if_ne (tgt := 25) hx hb dX6_mapped_19 (by decide) (fun c19 => ?_) (fun c19 => ?_)
    · have hf := ite_f c19 hf
      refine lv_aload_n hx hb dX6_mapped_25 rfl (lv_at hl 0 rfl) ?_
      refine va_get (D := D) (ci := 6) (v := .ref wa) (C := RX6) (T := TX6) (N := 9) hx hb hts inT6 hown hK hP 0 rfl rfl 0 (by decide) (hts _ mT_226) (fun _ h9 => h9) rfl dX6_mapped_26 ?_
      refine va_get (D := D) (ci := 4) (v := .ref w6) (C := RX4) (T := TX4) (N := 12) hx hb hts inT4 hown hK hP 1 rfl rfl 8 (by decide) (hts _ mT_98) (fun _ h9 => h9) rfl dX6_mapped_29 ?_
      refine lv_iload_n hx hb dX6_mapped_32 rfl (lv_at hl 1 rfl) ?_
      refine lv_bipush (v := 8) hx hb dX6_mapped_33 (by decide) ?_
      refine lv_imul hx hb dX6_mapped_35 ?_
      refine lv_iload_n hx hb dX6_mapped_36 rfl (lv_at hl 2 rfl) ?_
      refine lv_iadd hx hb dX6_mapped_37 ?_
      obtain ⟨b38, hf⟩ := gd_some hf
      refine va_iald (n := 160) (f := w 6) hx hb hK hP 7 0 rfl rfl (ck_in b38) dX6_mapped_38 ?_
      exact hret _ _ _ hf dX6_mapped_39
    · have hf := ite_t c19 hf
      refine lv_ldc (v := (-1000000001)) hx hb hown (hts _ mT_388) dX6_mapped_22 ?_
      exact hret _ _ _ hf dX6_mapped_24
theorem s_yX6_findKnown : kMS yX6_findKnown cX6_findKnown 1 (some .boolean) 0 := ⟨mT_341, mT_51, by decide +kernel⟩
theorem v_yX6_findKnown : kMV yX6_findKnown := ⟨mT_340, mT_6⟩
def f_x_findKnown (f : Ob) (w : Ob) (kn : Ob) : Option (Int32 × Ob) := bd (f_isWell w) (fun q4 => if q4 = 0 then (some (0, kn)) else (bd (f_run kn w 0 (-1)) (fun q22 => some (1, q22.2))))
set_option maxHeartbeats 4000000 in
set_option maxRecDepth 100000 in
theorem c_x_findKnown (l : Launch) (D : va_G) (cI cZ cR : ClassId) (fa wa pta i0a i1a bka kna tra jda w1 w2 w3 w4 w5 w6 w7 w8 w9 kn1 kn2 : Nat) (f : Ob) (w : Ob) (kn : Ob) (sz : Nat) (r : Int32) (u : Ob) (hf : f_x_findKnown f w kn = some (r, u)) : kCi l yX6_findKnown cX6_findKnown 1 (some .boolean) { frames := 4, cells := 0, slots := 0, locals := 99 } [.ref fa] D cI cZ cR (cFF fa wa pta i0a i1a bka kna tra jda f ++ (cWeb cI wa w1 w2 w3 w4 w5 w6 w7 w8 w9 w ++ (cWork cI kna kn1 kn2 kn))) sz (cFF fa wa pta i0a i1a bka kna tra jda f ++ (cWeb cI wa w1 w2 w3 w4 w5 w6 w7 w8 w9 w ++ (cWork cI kna kn1 kn2 u))) r := by
  refine kMwz (wf := (fun u : Ob => cFF fa wa pta i0a i1a bka kna tra jda f ++ (cWeb cI wa w1 w2 w3 w4 w5 w6 w7 w8 w9 w ++ (cWork cI kna kn1 kn2 u)))) (u := u) (by decide) (Nat.le_of_ble_eq_true rfl) ?_
  intro p e s m below meth c Q A hx hb hml hown hts hk hP hD hA hS hret ls hl
  have hS0 := hS
  have hK := hk.1
  have hl : lv_has ls 1 [(0, .ref fa)] := hl
  rw [f_x_findKnown] at hf
  refine lv_aload_n hx hb dX6_findKnown_0 rfl (lv_at hl 0 rfl) ?_
  refine va_get (D := D) (ci := 6) (v := .ref wa) (C := RX6) (T := TX6) (N := 9) hx hb hts inT6 hown hK hP 0 rfl rfl 0 (by decide) (hts _ mT_226) (fun _ h9 => h9) rfl dX6_findKnown_1 ?_
  obtain ⟨q4, h4, hf⟩ := bd_some hf
  refine kx_rv (As := []) (rest := []) hx hb hml hown hts hk (hP.sub (ws' := cWeb cI wa w1 w2 w3 w4 w5 w6 w7 w8 w9 w) [1, 2, 3, 4, 5, 6, 7, 8, 9, 10] rfl) hl.1 s_yX4_isWell v_yX4_isWell (c_isWell l D cI cZ cR wa w1 w2 w3 w4 w5 w6 w7 w8 w9 w _ h4) mT_294 rfl rfl ⟨Nat.le_of_ble_eq_true rfl, Nat.le_of_ble_eq_true rfl⟩ (ci := 4) (q0 := 0) rfl rfl rfl (Nat.le_of_ble_eq_true rfl) ⟨Nat.zero_le _, Nat.zero_le _⟩ dX6_findKnown_4 ?_
  refine lv_if_ne (tgt := 12) hx hb dX6_findKnown_7 (by decide) (fun c7 => ?_) (fun c7 => ?_)
  · have hf := ite_f c7 hf
    refine lv_aload_n hx hb dX6_findKnown_12 rfl (lv_at hl 0 rfl) ?_
    refine va_get (D := D) (ci := 6) (v := .ref kna) (C := RX6) (T := TX6) (N := 9) hx hb hts inT6 hown hK hP 0 rfl rfl 5 (by decide) (hts _ mT_231) (fun _ h9 => h9) rfl dX6_findKnown_13 ?_
    refine lv_aload_n hx hb dX6_findKnown_16 rfl (lv_at hl 0 rfl) ?_
    refine va_get (D := D) (ci := 6) (v := .ref wa) (C := RX6) (T := TX6) (N := 9) hx hb hts inT6 hown hK hP 0 rfl rfl 0 (by decide) (hts _ mT_226) (fun _ h9 => h9) rfl dX6_findKnown_17 ?_
    refine lv_iconst (v := 0) hx hb dX6_findKnown_20 (by decide) ?_
    refine lv_iconst (v := (-1)) hx hb dX6_findKnown_21 (by decide) ?_
    obtain ⟨q22, h22, hf⟩ := bd_some hf
    refine kx_wi (As := [.ref wa, .int 0, .int (-1)]) (rest := []) (wc := cWork cI kna kn1 kn2 kn ++ (cWeb cI wa w1 w2 w3 w4 w5 w6 w7 w8 w9 w)) (wr := [(fa, .inr (6, [.ref wa, .ref pta, .ref i0a, .ref i1a, .ref bka, .ref kna, .ref tra, .ref jda, .int (f 0 0)]))]) (wd := cWork cI kna kn1 kn2 q22.2 ++ (cWeb cI wa w1 w2 w3 w4 w5 w6 w7 w8 w9 w)) (wn := cFF fa wa pta i0a i1a bka kna tra jda f ++ (cWeb cI wa w1 w2 w3 w4 w5 w6 w7 w8 w9 w ++ (cWork cI kna kn1 kn2 q22.2))) hx hb hml hown hts hk hP hD hS hA hl.1 s_yX5_run v_yX5_run (c_run l D cI cZ cR kna kn1 kn2 wa w1 w2 w3 w4 w5 w6 w7 w8 w9 kn w 0 (-1) s.heap.size _ _ h22) mT_342 rfl rfl ⟨Nat.le_of_ble_eq_true rfl, Nat.le_of_ble_eq_true rfl⟩ [11, 12, 13, 1, 2, 3, 4, 5, 6, 7, 8, 9, 10] [0] [0, 4, 5, 6, 7, 8, 9, 10, 11, 12, 13, 1, 2, 3] rfl rfl (by decide) (by decide) (by decide) (by decide) rfl (ci := 5) (q0 := 0) rfl rfl rfl (Nat.le_of_ble_eq_true rfl) ⟨Nat.zero_le _, Nat.zero_le _⟩ dX6_findKnown_22 (fun H locs hP hD hS => ?_)
    refine lv_pop hx hb dX6_findKnown_25 rfl ?_
    refine lv_iconst (v := 1) hx hb dX6_findKnown_26 (by decide) ?_
    exact hret _ _ _ q22.2 _ _ hf (Or.inr rfl) dX6_findKnown_27 hP hD hS
  · have hf := ite_t c7 hf
    refine lv_iconst (v := 0) hx hb dX6_findKnown_10 (by decide) ?_
    exact hret _ _ _ kn _ _ hf (Or.inl rfl) dX6_findKnown_11 hP hD hS
theorem s_yX6_otherwiseWithout : kMS yX6_otherwiseWithout cX6_otherwiseWithout 4 (some .int) 1 := ⟨mT_370, mT_51, by decide +kernel⟩
theorem v_yX6_otherwiseWithout : kMV yX6_otherwiseWithout := ⟨mT_369, mT_12⟩
def k_x_otherwiseWithout_18 (tr : Ob) (x2_18 : Int32) (x3_18 : Int32) : Option (Int32 × Ob) := some (x2_18, tr)
def lp_x_otherwiseWithout_18 (tr : Ob) (w : Ob) (kn : Ob) (kk0 : Int32 → Int32 → Option (Int32 × Ob)) : Nat → Int32 → Int32 → Option (Int32 × Ob)
  | 0, _, _ => none
  | fu18 + 1, x2_18, x3_18 => if (w 0 1) ≤ x3_18 then (kk0 x2_18 x3_18) else (gd (ck x3_18 10) (gd (ck x3_18 10) (if ((tr 1) (Int32.toNatClampNeg x3_18)) = ((kn 1) (Int32.toNatClampNeg x3_18)) then ((lp_x_otherwiseWithout_18 tr w kn kk0 fu18) x2_18 (x3_18 + 1)) else ((lp_x_otherwiseWithout_18 tr w kn kk0 fu18) (x2_18 + 1) (x3_18 + 1)))))
def f_x_otherwiseWithout (f : Ob) (w : Ob) (kn : Ob) (tr : Ob) (x : Int32) : Option (Int32 × Ob) := bd (f_run tr w 0 x) (fun q10 => lp_x_otherwiseWithout_18 q10.2 w kn (k_x_otherwiseWithout_18 q10.2) 10000 0 0)
set_option maxHeartbeats 4000000 in
set_option maxRecDepth 100000 in
theorem c_x_otherwiseWithout (l : Launch) (D : va_G) (cI cZ cR : ClassId) (fa wa pta i0a i1a bka kna tra jda w1 w2 w3 w4 w5 w6 w7 w8 w9 kn1 kn2 tr1 tr2 : Nat) (f : Ob) (w : Ob) (kn : Ob) (tr : Ob) (x : Int32) (sz : Nat) (r : Int32) (u : Ob) (hf : f_x_otherwiseWithout f w kn tr x = some (r, u)) : kCi l yX6_otherwiseWithout cX6_otherwiseWithout 4 (some .int) { frames := 4, cells := 0, slots := 0, locals := 99 } [.ref fa, .int x] D cI cZ cR (cFF fa wa pta i0a i1a bka kna tra jda f ++ (cWeb cI wa w1 w2 w3 w4 w5 w6 w7 w8 w9 w ++ (cWork cI kna kn1 kn2 kn ++ (cWork cI tra tr1 tr2 tr)))) sz (cFF fa wa pta i0a i1a bka kna tra jda f ++ (cWeb cI wa w1 w2 w3 w4 w5 w6 w7 w8 w9 w ++ (cWork cI kna kn1 kn2 kn ++ (cWork cI tra tr1 tr2 u)))) r := by
  refine kMwi (wf := (fun u : Ob => cFF fa wa pta i0a i1a bka kna tra jda f ++ (cWeb cI wa w1 w2 w3 w4 w5 w6 w7 w8 w9 w ++ (cWork cI kna kn1 kn2 kn ++ (cWork cI tra tr1 tr2 u))))) (u := u) (by decide) (Nat.le_of_ble_eq_true rfl) ?_
  intro p e s m below meth c Q A hx hb hml hown hts hk hP hD hA hS hret ls hl
  have hS0 := hS
  have hK := hk.1
  have hl : lv_has ls 4 [(0, .ref fa), (1, .int x)] := hl
  rw [f_x_otherwiseWithout] at hf
  refine lv_aload_n hx hb dX6_otherwiseWithout_0 rfl (lv_at hl 0 rfl) ?_
  refine va_get (D := D) (ci := 6) (v := .ref tra) (C := RX6) (T := TX6) (N := 9) hx hb hts inT6 hown hK hP 0 rfl rfl 6 (by decide) (hts _ mT_232) (fun _ h9 => h9) rfl dX6_otherwiseWithout_1 ?_
  refine lv_aload_n hx hb dX6_otherwiseWithout_4 rfl (lv_at hl 0 rfl) ?_
  refine va_get (D := D) (ci := 6) (v := .ref wa) (C := RX6) (T := TX6) (N := 9) hx hb hts inT6 hown hK hP 0 rfl rfl 0 (by decide) (hts _ mT_226) (fun _ h9 => h9) rfl dX6_otherwiseWithout_5 ?_
  refine lv_iconst (v := 0) hx hb dX6_otherwiseWithout_8 (by decide) ?_
  refine lv_iload_n hx hb dX6_otherwiseWithout_9 rfl (lv_at hl 1 rfl) ?_
  obtain ⟨q10, h10, hf⟩ := bd_some hf
  refine kx_wi (As := [.ref wa, .int 0, .int x]) (rest := []) (wc := cWork cI tra tr1 tr2 tr ++ (cWeb cI wa w1 w2 w3 w4 w5 w6 w7 w8 w9 w)) (wr := [(fa, .inr (6, [.ref wa, .ref pta, .ref i0a, .ref i1a, .ref bka, .ref kna, .ref tra, .ref jda, .int (f 0 0)])), (kna, .inr (5, [.ref kn1, .ref kn2, .int (kn 0 0)])), (kn1, .inl (cI, 10, .inl (kn 1))), (kn2, .inl (cI, 10, .inl (kn 2)))]) (wd := cWork cI tra tr1 tr2 q10.2 ++ (cWeb cI wa w1 w2 w3 w4 w5 w6 w7 w8 w9 w)) (wn := cFF fa wa pta i0a i1a bka kna tra jda f ++ (cWeb cI wa w1 w2 w3 w4 w5 w6 w7 w8 w9 w ++ (cWork cI kna kn1 kn2 kn ++ (cWork cI tra tr1 tr2 q10.2)))) hx hb hml hown hts hk hP hD hS hA hl.1 s_yX5_run v_yX5_run (c_run l D cI cZ cR tra tr1 tr2 wa w1 w2 w3 w4 w5 w6 w7 w8 w9 tr w 0 x s.heap.size _ _ h10) mT_342 rfl rfl ⟨Nat.le_of_ble_eq_true rfl, Nat.le_of_ble_eq_true rfl⟩ [14, 15, 16, 1, 2, 3, 4, 5, 6, 7, 8, 9, 10] [0, 11, 12, 13] [0, 7, 8, 9, 10, 11, 12, 13, 14, 15, 16, 1, 2, 3, 4, 5, 6] rfl rfl (by decide) (by decide) (by decide) (by decide) rfl (ci := 5) (q0 := 0) rfl rfl rfl (Nat.le_of_ble_eq_true rfl) ⟨Nat.zero_le _, Nat.zero_le _⟩ dX6_otherwiseWithout_10 (fun H locs hP hD hS => ?_)
  refine lv_pop hx hb dX6_otherwiseWithout_13 rfl ?_
  refine lv_iconst (v := 0) hx hb dX6_otherwiseWithout_14 (by decide) ?_
  refine lv_istore_n (lv' := [(2, .int 0), (0, .ref fa), (1, .int x)]) hx hb dX6_otherwiseWithout_15 rfl hl (by decide) rfl (fun ls hl => ?_)
  refine lv_iconst (v := 0) hx hb dX6_otherwiseWithout_16 (by decide) ?_
  refine lv_istore_n (lv' := [(3, .int 0), (2, .int 0), (0, .ref fa), (1, .int x)]) hx hb dX6_otherwiseWithout_17 rfl hl (by decide) rfl (fun ls hl => ?_)
  have kx18 : ∀ (x2_18 : Int32) (x3_18 : Int32) (H : Heap) (locs : List Loc) (ls : Array Slot), (k_x_otherwiseWithout_18 q10.2) x2_18 x3_18 = some (r, u) → va_P D vwCl (cFF fa wa pta i0a i1a bka kna tra jda f ++ (cWeb cI wa w1 w2 w3 w4 w5 w6 w7 w8 w9 w ++ (cWork cI kna kn1 kn2 kn ++ (cWork cI tra tr1 tr2 q10.2)))) H → va_D A (cFF fa wa pta i0a i1a bka kna tra jda f ++ (cWeb cI wa w1 w2 w3 w4 w5 w6 w7 w8 w9 w ++ (cWork cI kna kn1 kn2 kn ++ (cWork cI tra tr1 tr2 q10.2)))) → va_S A s.heap H locs → lv_has ls 4 [(0, .ref fa), (1, .int x), (2, .int x2_18), (3, .int x3_18)] → W p l e ({ frames := 4, cells := 0, slots := 0, locals := 99 } : Room) s m ([.ref fa, .int x] : List Value).toArray below meth c H locs 0 0 Q (F0 m 59 ls []) := by
    intro x2_18 x3_18 H locs ls hf hP hD hS hl
    rw [k_x_otherwiseWithout_18] at hf
    refine lv_iload_n hx hb dX6_otherwiseWithout_59 rfl (lv_at hl 2 rfl) ?_
    exact hret _ _ _ q10.2 _ _ hf dX6_otherwiseWithout_60 hP hD hS
  have lh18 : ∀ (fu18 : Nat) (x2_18 : Int32) (x3_18 : Int32) (H : Heap) (locs : List Loc) (ls : Array Slot), lp_x_otherwiseWithout_18 q10.2 w kn (k_x_otherwiseWithout_18 q10.2) fu18 x2_18 x3_18 = some (r, u) → va_P D vwCl (cFF fa wa pta i0a i1a bka kna tra jda f ++ (cWeb cI wa w1 w2 w3 w4 w5 w6 w7 w8 w9 w ++ (cWork cI kna kn1 kn2 kn ++ (cWork cI tra tr1 tr2 q10.2)))) H → va_D A (cFF fa wa pta i0a i1a bka kna tra jda f ++ (cWeb cI wa w1 w2 w3 w4 w5 w6 w7 w8 w9 w ++ (cWork cI kna kn1 kn2 kn ++ (cWork cI tra tr1 tr2 q10.2)))) → va_S A s.heap H locs → lv_has ls 4 [(0, .ref fa), (1, .int x), (2, .int x2_18), (3, .int x3_18)] → W p l e ({ frames := 4, cells := 0, slots := 0, locals := 99 } : Room) s m ([.ref fa, .int x] : List Value).toArray below meth c H locs 0 0 Q (F0 m 18 ls []) := by
    intro fu18
    induction fu18 with
    | zero => intro x2_18 x3_18 H locs ls hf hP hD hS hl; exact no_none hf
    | succ fu18 ih18 =>
      intro x2_18 x3_18 H locs ls hf hP hD hS hl
      rw [lp_x_otherwiseWithout_18] at hf
      refine lv_iload_n hx hb dX6_otherwiseWithout_18 rfl (lv_at hl 3 rfl) ?_
      refine lv_aload_n hx hb dX6_otherwiseWithout_19 rfl (lv_at hl 0 rfl) ?_
      refine va_get (D := D) (ci := 6) (v := .ref wa) (C := RX6) (T := TX6) (N := 9) hx hb hts inT6 hown hK hP 0 rfl rfl 0 (by decide) (hts _ mT_226) (fun _ h9 => h9) rfl dX6_otherwiseWithout_20 ?_
      refine va_get (D := D) (ci := 4) (v := .int (w 0 1)) (C := RX4) (T := TX4) (N := 12) hx hb hts inT4 hown hK hP 1 rfl rfl 1 (by decide) (hts _ mT_80) (fun _ h9 => h9) rfl dX6_otherwiseWithout_23 ?_
      refine lv_icmp_ge (tgt := 59) hx hb dX6_otherwiseWithout_26 (by decide) (fun c26 => ?_) (fun c26 => ?_)
      · have hf := ite_t c26 hf
        exact kx18 x2_18 x3_18 _ _ _ hf hP hD hS (lv_sub hl [0, 1, 2, 3] rfl)
      · have hf := ite_f c26 hf
        refine lv_aload_n hx hb dX6_otherwiseWithout_29 rfl (lv_at hl 0 rfl) ?_
        refine va_get (D := D) (ci := 6) (v := .ref tra) (C := RX6) (T := TX6) (N := 9) hx hb hts inT6 hown hK hP 0 rfl rfl 6 (by decide) (hts _ mT_232) (fun _ h9 => h9) rfl dX6_otherwiseWithout_30 ?_
        refine va_get (D := D) (ci := 5) (v := .ref tr1) (C := RX5) (T := TX5) (N := 3) hx hb hts inT5 hown hK hP 14 rfl rfl 0 (by decide) (hts _ mT_194) (fun _ h9 => h9) rfl dX6_otherwiseWithout_33 ?_
        refine lv_iload_n hx hb dX6_otherwiseWithout_36 rfl (lv_at hl 3 rfl) ?_
        obtain ⟨b37, hf⟩ := gd_some hf
        refine va_iald (n := 10) (f := q10.2 1) hx hb hK hP 15 0 rfl rfl (ck_in b37) dX6_otherwiseWithout_37 ?_
        refine lv_aload_n hx hb dX6_otherwiseWithout_38 rfl (lv_at hl 0 rfl) ?_
        refine va_get (D := D) (ci := 6) (v := .ref kna) (C := RX6) (T := TX6) (N := 9) hx hb hts inT6 hown hK hP 0 rfl rfl 5 (by decide) (hts _ mT_231) (fun _ h9 => h9) rfl dX6_otherwiseWithout_39 ?_
        refine va_get (D := D) (ci := 5) (v := .ref kn1) (C := RX5) (T := TX5) (N := 3) hx hb hts inT5 hown hK hP 11 rfl rfl 0 (by decide) (hts _ mT_194) (fun _ h9 => h9) rfl dX6_otherwiseWithout_42 ?_
        refine lv_iload_n hx hb dX6_otherwiseWithout_45 rfl (lv_at hl 3 rfl) ?_
        obtain ⟨b46, hf⟩ := gd_some hf
        refine va_iald (n := 10) (f := kn 1) hx hb hK hP 12 0 rfl rfl (ck_in b46) dX6_otherwiseWithout_46 ?_
        refine lv_icmp_eq (tgt := 53) hx hb dX6_otherwiseWithout_47 (by decide) (fun c47 => ?_) (fun c47 => ?_)
        · have hf := ite_t c47 hf
          refine lv_iinc (v := x3_18 + 1) (lv' := [(3, .int (x3_18 + 1)), (0, .ref fa), (1, .int x), (2, .int x2_18)]) hx hb dX6_otherwiseWithout_53 hl (k := 3) rfl rfl (by decide) rfl (fun ls hl => ?_)
          refine lv_goto (tgt := 18) hx hb dX6_otherwiseWithout_56 (by decide) ?_
          exact ih18 x2_18 (x3_18 + 1) _ _ _ hf hP hD hS (lv_sub hl [1, 2, 3, 0] rfl)
        · have hf := ite_f c47 hf
          refine lv_iinc (v := x2_18 + 1) (lv' := [(2, .int (x2_18 + 1)), (0, .ref fa), (1, .int x), (3, .int x3_18)]) hx hb dX6_otherwiseWithout_50 hl (k := 2) rfl rfl (by decide) rfl (fun ls hl => ?_)
          refine lv_iinc (v := x3_18 + 1) (lv' := [(3, .int (x3_18 + 1)), (2, .int (x2_18 + 1)), (0, .ref fa), (1, .int x)]) hx hb dX6_otherwiseWithout_53 hl (k := 3) rfl rfl (by decide) rfl (fun ls hl => ?_)
          refine lv_goto (tgt := 18) hx hb dX6_otherwiseWithout_56 (by decide) ?_
          exact ih18 (x2_18 + 1) (x3_18 + 1) _ _ _ hf hP hD hS (lv_sub hl [2, 3, 1, 0] rfl)
  exact lh18 10000 0 0 _ _ _ hf hP hD hS (lv_sub hl [2, 3, 1, 0] rfl)
theorem s_yX6_waysThatMatter : kMS yX6_waysThatMatter cX6_waysThatMatter 3 (some .int) 0 := ⟨mT_366, mT_51, by decide +kernel⟩
theorem v_yX6_waysThatMatter : kMV yX6_waysThatMatter := ⟨mT_365, mT_11⟩
def k_x_waysThatMatter_13 (kn : Ob) (x1_13 : Int32) (x2_13 : Int32) (tr_13 : Ob) : Option (Int32 × Ob × Ob) := some (x1_13, kn, tr_13)
def lp_x_waysThatMatter_13 (kn : Ob) (f : Ob) (w : Ob) (kk0 : Int32 → Int32 → Ob → Option (Int32 × Ob × Ob)) : Nat → Int32 → Int32 → Ob → Option (Int32 × Ob × Ob)
  | 0, _, _, _ => none
  | fu13 + 1, x1_13, x2_13, tr_13 => if (w 0 2) ≤ x2_13 then (kk0 x1_13 x2_13 tr_13) else (bd (f_x_otherwiseWithout f w kn tr_13 x2_13) (fun q26 => if q26.1 ≤ 0 then ((lp_x_waysThatMatter_13 kn f w kk0 fu13) x1_13 (x2_13 + 1) q26.2) else ((lp_x_waysThatMatter_13 kn f w kk0 fu13) (x1_13 ||| (1 <<< (x2_13 &&& 31))) (x2_13 + 1) q26.2)))
def f_x_waysThatMatter (f : Ob) (w : Ob) (kn : Ob) (tr : Ob) : Option (Int32 × Ob × Ob) := bd (f_x_findKnown f w kn) (fun q1 => if q1.1 = 0 then (some ((-1), q1.2, tr)) else (lp_x_waysThatMatter_13 q1.2 f w (k_x_waysThatMatter_13 q1.2) 10000 0 0 tr))
set_option maxHeartbeats 4000000 in
set_option maxRecDepth 100000 in
theorem c_x_waysThatMatter (l : Launch) (D : va_G) (cI cZ cR : ClassId) (fa wa pta i0a i1a bka kna tra jda w1 w2 w3 w4 w5 w6 w7 w8 w9 kn1 kn2 tr1 tr2 : Nat) (f : Ob) (w : Ob) (kn : Ob) (tr : Ob) (sz : Nat) (r : Int32) (u : Ob × Ob) (hf : f_x_waysThatMatter f w kn tr = some (r, u)) : kCi l yX6_waysThatMatter cX6_waysThatMatter 3 (some .int) { frames := 5, cells := 0, slots := 0, locals := 122 } [.ref fa] D cI cZ cR (cFF fa wa pta i0a i1a bka kna tra jda f ++ (cWeb cI wa w1 w2 w3 w4 w5 w6 w7 w8 w9 w ++ (cWork cI kna kn1 kn2 kn ++ (cWork cI tra tr1 tr2 tr)))) sz (cFF fa wa pta i0a i1a bka kna tra jda f ++ (cWeb cI wa w1 w2 w3 w4 w5 w6 w7 w8 w9 w ++ (cWork cI kna kn1 kn2 u.1 ++ (cWork cI tra tr1 tr2 u.2)))) r := by
  refine kMwi (wf := (fun u : Ob × Ob => cFF fa wa pta i0a i1a bka kna tra jda f ++ (cWeb cI wa w1 w2 w3 w4 w5 w6 w7 w8 w9 w ++ (cWork cI kna kn1 kn2 u.1 ++ (cWork cI tra tr1 tr2 u.2))))) (u := u) (by decide) (Nat.le_of_ble_eq_true rfl) ?_
  intro p e s m below meth c Q A hx hb hml hown hts hk hP hD hA hS hret ls hl
  have hS0 := hS
  have hK := hk.1
  have hl : lv_has ls 3 [(0, .ref fa)] := hl
  rw [f_x_waysThatMatter] at hf
  refine lv_aload_n hx hb dX6_waysThatMatter_0 rfl (lv_at hl 0 rfl) ?_
  obtain ⟨q1, h1, hf⟩ := bd_some hf
  refine kx_wi (As := []) (rest := []) (wc := cFF fa wa pta i0a i1a bka kna tra jda f ++ (cWeb cI wa w1 w2 w3 w4 w5 w6 w7 w8 w9 w ++ (cWork cI kna kn1 kn2 kn))) (wr := [(tra, .inr (5, [.ref tr1, .ref tr2, .int (tr 0 0)])), (tr1, .inl (cI, 10, .inl (tr 1))), (tr2, .inl (cI, 10, .inl (tr 2)))]) (wd := cFF fa wa pta i0a i1a bka kna tra jda f ++ (cWeb cI wa w1 w2 w3 w4 w5 w6 w7 w8 w9 w ++ (cWork cI kna kn1 kn2 q1.2))) (wn := cFF fa wa pta i0a i1a bka kna tra jda f ++ (cWeb cI wa w1 w2 w3 w4 w5 w6 w7 w8 w9 w ++ (cWork cI kna kn1 kn2 q1.2 ++ (cWork cI tra tr1 tr2 tr)))) hx hb hml hown hts hk hP hD hS hA hl.1 s_yX6_findKnown v_yX6_findKnown (c_x_findKnown l D cI cZ cR fa wa pta i0a i1a bka kna tra jda w1 w2 w3 w4 w5 w6 w7 w8 w9 kn1 kn2 f w kn s.heap.size _ _ h1) mT_338 rfl rfl ⟨Nat.le_of_ble_eq_true rfl, Nat.le_of_ble_eq_true rfl⟩ [0, 1, 2, 3, 4, 5, 6, 7, 8, 9, 10, 11, 12, 13] [14, 15, 16] [3, 4, 5, 6, 7, 8, 9, 10, 11, 12, 13, 14, 15, 16, 0, 1, 2] rfl rfl (by decide) (by decide) (by decide) (by decide) rfl (ci := 6) (q0 := 0) rfl rfl rfl (Nat.le_of_ble_eq_true rfl) ⟨Nat.zero_le _, Nat.zero_le _⟩ dX6_waysThatMatter_1 (fun H locs hP hD hS => ?_)
  refine lv_if_ne (tgt := 9) hx hb dX6_waysThatMatter_4 (by decide) (fun c4 => ?_) (fun c4 => ?_)
  · have hf := ite_f c4 hf
    refine lv_iconst (v := 0) hx hb dX6_waysThatMatter_9 (by decide) ?_
    refine lv_istore_n (lv' := [(1, .int 0), (0, .ref fa)]) hx hb dX6_waysThatMatter_10 rfl hl (by decide) rfl (fun ls hl => ?_)
    refine lv_iconst (v := 0) hx hb dX6_waysThatMatter_11 (by decide) ?_
    refine lv_istore_n (lv' := [(2, .int 0), (1, .int 0), (0, .ref fa)]) hx hb dX6_waysThatMatter_12 rfl hl (by decide) rfl (fun ls hl => ?_)
    have kx13 : ∀ (x1_13 : Int32) (x2_13 : Int32) (tr_13 : Ob) (H : Heap) (locs : List Loc) (ls : Array Slot), (k_x_waysThatMatter_13 q1.2) x1_13 x2_13 tr_13 = some (r, u) → va_P D vwCl (cFF fa wa pta i0a i1a bka kna tra jda f ++ (cWeb cI wa w1 w2 w3 w4 w5 w6 w7 w8 w9 w ++ (cWork cI kna kn1 kn2 q1.2 ++ (cWork cI tra tr1 tr2 tr_13)))) H → va_D A (cFF fa wa pta i0a i1a bka kna tra jda f ++ (cWeb cI wa w1 w2 w3 w4 w5 w6 w7 w8 w9 w ++ (cWork cI kna kn1 kn2 q1.2 ++ (cWork cI tra tr1 tr2 tr_13)))) → va_S A s.heap H locs → lv_has ls 3 [(0, .ref fa), (1, .int x1_13), (2, .int x2_13)] → W p l e ({ frames := 5, cells := 0, slots := 0, locals := 122 } : Room) s m ([.ref fa] : List Value).toArray below meth c H locs 0 0 Q (F0 m 44 ls []) := by
      intro x1_13 x2_13 tr_13 H locs ls hf hP hD hS hl
      rw [k_x_waysThatMatter_13] at hf
      refine lv_iload_n hx hb dX6_waysThatMatter_44 rfl (lv_at hl 1 rfl) ?_
      exact hret _ _ _ (q1.2, tr_13) _ _ hf dX6_waysThatMatter_45 hP hD hS
    have lh13 : ∀ (fu13 : Nat) (x1_13 : Int32) (x2_13 : Int32) (tr_13 : Ob) (H : Heap) (locs : List Loc) (ls : Array Slot), lp_x_waysThatMatter_13 q1.2 f w (k_x_waysThatMatter_13 q1.2) fu13 x1_13 x2_13 tr_13 = some (r, u) → va_P D vwCl (cFF fa wa pta i0a i1a bka kna tra jda f ++ (cWeb cI wa w1 w2 w3 w4 w5 w6 w7 w8 w9 w ++ (cWork cI kna kn1 kn2 q1.2 ++ (cWork cI tra tr1 tr2 tr_13)))) H → va_D A (cFF fa wa pta i0a i1a bka kna tra jda f ++ (cWeb cI wa w1 w2 w3 w4 w5 w6 w7 w8 w9 w ++ (cWork cI kna kn1 kn2 q1.2 ++ (cWork cI tra tr1 tr2 tr_13)))) → va_S A s.heap H locs → lv_has ls 3 [(0, .ref fa), (1, .int x1_13), (2, .int x2_13)] → W p l e ({ frames := 5, cells := 0, slots := 0, locals := 122 } : Room) s m ([.ref fa] : List Value).toArray below meth c H locs 0 0 Q (F0 m 13 ls []) := by
      intro fu13
      induction fu13 with
      | zero => intro x1_13 x2_13 tr_13 H locs ls hf hP hD hS hl; exact no_none hf
      | succ fu13 ih13 =>
        intro x1_13 x2_13 tr_13 H locs ls hf hP hD hS hl
        rw [lp_x_waysThatMatter_13] at hf
        refine lv_iload_n hx hb dX6_waysThatMatter_13 rfl (lv_at hl 2 rfl) ?_
        refine lv_aload_n hx hb dX6_waysThatMatter_14 rfl (lv_at hl 0 rfl) ?_
        refine va_get (D := D) (ci := 6) (v := .ref wa) (C := RX6) (T := TX6) (N := 9) hx hb hts inT6 hown hK hP 0 rfl rfl 0 (by decide) (hts _ mT_226) (fun _ h9 => h9) rfl dX6_waysThatMatter_15 ?_
        refine va_get (D := D) (ci := 4) (v := .int (w 0 2)) (C := RX4) (T := TX4) (N := 12) hx hb hts inT4 hown hK hP 1 rfl rfl 2 (by decide) (hts _ mT_82) (fun _ h9 => h9) rfl dX6_waysThatMatter_18 ?_
        refine lv_icmp_ge (tgt := 44) hx hb dX6_waysThatMatter_21 (by decide) (fun c21 => ?_) (fun c21 => ?_)
        · have hf := ite_t c21 hf
          exact kx13 x1_13 x2_13 tr_13 _ _ _ hf hP hD hS (lv_sub hl [0, 1, 2] rfl)
        · have hf := ite_f c21 hf
          refine lv_aload_n hx hb dX6_waysThatMatter_24 rfl (lv_at hl 0 rfl) ?_
          refine lv_iload_n hx hb dX6_waysThatMatter_25 rfl (lv_at hl 2 rfl) ?_
          obtain ⟨q26, h26, hf⟩ := bd_some hf
          refine kx_wi (As := [.int x2_13]) (rest := []) (wc := cFF fa wa pta i0a i1a bka kna tra jda f ++ (cWeb cI wa w1 w2 w3 w4 w5 w6 w7 w8 w9 w ++ (cWork cI kna kn1 kn2 q1.2 ++ (cWork cI tra tr1 tr2 tr_13)))) (wr := []) (wd := cFF fa wa pta i0a i1a bka kna tra jda f ++ (cWeb cI wa w1 w2 w3 w4 w5 w6 w7 w8 w9 w ++ (cWork cI kna kn1 kn2 q1.2 ++ (cWork cI tra tr1 tr2 q26.2)))) (wn := cFF fa wa pta i0a i1a bka kna tra jda f ++ (cWeb cI wa w1 w2 w3 w4 w5 w6 w7 w8 w9 w ++ (cWork cI kna kn1 kn2 q1.2 ++ (cWork cI tra tr1 tr2 q26.2)))) hx hb hml hown hts hk hP hD hS hA hl.1 s_yX6_otherwiseWithout v_yX6_otherwiseWithout (c_x_otherwiseWithout l D cI cZ cR fa wa pta i0a i1a bka kna tra jda w1 w2 w3 w4 w5 w6 w7 w8 w9 kn1 kn2 tr1 tr2 f w q1.2 tr_13 x2_13 H.size _ _ h26) mT_367 rfl rfl ⟨Nat.le_of_ble_eq_true rfl, Nat.le_of_ble_eq_true rfl⟩ [0, 1, 2, 3, 4, 5, 6, 7, 8, 9, 10, 11, 12, 13, 14, 15, 16] [] [0, 1, 2, 3, 4, 5, 6, 7, 8, 9, 10, 11, 12, 13, 14, 15, 16] rfl rfl (by decide) (by decide) (by decide) (by decide) rfl (ci := 6) (q0 := 0) rfl rfl rfl (Nat.le_of_ble_eq_true rfl) ⟨Nat.zero_le _, Nat.zero_le _⟩ dX6_waysThatMatter_26 (fun H locs hP hD hS => ?_)
          refine lv_if_le (tgt := 38) hx hb dX6_waysThatMatter_29 (by decide) (fun c29 => ?_) (fun c29 => ?_)
          · have hf := ite_t c29 hf
            refine lv_iinc (v := x2_13 + 1) (lv' := [(2, .int (x2_13 + 1)), (0, .ref fa), (1, .int x1_13)]) hx hb dX6_waysThatMatter_38 hl (k := 2) rfl rfl (by decide) rfl (fun ls hl => ?_)
            refine lv_goto (tgt := 13) hx hb dX6_waysThatMatter_41 (by decide) ?_
            exact ih13 x1_13 (x2_13 + 1) q26.2 _ _ _ hf hP hD hS (lv_sub hl [1, 2, 0] rfl)
          · have hf := ite_f c29 hf
            refine lv_iload_n hx hb dX6_waysThatMatter_32 rfl (lv_at hl 1 rfl) ?_
            refine lv_iconst (v := 1) hx hb dX6_waysThatMatter_33 (by decide) ?_
            refine lv_iload_n hx hb dX6_waysThatMatter_34 rfl (lv_at hl 2 rfl) ?_
            refine lv_ishl hx hb dX6_waysThatMatter_35 ?_
            refine lv_ior hx hb dX6_waysThatMatter_36 ?_
            refine lv_istore_n (lv' := [(1, .int (x1_13 ||| (1 <<< (x2_13 &&& 31)))), (0, .ref fa), (2, .int x2_13)]) hx hb dX6_waysThatMatter_37 rfl hl (by decide) rfl (fun ls hl => ?_)
            refine lv_iinc (v := x2_13 + 1) (lv' := [(2, .int (x2_13 + 1)), (1, .int (x1_13 ||| (1 <<< (x2_13 &&& 31)))), (0, .ref fa)]) hx hb dX6_waysThatMatter_38 hl (k := 2) rfl rfl (by decide) rfl (fun ls hl => ?_)
            refine lv_goto (tgt := 13) hx hb dX6_waysThatMatter_41 (by decide) ?_
            exact ih13 (x1_13 ||| (1 <<< (x2_13 &&& 31))) (x2_13 + 1) q26.2 _ _ _ hf hP hD hS (lv_sub hl [2, 1, 0] rfl)
    exact lh13 10000 0 0 tr _ _ _ hf hP hD hS (lv_sub hl [2, 1, 0] rfl)
  · have hf := ite_t c4 hf
    refine lv_iconst (v := (-1)) hx hb dX6_waysThatMatter_7 (by decide) ?_
    exact hret _ _ _ (q1.2, tr) _ _ hf dX6_waysThatMatter_8 hP hD hS
theorem s_yX6_rebuiltAt : kMS yX6_rebuiltAt cX6_rebuiltAt 2 (some .int) 1 := ⟨mT_408, mT_51, by decide +kernel⟩
theorem v_yX6_rebuiltAt : kMV yX6_rebuiltAt := ⟨mT_407, mT_14⟩
def f_x_rebuiltAt (f : Ob) (w : Ob) (jd : Ob) (x : Int32) : Option (Int32 × Ob) := bd (f_rebuild jd w) (fun q8 => gd (ck x 10) (some ((q8 1) (Int32.toNatClampNeg x), q8)))
set_option maxHeartbeats 4000000 in
set_option maxRecDepth 100000 in
theorem c_x_rebuiltAt (l : Launch) (D : va_G) (cI cZ cR : ClassId) (fa wa pta i0a i1a bka kna tra jda w1 w2 w3 w4 w5 w6 w7 w8 w9 jd1 : Nat) (f : Ob) (w : Ob) (jd : Ob) (x : Int32) (sz : Nat) (r : Int32) (u : Ob) (hf : f_x_rebuiltAt f w jd x = some (r, u)) : kCi l yX6_rebuiltAt cX6_rebuiltAt 2 (some .int) { frames := 4, cells := 0, slots := 0, locals := 95 } [.ref fa, .int x] D cI cZ cR (cFF fa wa pta i0a i1a bka kna tra jda f ++ (cWeb cI wa w1 w2 w3 w4 w5 w6 w7 w8 w9 w ++ (cJudge cI jda jd1 jd))) sz (cFF fa wa pta i0a i1a bka kna tra jda f ++ (cWeb cI wa w1 w2 w3 w4 w5 w6 w7 w8 w9 w ++ (cJudge cI jda jd1 u))) r := by
  refine kMwi (wf := (fun u : Ob => cFF fa wa pta i0a i1a bka kna tra jda f ++ (cWeb cI wa w1 w2 w3 w4 w5 w6 w7 w8 w9 w ++ (cJudge cI jda jd1 u)))) (u := u) (by decide) (Nat.le_of_ble_eq_true rfl) ?_
  intro p e s m below meth c Q A hx hb hml hown hts hk hP hD hA hS hret ls hl
  have hS0 := hS
  have hK := hk.1
  have hl : lv_has ls 2 [(0, .ref fa), (1, .int x)] := hl
  rw [f_x_rebuiltAt] at hf
  refine lv_aload_n hx hb dX6_rebuiltAt_0 rfl (lv_at hl 0 rfl) ?_
  refine va_get (D := D) (ci := 6) (v := .ref jda) (C := RX6) (T := TX6) (N := 9) hx hb hts inT6 hown hK hP 0 rfl rfl 7 (by decide) (hts _ mT_233) (fun _ h9 => h9) rfl dX6_rebuiltAt_1 ?_
  refine lv_aload_n hx hb dX6_rebuiltAt_4 rfl (lv_at hl 0 rfl) ?_
  refine va_get (D := D) (ci := 6) (v := .ref wa) (C := RX6) (T := TX6) (N := 9) hx hb hts inT6 hown hK hP 0 rfl rfl 0 (by decide) (hts _ mT_226) (fun _ h9 => h9) rfl dX6_rebuiltAt_5 ?_
  obtain ⟨q8, h8, hf⟩ := bd_some hf
  refine kx_wv (As := [.ref wa]) (rest := []) (wc := cJudge cI jda jd1 jd ++ (cWeb cI wa w1 w2 w3 w4 w5 w6 w7 w8 w9 w)) (wr := [(fa, .inr (6, [.ref wa, .ref pta, .ref i0a, .ref i1a, .ref bka, .ref kna, .ref tra, .ref jda, .int (f 0 0)]))]) (wd := cJudge cI jda jd1 q8 ++ (cWeb cI wa w1 w2 w3 w4 w5 w6 w7 w8 w9 w)) (wn := cFF fa wa pta i0a i1a bka kna tra jda f ++ (cWeb cI wa w1 w2 w3 w4 w5 w6 w7 w8 w9 w ++ (cJudge cI jda jd1 q8))) hx hb hml hown hts hk hP hD hS hA hl.1 s_yX2_rebuild v_yX2_rebuild (c_rebuild l D cI cZ cR jda jd1 wa w1 w2 w3 w4 w5 w6 w7 w8 w9 jd w s.heap.size _ h8) mT_409 rfl rfl ⟨Nat.le_of_ble_eq_true rfl, Nat.le_of_ble_eq_true rfl⟩ [11, 12, 1, 2, 3, 4, 5, 6, 7, 8, 9, 10] [0] [0, 3, 4, 5, 6, 7, 8, 9, 10, 11, 12, 1, 2] rfl rfl (by decide) (by decide) (by decide) (by decide) rfl (ci := 2) (q0 := 0) rfl rfl rfl (Nat.le_of_ble_eq_true rfl) ⟨Nat.zero_le _, Nat.zero_le _⟩ dX6_rebuiltAt_8 (fun H locs hP hD hS => ?_)
  refine lv_aload_n hx hb dX6_rebuiltAt_11 rfl (lv_at hl 0 rfl) ?_
  refine va_get (D := D) (ci := 6) (v := .ref jda) (C := RX6) (T := TX6) (N := 9) hx hb hts inT6 hown hK hP 0 rfl rfl 7 (by decide) (hts _ mT_233) (fun _ h9 => h9) rfl dX6_rebuiltAt_12 ?_
  refine va_get (D := D) (ci := 2) (v := .ref jd1) (C := RX2) (T := TX2) (N := 1) hx hb hts inT2 hown hK hP 11 rfl rfl 0 (by decide) (hts _ mT_211) (fun _ h9 => h9) rfl dX6_rebuiltAt_15 ?_
  refine lv_iload_n hx hb dX6_rebuiltAt_18 rfl (lv_at hl 1 rfl) ?_
  obtain ⟨b19, hf⟩ := gd_some hf
  refine va_iald (n := 10) (f := q8 1) hx hb hK hP 12 0 rfl rfl (ck_in b19) dX6_rebuiltAt_19 ?_
  exact hret _ _ _ q8 _ _ hf dX6_rebuiltAt_20 hP hD hS
theorem s_yX6_isExact : kMS yX6_isExact cX6_isExact 2 (some .boolean) 0 := ⟨mT_337, mT_51, by decide +kernel⟩
theorem v_yX6_isExact : kMV yX6_isExact := ⟨mT_336, mT_5⟩
def k_x_isExact_26 (kn : Ob) (jd : Ob) (x1_26 : Int32) : Option (Int32 × Ob × Ob) := some (1, kn, jd)
def lp_x_isExact_26 (kn : Ob) (jd : Ob) (w : Ob) (kk0 : Int32 → Option (Int32 × Ob × Ob)) : Nat → Int32 → Option (Int32 × Ob × Ob)
  | 0, _ => none
  | fu26 + 1, x1_26 => if (w 0 1) ≤ x1_26 then (kk0 x1_26) else (gd (ck x1_26 10) (gd (ck x1_26 10) (if ((jd 1) (Int32.toNatClampNeg x1_26)) = ((kn 1) (Int32.toNatClampNeg x1_26)) then ((lp_x_isExact_26 kn jd w kk0 fu26) (x1_26 + 1)) else (some (0, kn, jd)))))
def f_x_isExact (f : Ob) (w : Ob) (kn : Ob) (jd : Ob) : Option (Int32 × Ob × Ob) := bd (f_x_findKnown f w kn) (fun q1 => if q1.1 = 0 then (some (0, q1.2, jd)) else (bd (f_refusedAt jd w) (fun q15 => if q15.1 = (-1) then (lp_x_isExact_26 q1.2 q15.2 w (k_x_isExact_26 q1.2 q15.2) 10000 0) else (some (0, q1.2, q15.2)))))
set_option maxHeartbeats 4000000 in
set_option maxRecDepth 100000 in
theorem c_x_isExact (l : Launch) (D : va_G) (cI cZ cR : ClassId) (fa wa pta i0a i1a bka kna tra jda w1 w2 w3 w4 w5 w6 w7 w8 w9 kn1 kn2 jd1 : Nat) (f : Ob) (w : Ob) (kn : Ob) (jd : Ob) (sz : Nat) (r : Int32) (u : Ob × Ob) (hf : f_x_isExact f w kn jd = some (r, u)) : kCi l yX6_isExact cX6_isExact 2 (some .boolean) { frames := 5, cells := 0, slots := 0, locals := 119 } [.ref fa] D cI cZ cR (cFF fa wa pta i0a i1a bka kna tra jda f ++ (cWeb cI wa w1 w2 w3 w4 w5 w6 w7 w8 w9 w ++ (cWork cI kna kn1 kn2 kn ++ (cJudge cI jda jd1 jd)))) sz (cFF fa wa pta i0a i1a bka kna tra jda f ++ (cWeb cI wa w1 w2 w3 w4 w5 w6 w7 w8 w9 w ++ (cWork cI kna kn1 kn2 u.1 ++ (cJudge cI jda jd1 u.2)))) r := by
  refine kMwz (wf := (fun u : Ob × Ob => cFF fa wa pta i0a i1a bka kna tra jda f ++ (cWeb cI wa w1 w2 w3 w4 w5 w6 w7 w8 w9 w ++ (cWork cI kna kn1 kn2 u.1 ++ (cJudge cI jda jd1 u.2))))) (u := u) (by decide) (Nat.le_of_ble_eq_true rfl) ?_
  intro p e s m below meth c Q A hx hb hml hown hts hk hP hD hA hS hret ls hl
  have hS0 := hS
  have hK := hk.1
  have hl : lv_has ls 2 [(0, .ref fa)] := hl
  rw [f_x_isExact] at hf
  refine lv_aload_n hx hb dX6_isExact_0 rfl (lv_at hl 0 rfl) ?_
  obtain ⟨q1, h1, hf⟩ := bd_some hf
  refine kx_wi (As := []) (rest := []) (wc := cFF fa wa pta i0a i1a bka kna tra jda f ++ (cWeb cI wa w1 w2 w3 w4 w5 w6 w7 w8 w9 w ++ (cWork cI kna kn1 kn2 kn))) (wr := [(jda, .inr (2, [.ref jd1])), (jd1, .inl (cI, 10, .inl (jd 1)))]) (wd := cFF fa wa pta i0a i1a bka kna tra jda f ++ (cWeb cI wa w1 w2 w3 w4 w5 w6 w7 w8 w9 w ++ (cWork cI kna kn1 kn2 q1.2))) (wn := cFF fa wa pta i0a i1a bka kna tra jda f ++ (cWeb cI wa w1 w2 w3 w4 w5 w6 w7 w8 w9 w ++ (cWork cI kna kn1 kn2 q1.2 ++ (cJudge cI jda jd1 jd)))) hx hb hml hown hts hk hP hD hS hA hl.1 s_yX6_findKnown v_yX6_findKnown (c_x_findKnown l D cI cZ cR fa wa pta i0a i1a bka kna tra jda w1 w2 w3 w4 w5 w6 w7 w8 w9 kn1 kn2 f w kn s.heap.size _ _ h1) mT_338 rfl rfl ⟨Nat.le_of_ble_eq_true rfl, Nat.le_of_ble_eq_true rfl⟩ [0, 1, 2, 3, 4, 5, 6, 7, 8, 9, 10, 11, 12, 13] [14, 15] [2, 3, 4, 5, 6, 7, 8, 9, 10, 11, 12, 13, 14, 15, 0, 1] rfl rfl (by decide) (by decide) (by decide) (by decide) rfl (ci := 6) (q0 := 0) rfl rfl rfl (Nat.le_of_ble_eq_true rfl) ⟨Nat.zero_le _, Nat.zero_le _⟩ dX6_isExact_1 (fun H locs hP hD hS => ?_)
  refine lv_if_eq (tgt := 22) hx hb dX6_isExact_4 (by decide) (fun c4 => ?_) (fun c4 => ?_)
  · have hf := ite_t c4 hf
    refine lv_iconst (v := 0) hx hb dX6_isExact_22 (by decide) ?_
    exact hret _ _ _ (q1.2, jd) _ _ hf (Or.inl rfl) dX6_isExact_23 hP hD hS
  · have hf := ite_f c4 hf
    refine lv_aload_n hx hb dX6_isExact_7 rfl (lv_at hl 0 rfl) ?_
    refine va_get (D := D) (ci := 6) (v := .ref jda) (C := RX6) (T := TX6) (N := 9) hx hb hts inT6 hown hK hP 0 rfl rfl 7 (by decide) (hts _ mT_233) (fun _ h9 => h9) rfl dX6_isExact_8 ?_
    refine lv_aload_n hx hb dX6_isExact_11 rfl (lv_at hl 0 rfl) ?_
    refine va_get (D := D) (ci := 6) (v := .ref wa) (C := RX6) (T := TX6) (N := 9) hx hb hts inT6 hown hK hP 0 rfl rfl 0 (by decide) (hts _ mT_226) (fun _ h9 => h9) rfl dX6_isExact_12 ?_
    obtain ⟨q15, h15, hf⟩ := bd_some hf
    refine kx_wi (As := [.ref wa]) (rest := []) (wc := cJudge cI jda jd1 jd ++ (cWeb cI wa w1 w2 w3 w4 w5 w6 w7 w8 w9 w)) (wr := [(fa, .inr (6, [.ref wa, .ref pta, .ref i0a, .ref i1a, .ref bka, .ref kna, .ref tra, .ref jda, .int (f 0 0)])), (kna, .inr (5, [.ref kn1, .ref kn2, .int (q1.2 0 0)])), (kn1, .inl (cI, 10, .inl (q1.2 1))), (kn2, .inl (cI, 10, .inl (q1.2 2)))]) (wd := cJudge cI jda jd1 q15.2 ++ (cWeb cI wa w1 w2 w3 w4 w5 w6 w7 w8 w9 w)) (wn := cFF fa wa pta i0a i1a bka kna tra jda f ++ (cWeb cI wa w1 w2 w3 w4 w5 w6 w7 w8 w9 w ++ (cWork cI kna kn1 kn2 q1.2 ++ (cJudge cI jda jd1 q15.2)))) hx hb hml hown hts hk hP hD hS hA hl.1 s_yX2_refusedAt v_yX2_refusedAt (c_refusedAt l D cI cZ cR jda jd1 wa w1 w2 w3 w4 w5 w6 w7 w8 w9 jd w H.size _ _ h15) mT_304 rfl rfl ⟨Nat.le_of_ble_eq_true rfl, Nat.le_of_ble_eq_true rfl⟩ [14, 15, 1, 2, 3, 4, 5, 6, 7, 8, 9, 10] [0, 11, 12, 13] [0, 6, 7, 8, 9, 10, 11, 12, 13, 14, 15, 1, 2, 3, 4, 5] rfl rfl (by decide) (by decide) (by decide) (by decide) rfl (ci := 2) (q0 := 0) rfl rfl rfl (Nat.le_of_ble_eq_true rfl) ⟨Nat.zero_le _, Nat.zero_le _⟩ dX6_isExact_15 (fun H locs hP hD hS => ?_)
    refine lv_iconst (v := (-1)) hx hb dX6_isExact_18 (by decide) ?_
    refine lv_icmp_eq (tgt := 24) hx hb dX6_isExact_19 (by decide) (fun c19 => ?_) (fun c19 => ?_)
    · have hf := ite_t c19 hf
      refine lv_iconst (v := 0) hx hb dX6_isExact_24 (by decide) ?_
      refine lv_istore_n (lv' := [(1, .int 0), (0, .ref fa)]) hx hb dX6_isExact_25 rfl hl (by decide) rfl (fun ls hl => ?_)
      have kx26 : ∀ (x1_26 : Int32) (H : Heap) (locs : List Loc) (ls : Array Slot), (k_x_isExact_26 q1.2 q15.2) x1_26 = some (r, u) → va_P D vwCl (cFF fa wa pta i0a i1a bka kna tra jda f ++ (cWeb cI wa w1 w2 w3 w4 w5 w6 w7 w8 w9 w ++ (cWork cI kna kn1 kn2 q1.2 ++ (cJudge cI jda jd1 q15.2)))) H → va_D A (cFF fa wa pta i0a i1a bka kna tra jda f ++ (cWeb cI wa w1 w2 w3 w4 w5 w6 w7 w8 w9 w ++ (cWork cI kna kn1 kn2 q1.2 ++ (cJudge cI jda jd1 q15.2)))) → va_S A s.heap H locs → lv_has ls 2 [(0, .ref fa), (1, .int x1_26)] → W p l e ({ frames := 5, cells := 0, slots := 0, locals := 119 } : Room) s m ([.ref fa] : List Value).toArray below meth c H locs 0 0 Q (F0 m 66 ls []) := by
        intro x1_26 H locs ls hf hP hD hS hl
        rw [k_x_isExact_26] at hf
        refine lv_iconst (v := 1) hx hb dX6_isExact_66 (by decide) ?_
        exact hret _ _ _ (q1.2, q15.2) _ _ hf (Or.inr rfl) dX6_isExact_67 hP hD hS
      have lh26 : ∀ (fu26 : Nat) (x1_26 : Int32) (H : Heap) (locs : List Loc) (ls : Array Slot), lp_x_isExact_26 q1.2 q15.2 w (k_x_isExact_26 q1.2 q15.2) fu26 x1_26 = some (r, u) → va_P D vwCl (cFF fa wa pta i0a i1a bka kna tra jda f ++ (cWeb cI wa w1 w2 w3 w4 w5 w6 w7 w8 w9 w ++ (cWork cI kna kn1 kn2 q1.2 ++ (cJudge cI jda jd1 q15.2)))) H → va_D A (cFF fa wa pta i0a i1a bka kna tra jda f ++ (cWeb cI wa w1 w2 w3 w4 w5 w6 w7 w8 w9 w ++ (cWork cI kna kn1 kn2 q1.2 ++ (cJudge cI jda jd1 q15.2)))) → va_S A s.heap H locs → lv_has ls 2 [(0, .ref fa), (1, .int x1_26)] → W p l e ({ frames := 5, cells := 0, slots := 0, locals := 119 } : Room) s m ([.ref fa] : List Value).toArray below meth c H locs 0 0 Q (F0 m 26 ls []) := by
        intro fu26
        induction fu26 with
        | zero => intro x1_26 H locs ls hf hP hD hS hl; exact no_none hf
        | succ fu26 ih26 =>
          intro x1_26 H locs ls hf hP hD hS hl
          rw [lp_x_isExact_26] at hf
          refine lv_iload_n hx hb dX6_isExact_26 rfl (lv_at hl 1 rfl) ?_
          refine lv_aload_n hx hb dX6_isExact_27 rfl (lv_at hl 0 rfl) ?_
          refine va_get (D := D) (ci := 6) (v := .ref wa) (C := RX6) (T := TX6) (N := 9) hx hb hts inT6 hown hK hP 0 rfl rfl 0 (by decide) (hts _ mT_226) (fun _ h9 => h9) rfl dX6_isExact_28 ?_
          refine va_get (D := D) (ci := 4) (v := .int (w 0 1)) (C := RX4) (T := TX4) (N := 12) hx hb hts inT4 hown hK hP 1 rfl rfl 1 (by decide) (hts _ mT_80) (fun _ h9 => h9) rfl dX6_isExact_31 ?_
          refine lv_icmp_ge (tgt := 66) hx hb dX6_isExact_34 (by decide) (fun c34 => ?_) (fun c34 => ?_)
          · have hf := ite_t c34 hf
            exact kx26 x1_26 _ _ _ hf hP hD hS (lv_sub hl [0, 1] rfl)
          · have hf := ite_f c34 hf
            refine lv_aload_n hx hb dX6_isExact_37 rfl (lv_at hl 0 rfl) ?_
            refine va_get (D := D) (ci := 6) (v := .ref jda) (C := RX6) (T := TX6) (N := 9) hx hb hts inT6 hown hK hP 0 rfl rfl 7 (by decide) (hts _ mT_233) (fun _ h9 => h9) rfl dX6_isExact_38 ?_
            refine va_get (D := D) (ci := 2) (v := .ref jd1) (C := RX2) (T := TX2) (N := 1) hx hb hts inT2 hown hK hP 14 rfl rfl 0 (by decide) (hts _ mT_211) (fun _ h9 => h9) rfl dX6_isExact_41 ?_
            refine lv_iload_n hx hb dX6_isExact_44 rfl (lv_at hl 1 rfl) ?_
            obtain ⟨b45, hf⟩ := gd_some hf
            refine va_iald (n := 10) (f := q15.2 1) hx hb hK hP 15 0 rfl rfl (ck_in b45) dX6_isExact_45 ?_
            refine lv_aload_n hx hb dX6_isExact_46 rfl (lv_at hl 0 rfl) ?_
            refine va_get (D := D) (ci := 6) (v := .ref kna) (C := RX6) (T := TX6) (N := 9) hx hb hts inT6 hown hK hP 0 rfl rfl 5 (by decide) (hts _ mT_231) (fun _ h9 => h9) rfl dX6_isExact_47 ?_
            refine va_get (D := D) (ci := 5) (v := .ref kn1) (C := RX5) (T := TX5) (N := 3) hx hb hts inT5 hown hK hP 11 rfl rfl 0 (by decide) (hts _ mT_194) (fun _ h9 => h9) rfl dX6_isExact_50 ?_
            refine lv_iload_n hx hb dX6_isExact_53 rfl (lv_at hl 1 rfl) ?_
            obtain ⟨b54, hf⟩ := gd_some hf
            refine va_iald (n := 10) (f := q1.2 1) hx hb hK hP 12 0 rfl rfl (ck_in b54) dX6_isExact_54 ?_
            refine lv_icmp_eq (tgt := 60) hx hb dX6_isExact_55 (by decide) (fun c55 => ?_) (fun c55 => ?_)
            · have hf := ite_t c55 hf
              refine lv_iinc (v := x1_26 + 1) (lv' := [(1, .int (x1_26 + 1)), (0, .ref fa)]) hx hb dX6_isExact_60 hl (k := 1) rfl rfl (by decide) rfl (fun ls hl => ?_)
              refine lv_goto (tgt := 26) hx hb dX6_isExact_63 (by decide) ?_
              exact ih26 (x1_26 + 1) _ _ _ hf hP hD hS (lv_sub hl [1, 0] rfl)
            · have hf := ite_f c55 hf
              refine lv_iconst (v := 0) hx hb dX6_isExact_58 (by decide) ?_
              exact hret _ _ _ (q1.2, q15.2) _ _ hf (Or.inl rfl) dX6_isExact_59 hP hD hS
      exact lh26 10000 0 _ _ _ hf hP hD hS (lv_sub hl [1, 0] rfl)
    · have hf := ite_f c19 hf
      refine lv_iconst (v := 0) hx hb dX6_isExact_22 (by decide) ?_
      exact hret _ _ _ (q1.2, q15.2) _ _ hf (Or.inl rfl) dX6_isExact_23 hP hD hS
theorem s_yX6_firstWrongEntry : kMS yX6_firstWrongEntry cX6_firstWrongEntry 1 (some .int) 0 := ⟨mT_374, mT_51, by decide +kernel⟩
theorem v_yX6_firstWrongEntry : kMV yX6_firstWrongEntry := ⟨mT_373, mT_13⟩
def f_x_firstWrongEntry (f : Ob) (w : Ob) (kn : Ob) (bk : Ob) : Option (Int32 × Ob) := if (bk 0 0) = 0 then (some ((-1), kn)) else (bd (f_x_findKnown f w kn) (fun q13 => if q13.1 = 0 then (some (0, q13.2)) else (bd (f_firstUnlike bk (q13.2 1) (w 0 1)) (fun q37 => some (q37, q13.2)))))
set_option maxHeartbeats 4000000 in
set_option maxRecDepth 100000 in
theorem c_x_firstWrongEntry (l : Launch) (D : va_G) (cI cZ cR : ClassId) (fa wa pta i0a i1a bka kna tra jda w1 w2 w3 w4 w5 w6 w7 w8 w9 kn1 kn2 bk1 bk2 : Nat) (f : Ob) (w : Ob) (kn : Ob) (bk : Ob) (sz : Nat) (r : Int32) (u : Ob) (hf : f_x_firstWrongEntry f w kn bk = some (r, u)) : kCi l yX6_firstWrongEntry cX6_firstWrongEntry 1 (some .int) { frames := 5, cells := 0, slots := 0, locals := 119 } [.ref fa] D cI cZ cR (cFF fa wa pta i0a i1a bka kna tra jda f ++ (cWeb cI wa w1 w2 w3 w4 w5 w6 w7 w8 w9 w ++ (cWork cI kna kn1 kn2 kn ++ (cBook cI bka bk1 bk2 bk)))) sz (cFF fa wa pta i0a i1a bka kna tra jda f ++ (cWeb cI wa w1 w2 w3 w4 w5 w6 w7 w8 w9 w ++ (cWork cI kna kn1 kn2 u ++ (cBook cI bka bk1 bk2 bk)))) r := by
  refine kMwi (wf := (fun u : Ob => cFF fa wa pta i0a i1a bka kna tra jda f ++ (cWeb cI wa w1 w2 w3 w4 w5 w6 w7 w8 w9 w ++ (cWork cI kna kn1 kn2 u ++ (cBook cI bka bk1 bk2 bk))))) (u := u) (by decide) (Nat.le_of_ble_eq_true rfl) ?_
  intro p e s m below meth c Q A hx hb hml hown hts hk hP hD hA hS hret ls hl
  have hS0 := hS
  have hK := hk.1
  have hl : lv_has ls 1 [(0, .ref fa)] := hl
  rw [f_x_firstWrongEntry] at hf
  refine lv_aload_n hx hb dX6_firstWrongEntry_0 rfl (lv_at hl 0 rfl) ?_
  refine va_get (D := D) (ci := 6) (v := .ref bka) (C := RX6) (T := TX6) (N := 9) hx hb hts inT6 hown hK hP 0 rfl rfl 4 (by decide) (hts _ mT_230) (fun _ h9 => h9) rfl dX6_firstWrongEntry_1 ?_
  refine va_get (D := D) (ci := 0) (v := .int (bk 0 0)) (C := RX0) (T := TX0) (N := 3) hx hb hts inT0 hown hK hP 14 rfl rfl 0 (by decide) (hts _ mT_177) (fun _ h9 => h9) rfl dX6_firstWrongEntry_4 ?_
  refine lv_if_ne (tgt := 12) hx hb dX6_firstWrongEntry_7 (by decide) (fun c7 => ?_) (fun c7 => ?_)
  · have hf := ite_f c7 hf
    refine lv_aload_n hx hb dX6_firstWrongEntry_12 rfl (lv_at hl 0 rfl) ?_
    obtain ⟨q13, h13, hf⟩ := bd_some hf
    refine kx_wi (As := []) (rest := []) (wc := cFF fa wa pta i0a i1a bka kna tra jda f ++ (cWeb cI wa w1 w2 w3 w4 w5 w6 w7 w8 w9 w ++ (cWork cI kna kn1 kn2 kn))) (wr := [(bka, .inr (0, [.int (bk 0 0), .ref bk1, .ref bk2])), (bk1, .inl (cI, 20, .inl (bk 1))), (bk2, .inl (cI, 20, .inl (bk 2)))]) (wd := cFF fa wa pta i0a i1a bka kna tra jda f ++ (cWeb cI wa w1 w2 w3 w4 w5 w6 w7 w8 w9 w ++ (cWork cI kna kn1 kn2 q13.2))) (wn := cFF fa wa pta i0a i1a bka kna tra jda f ++ (cWeb cI wa w1 w2 w3 w4 w5 w6 w7 w8 w9 w ++ (cWork cI kna kn1 kn2 q13.2 ++ (cBook cI bka bk1 bk2 bk)))) hx hb hml hown hts hk hP hD hS hA hl.1 s_yX6_findKnown v_yX6_findKnown (c_x_findKnown l D cI cZ cR fa wa pta i0a i1a bka kna tra jda w1 w2 w3 w4 w5 w6 w7 w8 w9 kn1 kn2 f w kn s.heap.size _ _ h13) mT_338 rfl rfl ⟨Nat.le_of_ble_eq_true rfl, Nat.le_of_ble_eq_true rfl⟩ [0, 1, 2, 3, 4, 5, 6, 7, 8, 9, 10, 11, 12, 13] [14, 15, 16] [3, 4, 5, 6, 7, 8, 9, 10, 11, 12, 13, 14, 15, 16, 0, 1, 2] rfl rfl (by decide) (by decide) (by decide) (by decide) rfl (ci := 6) (q0 := 0) rfl rfl rfl (Nat.le_of_ble_eq_true rfl) ⟨Nat.zero_le _, Nat.zero_le _⟩ dX6_firstWrongEntry_13 (fun H locs hP hD hS => ?_)
    refine lv_if_eq (tgt := 43) hx hb dX6_firstWrongEntry_16 (by decide) (fun c16 => ?_) (fun c16 => ?_)
    · have hf := ite_t c16 hf
      refine lv_iconst (v := 0) hx hb dX6_firstWrongEntry_43 (by decide) ?_
      exact hret _ _ _ q13.2 _ _ hf dX6_firstWrongEntry_44 hP hD hS
    · have hf := ite_f c16 hf
      refine lv_aload_n hx hb dX6_firstWrongEntry_19 rfl (lv_at hl 0 rfl) ?_
      refine va_get (D := D) (ci := 6) (v := .ref bka) (C := RX6) (T := TX6) (N := 9) hx hb hts inT6 hown hK hP 0 rfl rfl 4 (by decide) (hts _ mT_230) (fun _ h9 => h9) rfl dX6_firstWrongEntry_20 ?_
      refine lv_aload_n hx hb dX6_firstWrongEntry_23 rfl (lv_at hl 0 rfl) ?_
      refine va_get (D := D) (ci := 6) (v := .ref kna) (C := RX6) (T := TX6) (N := 9) hx hb hts inT6 hown hK hP 0 rfl rfl 5 (by decide) (hts _ mT_231) (fun _ h9 => h9) rfl dX6_firstWrongEntry_24 ?_
      refine va_get (D := D) (ci := 5) (v := .ref kn1) (C := RX5) (T := TX5) (N := 3) hx hb hts inT5 hown hK hP 11 rfl rfl 0 (by decide) (hts _ mT_194) (fun _ h9 => h9) rfl dX6_firstWrongEntry_27 ?_
      refine lv_aload_n hx hb dX6_firstWrongEntry_30 rfl (lv_at hl 0 rfl) ?_
      refine va_get (D := D) (ci := 6) (v := .ref wa) (C := RX6) (T := TX6) (N := 9) hx hb hts inT6 hown hK hP 0 rfl rfl 0 (by decide) (hts _ mT_226) (fun _ h9 => h9) rfl dX6_firstWrongEntry_31 ?_
      refine va_get (D := D) (ci := 4) (v := .int (w 0 1)) (C := RX4) (T := TX4) (N := 12) hx hb hts inT4 hown hK hP 1 rfl rfl 1 (by decide) (hts _ mT_80) (fun _ h9 => h9) rfl dX6_firstWrongEntry_34 ?_
      obtain ⟨q37, h37, hf⟩ := bd_some hf
      refine kx_rv (As := [.ref kn1, .int (w 0 1)]) (rest := []) hx hb hml hown hts hk (hP.sub (ws' := cBook cI bka bk1 bk2 bk ++ (cArr cI 10 kn1 (q13.2 1))) [14, 15, 16, 12] rfl) hl.1 s_yX0_firstUnlike v_yX0_firstUnlike (c_firstUnlike l D cI cZ cR bka bk1 bk2 kn1 bk (q13.2 1) (w 0 1) _ h37) mT_375 rfl rfl ⟨Nat.le_of_ble_eq_true rfl, Nat.le_of_ble_eq_true rfl⟩ (ci := 0) (q0 := 0) rfl rfl rfl (Nat.le_of_ble_eq_true rfl) ⟨Nat.zero_le _, Nat.zero_le _⟩ dX6_firstWrongEntry_37 ?_
      refine lv_goto (tgt := 44) hx hb dX6_firstWrongEntry_40 (by decide) ?_
      exact hret _ _ _ q13.2 _ _ hf dX6_firstWrongEntry_44 hP hD hS
  · have hf := ite_t c7 hf
    refine lv_iconst (v := (-1)) hx hb dX6_firstWrongEntry_10 (by decide) ?_
    exact hret _ _ _ kn _ _ hf dX6_firstWrongEntry_11 hP hD hS
theorem s_yX6_told : kMS yX6_told cX6_told 2 (some .int) 1 := ⟨mT_257, mT_51, by decide +kernel⟩
theorem v_yX6_told : kMV yX6_told := ⟨mT_255, mT_256⟩
def f_x_told (f : Ob) (w : Ob) (pt : Ob) (bk : Ob) (kn : Ob) (tr : Ob) (jd : Ob) (x : Int32) : Option (Int32 × Ob × Ob × Ob) := if x = 0 then (some (w 0 0, kn, tr, jd)) else (if x = 1 then (some (w 0 1, kn, tr, jd)) else (if x = 2 then (some (w 0 2, kn, tr, jd)) else (if x = 3 then (bd (f_brokenLaw w) (fun q96 => some (q96, kn, tr, jd))) else (if x = 4 then (bd (f_firstOutOfOrder w) (fun q104 => some (q104, kn, tr, jd))) else (if x = 5 then (bd (f_isWell w) (fun q112 => if q112 = 0 then (some (0, kn, tr, jd)) else (some (1, kn, tr, jd)))) else (if x = 6 then (bd (f_keptPlaces w) (fun q128 => some (q128, kn, tr, jd))) else (if x = 7 then (bd (f_refusedAt jd w) (fun q140 => some (q140.1, kn, tr, q140.2))) else (if x = 8 then (bd (f_x_isExact f w kn jd) (fun q145 => if q145.1 = 0 then (some (0, q145.2.1, tr, q145.2.2)) else (some (1, q145.2.1, tr, q145.2.2)))) else (if x = 9 then (bd (f_x_waysThatMatter f w kn tr) (fun q158 => some (q158.1, q158.2.1, q158.2.2, jd))) else (if x = 10 then (some (bk 0 0, kn, tr, jd)) else (if x = 11 then (bd (f_x_firstWrongEntry f w kn bk) (fun q171 => some (q171.1, q171.2, tr, jd))) else (if x = 12 then (some (pt 0 0, kn, tr, jd)) else (some ((-1000000002), kn, tr, jd))))))))))))))
set_option maxHeartbeats 4000000 in
set_option maxRecDepth 100000 in
theorem c_x_told (l : Launch) (D : va_G) (cI cZ cR : ClassId) (fa wa pta i0a i1a bka kna tra jda w1 w2 w3 w4 w5 w6 w7 w8 w9 rr bk1 bk2 kn1 kn2 tr1 tr2 jd1 : Nat) (f : Ob) (w : Ob) (pt : Ob) (bk : Ob) (kn : Ob) (tr : Ob) (jd : Ob) (x : Int32) (sz : Nat) (r : Int32) (u : Ob × Ob × Ob) (hf : f_x_told f w pt bk kn tr jd x = some (r, u)) : kCi l yX6_told cX6_told 2 (some .int) { frames := 6, cells := 0, slots := 0, locals := 144 } [.ref fa, .int x] D cI cZ cR (cFF fa wa pta i0a i1a bka kna tra jda f ++ (cWeb cI wa w1 w2 w3 w4 w5 w6 w7 w8 w9 w ++ (cPst pta rr pt ++ (cBook cI bka bk1 bk2 bk ++ (cWork cI kna kn1 kn2 kn ++ (cWork cI tra tr1 tr2 tr ++ (cJudge cI jda jd1 jd))))))) sz (cFF fa wa pta i0a i1a bka kna tra jda f ++ (cWeb cI wa w1 w2 w3 w4 w5 w6 w7 w8 w9 w ++ (cPst pta rr pt ++ (cBook cI bka bk1 bk2 bk ++ (cWork cI kna kn1 kn2 u.1 ++ (cWork cI tra tr1 tr2 u.2.1 ++ (cJudge cI jda jd1 u.2.2))))))) r := by
  refine kMwi (wf := (fun u : Ob × Ob × Ob => cFF fa wa pta i0a i1a bka kna tra jda f ++ (cWeb cI wa w1 w2 w3 w4 w5 w6 w7 w8 w9 w ++ (cPst pta rr pt ++ (cBook cI bka bk1 bk2 bk ++ (cWork cI kna kn1 kn2 u.1 ++ (cWork cI tra tr1 tr2 u.2.1 ++ (cJudge cI jda jd1 u.2.2)))))))) (u := u) (by decide) (Nat.le_of_ble_eq_true rfl) ?_
  intro p e s m below meth c Q A hx hb hml hown hts hk hP hD hA hS hret ls hl
  have hS0 := hS
  have hK := hk.1
  have hl : lv_has ls 2 [(0, .ref fa), (1, .int x)] := hl
  rw [f_x_told] at hf
  refine lv_iload_n hx hb dX6_told_0 rfl (lv_at hl 1 rfl) ?_
  by_cases c1_0 : x = 0
  · have hf := ite_t c1_0 hf
    refine lv_tableIn (off := 67) (tgt := 68) hx hb dX6_told_1 (by rw [c1_0]; decide) (by rw [c1_0]; decide) (by rw [c1_0]; decide +kernel) (by decide) ?_
    refine lv_aload_n hx hb dX6_told_68 rfl (lv_at hl 0 rfl) ?_
    refine va_get (D := D) (ci := 6) (v := .ref wa) (C := RX6) (T := TX6) (N := 9) hx hb hts inT6 hown hK hP 0 rfl rfl 0 (by decide) (hts _ mT_226) (fun _ h9 => h9) rfl dX6_told_69 ?_
    refine va_get (D := D) (ci := 4) (v := .int (w 0 0)) (C := RX4) (T := TX4) (N := 12) hx hb hts inT4 hown hK hP 1 rfl rfl 0 (by decide) (hts _ mT_76) (fun _ h9 => h9) rfl dX6_told_72 ?_
    exact hret _ _ _ (kn, tr, jd) _ _ hf dX6_told_75 hP hD hS
  have hf := ite_f c1_0 hf
  by_cases c1_1 : x = 1
  · have hf := ite_t c1_1 hf
    refine lv_tableIn (off := 75) (tgt := 76) hx hb dX6_told_1 (by rw [c1_1]; decide) (by rw [c1_1]; decide) (by rw [c1_1]; decide +kernel) (by decide) ?_
    refine lv_aload_n hx hb dX6_told_76 rfl (lv_at hl 0 rfl) ?_
    refine va_get (D := D) (ci := 6) (v := .ref wa) (C := RX6) (T := TX6) (N := 9) hx hb hts inT6 hown hK hP 0 rfl rfl 0 (by decide) (hts _ mT_226) (fun _ h9 => h9) rfl dX6_told_77 ?_
    refine va_get (D := D) (ci := 4) (v := .int (w 0 1)) (C := RX4) (T := TX4) (N := 12) hx hb hts inT4 hown hK hP 1 rfl rfl 1 (by decide) (hts _ mT_80) (fun _ h9 => h9) rfl dX6_told_80 ?_
    exact hret _ _ _ (kn, tr, jd) _ _ hf dX6_told_83 hP hD hS
  have hf := ite_f c1_1 hf
  by_cases c1_2 : x = 2
  · have hf := ite_t c1_2 hf
    refine lv_tableIn (off := 83) (tgt := 84) hx hb dX6_told_1 (by rw [c1_2]; decide) (by rw [c1_2]; decide) (by rw [c1_2]; decide +kernel) (by decide) ?_
    refine lv_aload_n hx hb dX6_told_84 rfl (lv_at hl 0 rfl) ?_
    refine va_get (D := D) (ci := 6) (v := .ref wa) (C := RX6) (T := TX6) (N := 9) hx hb hts inT6 hown hK hP 0 rfl rfl 0 (by decide) (hts _ mT_226) (fun _ h9 => h9) rfl dX6_told_85 ?_
    refine va_get (D := D) (ci := 4) (v := .int (w 0 2)) (C := RX4) (T := TX4) (N := 12) hx hb hts inT4 hown hK hP 1 rfl rfl 2 (by decide) (hts _ mT_82) (fun _ h9 => h9) rfl dX6_told_88 ?_
    exact hret _ _ _ (kn, tr, jd) _ _ hf dX6_told_91 hP hD hS
  have hf := ite_f c1_2 hf
  by_cases c1_3 : x = 3
  · have hf := ite_t c1_3 hf
    refine lv_tableIn (off := 91) (tgt := 92) hx hb dX6_told_1 (by rw [c1_3]; decide) (by rw [c1_3]; decide) (by rw [c1_3]; decide +kernel) (by decide) ?_
    refine lv_aload_n hx hb dX6_told_92 rfl (lv_at hl 0 rfl) ?_
    refine va_get (D := D) (ci := 6) (v := .ref wa) (C := RX6) (T := TX6) (N := 9) hx hb hts inT6 hown hK hP 0 rfl rfl 0 (by decide) (hts _ mT_226) (fun _ h9 => h9) rfl dX6_told_93 ?_
    obtain ⟨q96, h96, hf⟩ := bd_some hf
    refine kx_rv (As := []) (rest := []) hx hb hml hown hts hk (hP.sub (ws' := cWeb cI wa w1 w2 w3 w4 w5 w6 w7 w8 w9 w) [1, 2, 3, 4, 5, 6, 7, 8, 9, 10] rfl) hl.1 s_yX4_brokenLaw v_yX4_brokenLaw (c_brokenLaw l D cI cZ cR wa w1 w2 w3 w4 w5 w6 w7 w8 w9 w _ h96) mT_258 rfl rfl ⟨Nat.le_of_ble_eq_true rfl, Nat.le_of_ble_eq_true rfl⟩ (ci := 4) (q0 := 0) rfl rfl rfl (Nat.le_of_ble_eq_true rfl) ⟨Nat.zero_le _, Nat.zero_le _⟩ dX6_told_96 ?_
    exact hret _ _ _ (kn, tr, jd) _ _ hf dX6_told_99 hP hD hS
  have hf := ite_f c1_3 hf
  by_cases c1_4 : x = 4
  · have hf := ite_t c1_4 hf
    refine lv_tableIn (off := 99) (tgt := 100) hx hb dX6_told_1 (by rw [c1_4]; decide) (by rw [c1_4]; decide) (by rw [c1_4]; decide +kernel) (by decide) ?_
    refine lv_aload_n hx hb dX6_told_100 rfl (lv_at hl 0 rfl) ?_
    refine va_get (D := D) (ci := 6) (v := .ref wa) (C := RX6) (T := TX6) (N := 9) hx hb hts inT6 hown hK hP 0 rfl rfl 0 (by decide) (hts _ mT_226) (fun _ h9 => h9) rfl dX6_told_101 ?_
    obtain ⟨q104, h104, hf⟩ := bd_some hf
    refine kx_rv (As := []) (rest := []) hx hb hml hown hts hk (hP.sub (ws' := cWeb cI wa w1 w2 w3 w4 w5 w6 w7 w8 w9 w) [1, 2, 3, 4, 5, 6, 7, 8, 9, 10] rfl) hl.1 s_yX4_firstOutOfOrder v_yX4_firstOutOfOrder (c_firstOutOfOrder l D cI cZ cR wa w1 w2 w3 w4 w5 w6 w7 w8 w9 w _ h104) mT_282 rfl rfl ⟨Nat.le_of_ble_eq_true rfl, Nat.le_of_ble_eq_true rfl⟩ (ci := 4) (q0 := 0) rfl rfl rfl (Nat.le_of_ble_eq_true rfl) ⟨Nat.zero_le _, Nat.zero_le _⟩ dX6_told_104 ?_
    exact hret _ _ _ (kn, tr, jd) _ _ hf dX6_told_107 hP hD hS
  have hf := ite_f c1_4 hf
  by_cases c1_5 : x = 5
  · have hf := ite_t c1_5 hf
    refine lv_tableIn (off := 107) (tgt := 108) hx hb dX6_told_1 (by rw [c1_5]; decide) (by rw [c1_5]; decide) (by rw [c1_5]; decide +kernel) (by decide) ?_
    refine lv_aload_n hx hb dX6_told_108 rfl (lv_at hl 0 rfl) ?_
    refine va_get (D := D) (ci := 6) (v := .ref wa) (C := RX6) (T := TX6) (N := 9) hx hb hts inT6 hown hK hP 0 rfl rfl 0 (by decide) (hts _ mT_226) (fun _ h9 => h9) rfl dX6_told_109 ?_
    obtain ⟨q112, h112, hf⟩ := bd_some hf
    refine kx_rv (As := []) (rest := []) hx hb hml hown hts hk (hP.sub (ws' := cWeb cI wa w1 w2 w3 w4 w5 w6 w7 w8 w9 w) [1, 2, 3, 4, 5, 6, 7, 8, 9, 10] rfl) hl.1 s_yX4_isWell v_yX4_isWell (c_isWell l D cI cZ cR wa w1 w2 w3 w4 w5 w6 w7 w8 w9 w _ h112) mT_294 rfl rfl ⟨Nat.le_of_ble_eq_true rfl, Nat.le_of_ble_eq_true rfl⟩ (ci := 4) (q0 := 0) rfl rfl rfl (Nat.le_of_ble_eq_true rfl) ⟨Nat.zero_le _, Nat.zero_le _⟩ dX6_told_112 ?_
    refine lv_if_eq (tgt := 122) hx hb dX6_told_115 (by decide) (fun c115 => ?_) (fun c115 => ?_)
    · have hf := ite_t c115 hf
      refine lv_iconst (v := 0) hx hb dX6_told_122 (by decide) ?_
      exact hret _ _ _ (kn, tr, jd) _ _ hf dX6_told_123 hP hD hS
    · have hf := ite_f c115 hf
      refine lv_iconst (v := 1) hx hb dX6_told_118 (by decide) ?_
      refine lv_goto (tgt := 123) hx hb dX6_told_119 (by decide) ?_
      exact hret _ _ _ (kn, tr, jd) _ _ hf dX6_told_123 hP hD hS
  have hf := ite_f c1_5 hf
  by_cases c1_6 : x = 6
  · have hf := ite_t c1_6 hf
    refine lv_tableIn (off := 123) (tgt := 124) hx hb dX6_told_1 (by rw [c1_6]; decide) (by rw [c1_6]; decide) (by rw [c1_6]; decide +kernel) (by decide) ?_
    refine lv_aload_n hx hb dX6_told_124 rfl (lv_at hl 0 rfl) ?_
    refine va_get (D := D) (ci := 6) (v := .ref wa) (C := RX6) (T := TX6) (N := 9) hx hb hts inT6 hown hK hP 0 rfl rfl 0 (by decide) (hts _ mT_226) (fun _ h9 => h9) rfl dX6_told_125 ?_
    obtain ⟨q128, h128, hf⟩ := bd_some hf
    refine kx_rv (As := []) (rest := []) hx hb hml hown hts hk (hP.sub (ws' := cWeb cI wa w1 w2 w3 w4 w5 w6 w7 w8 w9 w) [1, 2, 3, 4, 5, 6, 7, 8, 9, 10] rfl) hl.1 s_yX4_keptPlaces v_yX4_keptPlaces (c_keptPlaces l D cI cZ cR wa w1 w2 w3 w4 w5 w6 w7 w8 w9 w _ h128) mT_300 rfl rfl ⟨Nat.le_of_ble_eq_true rfl, Nat.le_of_ble_eq_true rfl⟩ (ci := 4) (q0 := 0) rfl rfl rfl (Nat.le_of_ble_eq_true rfl) ⟨Nat.zero_le _, Nat.zero_le _⟩ dX6_told_128 ?_
    exact hret _ _ _ (kn, tr, jd) _ _ hf dX6_told_131 hP hD hS
  have hf := ite_f c1_6 hf
  by_cases c1_7 : x = 7
  · have hf := ite_t c1_7 hf
    refine lv_tableIn (off := 131) (tgt := 132) hx hb dX6_told_1 (by rw [c1_7]; decide) (by rw [c1_7]; decide) (by rw [c1_7]; decide +kernel) (by decide) ?_
    refine lv_aload_n hx hb dX6_told_132 rfl (lv_at hl 0 rfl) ?_
    refine va_get (D := D) (ci := 6) (v := .ref jda) (C := RX6) (T := TX6) (N := 9) hx hb hts inT6 hown hK hP 0 rfl rfl 7 (by decide) (hts _ mT_233) (fun _ h9 => h9) rfl dX6_told_133 ?_
    refine lv_aload_n hx hb dX6_told_136 rfl (lv_at hl 0 rfl) ?_
    refine va_get (D := D) (ci := 6) (v := .ref wa) (C := RX6) (T := TX6) (N := 9) hx hb hts inT6 hown hK hP 0 rfl rfl 0 (by decide) (hts _ mT_226) (fun _ h9 => h9) rfl dX6_told_137 ?_
    obtain ⟨q140, h140, hf⟩ := bd_some hf
    refine kx_wi (As := [.ref wa]) (rest := []) (wc := cJudge cI jda jd1 jd ++ (cWeb cI wa w1 w2 w3 w4 w5 w6 w7 w8 w9 w)) (wr := [(fa, .inr (6, [.ref wa, .ref pta, .ref i0a, .ref i1a, .ref bka, .ref kna, .ref tra, .ref jda, .int (f 0 0)])), (pta, .inr (3, [.int (pt 0 0), .int (pt 0 1), .ref rr])), (bka, .inr (0, [.int (bk 0 0), .ref bk1, .ref bk2])), (bk1, .inl (cI, 20, .inl (bk 1))), (bk2, .inl (cI, 20, .inl (bk 2))), (kna, .inr (5, [.ref kn1, .ref kn2, .int (kn 0 0)])), (kn1, .inl (cI, 10, .inl (kn 1))), (kn2, .inl (cI, 10, .inl (kn 2))), (tra, .inr (5, [.ref tr1, .ref tr2, .int (tr 0 0)])), (tr1, .inl (cI, 10, .inl (tr 1))), (tr2, .inl (cI, 10, .inl (tr 2)))]) (wd := cJudge cI jda jd1 q140.2 ++ (cWeb cI wa w1 w2 w3 w4 w5 w6 w7 w8 w9 w)) (wn := cFF fa wa pta i0a i1a bka kna tra jda f ++ (cWeb cI wa w1 w2 w3 w4 w5 w6 w7 w8 w9 w ++ (cPst pta rr pt ++ (cBook cI bka bk1 bk2 bk ++ (cWork cI kna kn1 kn2 kn ++ (cWork cI tra tr1 tr2 tr ++ (cJudge cI jda jd1 q140.2))))))) hx hb hml hown hts hk hP hD hS hA hl.1 s_yX2_refusedAt v_yX2_refusedAt (c_refusedAt l D cI cZ cR jda jd1 wa w1 w2 w3 w4 w5 w6 w7 w8 w9 jd w s.heap.size _ _ h140) mT_304 rfl rfl ⟨Nat.le_of_ble_eq_true rfl, Nat.le_of_ble_eq_true rfl⟩ [21, 22, 1, 2, 3, 4, 5, 6, 7, 8, 9, 10] [0, 11, 12, 13, 14, 15, 16, 17, 18, 19, 20] [0, 13, 14, 15, 16, 17, 18, 19, 20, 21, 22, 1, 2, 3, 4, 5, 6, 7, 8, 9, 10, 11, 12] rfl rfl (by decide) (by decide) (by decide) (by decide) rfl (ci := 2) (q0 := 0) rfl rfl rfl (Nat.le_of_ble_eq_true rfl) ⟨Nat.zero_le _, Nat.zero_le _⟩ dX6_told_140 (fun H locs hP hD hS => ?_)
    exact hret _ _ _ (kn, tr, q140.2) _ _ hf dX6_told_143 hP hD hS
  have hf := ite_f c1_7 hf
  by_cases c1_8 : x = 8
  · have hf := ite_t c1_8 hf
    refine lv_tableIn (off := 143) (tgt := 144) hx hb dX6_told_1 (by rw [c1_8]; decide) (by rw [c1_8]; decide) (by rw [c1_8]; decide +kernel) (by decide) ?_
    refine lv_aload_n hx hb dX6_told_144 rfl (lv_at hl 0 rfl) ?_
    obtain ⟨q145, h145, hf⟩ := bd_some hf
    refine kx_wi (As := []) (rest := []) (wc := cFF fa wa pta i0a i1a bka kna tra jda f ++ (cWeb cI wa w1 w2 w3 w4 w5 w6 w7 w8 w9 w ++ (cWork cI kna kn1 kn2 kn ++ (cJudge cI jda jd1 jd)))) (wr := [(pta, .inr (3, [.int (pt 0 0), .int (pt 0 1), .ref rr])), (bka, .inr (0, [.int (bk 0 0), .ref bk1, .ref bk2])), (bk1, .inl (cI, 20, .inl (bk 1))), (bk2, .inl (cI, 20, .inl (bk 2))), (tra, .inr (5, [.ref tr1, .ref tr2, .int (tr 0 0)])), (tr1, .inl (cI, 10, .inl (tr 1))), (tr2, .inl (cI, 10, .inl (tr 2)))]) (wd := cFF fa wa pta i0a i1a bka kna tra jda f ++ (cWeb cI wa w1 w2 w3 w4 w5 w6 w7 w8 w9 w ++ (cWork cI kna kn1 kn2 q145.2.1 ++ (cJudge cI jda jd1 q145.2.2)))) (wn := cFF fa wa pta i0a i1a bka kna tra jda f ++ (cWeb cI wa w1 w2 w3 w4 w5 w6 w7 w8 w9 w ++ (cPst pta rr pt ++ (cBook cI bka bk1 bk2 bk ++ (cWork cI kna kn1 kn2 q145.2.1 ++ (cWork cI tra tr1 tr2 tr ++ (cJudge cI jda jd1 q145.2.2))))))) hx hb hml hown hts hk hP hD hS hA hl.1 s_yX6_isExact v_yX6_isExact (c_x_isExact l D cI cZ cR fa wa pta i0a i1a bka kna tra jda w1 w2 w3 w4 w5 w6 w7 w8 w9 kn1 kn2 jd1 f w kn jd s.heap.size _ _ h145) mT_334 rfl rfl ⟨Nat.le_of_ble_eq_true rfl, Nat.le_of_ble_eq_true rfl⟩ [0, 1, 2, 3, 4, 5, 6, 7, 8, 9, 10, 15, 16, 17, 21, 22] [11, 12, 13, 14, 18, 19, 20] [7, 8, 9, 10, 11, 12, 13, 14, 15, 16, 17, 0, 1, 2, 3, 18, 19, 20, 4, 5, 6, 21, 22] rfl rfl (by decide) (by decide) (by decide) (by decide) rfl (ci := 6) (q0 := 0) rfl rfl rfl (Nat.le_of_ble_eq_true rfl) ⟨Nat.zero_le _, Nat.zero_le _⟩ dX6_told_145 (fun H locs hP hD hS => ?_)
    refine lv_if_eq (tgt := 155) hx hb dX6_told_148 (by decide) (fun c148 => ?_) (fun c148 => ?_)
    · have hf := ite_t c148 hf
      refine lv_iconst (v := 0) hx hb dX6_told_155 (by decide) ?_
      exact hret _ _ _ (q145.2.1, tr, q145.2.2) _ _ hf dX6_told_156 hP hD hS
    · have hf := ite_f c148 hf
      refine lv_iconst (v := 1) hx hb dX6_told_151 (by decide) ?_
      refine lv_goto (tgt := 156) hx hb dX6_told_152 (by decide) ?_
      exact hret _ _ _ (q145.2.1, tr, q145.2.2) _ _ hf dX6_told_156 hP hD hS
  have hf := ite_f c1_8 hf
  by_cases c1_9 : x = 9
  · have hf := ite_t c1_9 hf
    refine lv_tableIn (off := 156) (tgt := 157) hx hb dX6_told_1 (by rw [c1_9]; decide) (by rw [c1_9]; decide) (by rw [c1_9]; decide +kernel) (by decide) ?_
    refine lv_aload_n hx hb dX6_told_157 rfl (lv_at hl 0 rfl) ?_
    obtain ⟨q158, h158, hf⟩ := bd_some hf
    refine kx_wi (As := []) (rest := []) (wc := cFF fa wa pta i0a i1a bka kna tra jda f ++ (cWeb cI wa w1 w2 w3 w4 w5 w6 w7 w8 w9 w ++ (cWork cI kna kn1 kn2 kn ++ (cWork cI tra tr1 tr2 tr)))) (wr := [(pta, .inr (3, [.int (pt 0 0), .int (pt 0 1), .ref rr])), (bka, .inr (0, [.int (bk 0 0), .ref bk1, .ref bk2])), (bk1, .inl (cI, 20, .inl (bk 1))), (bk2, .inl (cI, 20, .inl (bk 2))), (jda, .inr (2, [.ref jd1])), (jd1, .inl (cI, 10, .inl (jd 1)))]) (wd := cFF fa wa pta i0a i1a bka kna tra jda f ++ (cWeb cI wa w1 w2 w3 w4 w5 w6 w7 w8 w9 w ++ (cWork cI kna kn1 kn2 q158.2.1 ++ (cWork cI tra tr1 tr2 q158.2.2)))) (wn := cFF fa wa pta i0a i1a bka kna tra jda f ++ (cWeb cI wa w1 w2 w3 w4 w5 w6 w7 w8 w9 w ++ (cPst pta rr pt ++ (cBook cI bka bk1 bk2 bk ++ (cWork cI kna kn1 kn2 q158.2.1 ++ (cWork cI tra tr1 tr2 q158.2.2 ++ (cJudge cI jda jd1 jd))))))) hx hb hml hown hts hk hP hD hS hA hl.1 s_yX6_waysThatMatter v_yX6_waysThatMatter (c_x_waysThatMatter l D cI cZ cR fa wa pta i0a i1a bka kna tra jda w1 w2 w3 w4 w5 w6 w7 w8 w9 kn1 kn2 tr1 tr2 f w kn tr s.heap.size _ _ h158) mT_363 rfl rfl ⟨Nat.le_of_ble_eq_true rfl, Nat.le_of_ble_eq_true rfl⟩ [0, 1, 2, 3, 4, 5, 6, 7, 8, 9, 10, 15, 16, 17, 18, 19, 20] [11, 12, 13, 14, 21, 22] [6, 7, 8, 9, 10, 11, 12, 13, 14, 15, 16, 0, 1, 2, 3, 17, 18, 19, 20, 21, 22, 4, 5] rfl rfl (by decide) (by decide) (by decide) (by decide) rfl (ci := 6) (q0 := 0) rfl rfl rfl (Nat.le_of_ble_eq_true rfl) ⟨Nat.zero_le _, Nat.zero_le _⟩ dX6_told_158 (fun H locs hP hD hS => ?_)
    exact hret _ _ _ (q158.2.1, q158.2.2, jd) _ _ hf dX6_told_161 hP hD hS
  have hf := ite_f c1_9 hf
  by_cases c1_10 : x = 10
  · have hf := ite_t c1_10 hf
    refine lv_tableIn (off := 161) (tgt := 162) hx hb dX6_told_1 (by rw [c1_10]; decide) (by rw [c1_10]; decide) (by rw [c1_10]; decide +kernel) (by decide) ?_
    refine lv_aload_n hx hb dX6_told_162 rfl (lv_at hl 0 rfl) ?_
    refine va_get (D := D) (ci := 6) (v := .ref bka) (C := RX6) (T := TX6) (N := 9) hx hb hts inT6 hown hK hP 0 rfl rfl 4 (by decide) (hts _ mT_230) (fun _ h9 => h9) rfl dX6_told_163 ?_
    refine va_get (D := D) (ci := 0) (v := .int (bk 0 0)) (C := RX0) (T := TX0) (N := 3) hx hb hts inT0 hown hK hP 12 rfl rfl 0 (by decide) (hts _ mT_177) (fun _ h9 => h9) rfl dX6_told_166 ?_
    exact hret _ _ _ (kn, tr, jd) _ _ hf dX6_told_169 hP hD hS
  have hf := ite_f c1_10 hf
  by_cases c1_11 : x = 11
  · have hf := ite_t c1_11 hf
    refine lv_tableIn (off := 169) (tgt := 170) hx hb dX6_told_1 (by rw [c1_11]; decide) (by rw [c1_11]; decide) (by rw [c1_11]; decide +kernel) (by decide) ?_
    refine lv_aload_n hx hb dX6_told_170 rfl (lv_at hl 0 rfl) ?_
    obtain ⟨q171, h171, hf⟩ := bd_some hf
    refine kx_wi (As := []) (rest := []) (wc := cFF fa wa pta i0a i1a bka kna tra jda f ++ (cWeb cI wa w1 w2 w3 w4 w5 w6 w7 w8 w9 w ++ (cWork cI kna kn1 kn2 kn ++ (cBook cI bka bk1 bk2 bk)))) (wr := [(pta, .inr (3, [.int (pt 0 0), .int (pt 0 1), .ref rr])), (tra, .inr (5, [.ref tr1, .ref tr2, .int (tr 0 0)])), (tr1, .inl (cI, 10, .inl (tr 1))), (tr2, .inl (cI, 10, .inl (tr 2))), (jda, .inr (2, [.ref jd1])), (jd1, .inl (cI, 10, .inl (jd 1)))]) (wd := cFF fa wa pta i0a i1a bka kna tra jda f ++ (cWeb cI wa w1 w2 w3 w4 w5 w6 w7 w8 w9 w ++ (cWork cI kna kn1 kn2 q171.2 ++ (cBook cI bka bk1 bk2 bk)))) (wn := cFF fa wa pta i0a i1a bka kna tra jda f ++ (cWeb cI wa w1 w2 w3 w4 w5 w6 w7 w8 w9 w ++ (cPst pta rr pt ++ (cBook cI bka bk1 bk2 bk ++ (cWork cI kna kn1 kn2 q171.2 ++ (cWork cI tra tr1 tr2 tr ++ (cJudge cI jda jd1 jd))))))) hx hb hml hown hts hk hP hD hS hA hl.1 s_yX6_firstWrongEntry v_yX6_firstWrongEntry (c_x_firstWrongEntry l D cI cZ cR fa wa pta i0a i1a bka kna tra jda w1 w2 w3 w4 w5 w6 w7 w8 w9 kn1 kn2 bk1 bk2 f w kn bk s.heap.size _ _ h171) mT_371 rfl rfl ⟨Nat.le_of_ble_eq_true rfl, Nat.le_of_ble_eq_true rfl⟩ [0, 1, 2, 3, 4, 5, 6, 7, 8, 9, 10, 15, 16, 17, 12, 13, 14] [11, 18, 19, 20, 21, 22] [6, 7, 8, 9, 10, 11, 12, 13, 14, 15, 16, 0, 20, 21, 22, 17, 18, 19, 1, 2, 3, 4, 5] rfl rfl (by decide) (by decide) (by decide) (by decide) rfl (ci := 6) (q0 := 0) rfl rfl rfl (Nat.le_of_ble_eq_true rfl) ⟨Nat.zero_le _, Nat.zero_le _⟩ dX6_told_171 (fun H locs hP hD hS => ?_)
    exact hret _ _ _ (q171.2, tr, jd) _ _ hf dX6_told_174 hP hD hS
  have hf := ite_f c1_11 hf
  by_cases c1_12 : x = 12
  · have hf := ite_t c1_12 hf
    refine lv_tableIn (off := 174) (tgt := 175) hx hb dX6_told_1 (by rw [c1_12]; decide) (by rw [c1_12]; decide) (by rw [c1_12]; decide +kernel) (by decide) ?_
    refine lv_aload_n hx hb dX6_told_175 rfl (lv_at hl 0 rfl) ?_
    refine va_get (D := D) (ci := 6) (v := .ref pta) (C := RX6) (T := TX6) (N := 9) hx hb hts inT6 hown hK hP 0 rfl rfl 1 (by decide) (hts _ mT_227) (fun _ h9 => h9) rfl dX6_told_176 ?_
    refine va_get (D := D) (ci := 3) (v := .int (pt 0 0)) (C := RX3) (T := TX3) (N := 3) hx hb hts inT3 hown hK hP 11 rfl rfl 0 (by decide) (hts _ mT_141) (fun _ h9 => h9) rfl dX6_told_179 ?_
    exact hret _ _ _ (kn, tr, jd) _ _ hf dX6_told_182 hP hD hS
  have hf := ite_f c1_12 hf
  refine lv_tableOut (tgt := 183) hx hb dX6_told_1 (by have nc1_0 := lv_neT (a := 0) c1_0 rfl; have nc1_1 := lv_neT (a := 1) c1_1 rfl; have nc1_2 := lv_neT (a := 2) c1_2 rfl; have nc1_3 := lv_neT (a := 3) c1_3 rfl; have nc1_4 := lv_neT (a := 4) c1_4 rfl; have nc1_5 := lv_neT (a := 5) c1_5 rfl; have nc1_6 := lv_neT (a := 6) c1_6 rfl; have nc1_7 := lv_neT (a := 7) c1_7 rfl; have nc1_8 := lv_neT (a := 8) c1_8 rfl; have nc1_9 := lv_neT (a := 9) c1_9 rfl; have nc1_10 := lv_neT (a := 10) c1_10 rfl; have nc1_11 := lv_neT (a := 11) c1_11 rfl; have nc1_12 := lv_neT (a := 12) c1_12 rfl; omega) (by decide) ?_
  refine lv_ldc (v := (-1000000002)) hx hb hown (hts _ mT_379) dX6_told_183 ?_
  exact hret _ _ _ (kn, tr, jd) _ _ hf dX6_told_185 hP hD hS
theorem s_yX6_place : kMS yX6_place cX6_place 3 (some .int) 2 := ⟨mT_398, mT_51, by decide +kernel⟩
theorem v_yX6_place : kMV yX6_place := ⟨mT_396, mT_397⟩
def f_x_place (f : Ob) (w : Ob) (kn : Ob) (jd : Ob) (x : Int32) (y : Int32) : Option (Int32 × Ob × Ob) := bd (f_hasPlace w x) (fun q5 => if q5 = 0 then (some ((-1000000001), kn, jd)) else (if y = 0 then (gd (ck x 10) (bd (f_valueOf ((w 2) (Int32.toNatClampNeg x))) (fun q69 => some (q69, kn, jd)))) else (if y = 1 then (gd (ck x 10) (bd (f_setOf ((w 2) (Int32.toNatClampNeg x))) (fun q82 => some (q82, kn, jd)))) else (if y = 2 then (bd (f_x_findKnown f w kn) (fun q87 => if q87.1 = 0 then (some ((-1), q87.2, jd)) else (gd (ck x 10) (bd (f_valueOf ((q87.2 1) (Int32.toNatClampNeg x))) (fun q102 => some (q102, q87.2, jd)))))) else (if y = 3 then (bd (f_x_findKnown f w kn) (fun q111 => if q111.1 = 0 then (some ((-1), q111.2, jd)) else (gd (ck x 10) (bd (f_setOf ((q111.2 1) (Int32.toNatClampNeg x))) (fun q126 => some (q126, q111.2, jd)))))) else (if y = 4 then (bd (f_x_rebuiltAt f w jd x) (fun q136 => bd (f_valueOf q136.1) (fun q139 => some (q139, kn, q136.2)))) else (if y = 5 then (bd (f_x_rebuiltAt f w jd x) (fun q145 => bd (f_setOf q145.1) (fun q148 => some (q148, kn, q145.2)))) else (if y = 6 then (bd (f_isKept w x) (fun q157 => if q157 = 0 then (some ((-1), kn, jd)) else (gd (ck x 10) (bd (f_valueOf ((w 3) (Int32.toNatClampNeg x))) (fun q172 => some (q172, kn, jd)))))) else (if y = 7 then (bd (f_isKept w x) (fun q185 => if q185 = 0 then (some ((-1), kn, jd)) else (gd (ck x 10) (bd (f_setOf ((w 3) (Int32.toNatClampNeg x))) (fun q200 => some (q200, kn, jd)))))) else (some ((-1000000002), kn, jd)))))))))))
set_option maxHeartbeats 4000000 in
set_option maxRecDepth 100000 in
theorem c_x_place (l : Launch) (D : va_G) (cI cZ cR : ClassId) (fa wa pta i0a i1a bka kna tra jda w1 w2 w3 w4 w5 w6 w7 w8 w9 kn1 kn2 jd1 : Nat) (f : Ob) (w : Ob) (kn : Ob) (jd : Ob) (x : Int32) (y : Int32) (sz : Nat) (r : Int32) (u : Ob × Ob) (hf : f_x_place f w kn jd x y = some (r, u)) : kCi l yX6_place cX6_place 3 (some .int) { frames := 5, cells := 0, slots := 0, locals := 119 } [.ref fa, .int x, .int y] D cI cZ cR (cFF fa wa pta i0a i1a bka kna tra jda f ++ (cWeb cI wa w1 w2 w3 w4 w5 w6 w7 w8 w9 w ++ (cWork cI kna kn1 kn2 kn ++ (cJudge cI jda jd1 jd)))) sz (cFF fa wa pta i0a i1a bka kna tra jda f ++ (cWeb cI wa w1 w2 w3 w4 w5 w6 w7 w8 w9 w ++ (cWork cI kna kn1 kn2 u.1 ++ (cJudge cI jda jd1 u.2)))) r := by
  refine kMwi (wf := (fun u : Ob × Ob => cFF fa wa pta i0a i1a bka kna tra jda f ++ (cWeb cI wa w1 w2 w3 w4 w5 w6 w7 w8 w9 w ++ (cWork cI kna kn1 kn2 u.1 ++ (cJudge cI jda jd1 u.2))))) (u := u) (by decide) (Nat.le_of_ble_eq_true rfl) ?_
  intro p e s m below meth c Q A hx hb hml hown hts hk hP hD hA hS hret ls hl
  have hS0 := hS
  have hK := hk.1
  have hl : lv_has ls 3 [(0, .ref fa), (1, .int x), (2, .int y)] := hl
  rw [f_x_place] at hf
  refine lv_aload_n hx hb dX6_place_0 rfl (lv_at hl 0 rfl) ?_
  refine va_get (D := D) (ci := 6) (v := .ref wa) (C := RX6) (T := TX6) (N := 9) hx hb hts inT6 hown hK hP 0 rfl rfl 0 (by decide) (hts _ mT_226) (fun _ h9 => h9) rfl dX6_place_1 ?_
  refine lv_iload_n hx hb dX6_place_4 rfl (lv_at hl 1 rfl) ?_
  obtain ⟨q5, h5, hf⟩ := bd_some hf
  refine kx_rv (As := [.int x]) (rest := []) hx hb hml hown hts hk (hP.sub (ws' := cWeb cI wa w1 w2 w3 w4 w5 w6 w7 w8 w9 w) [1, 2, 3, 4, 5, 6, 7, 8, 9, 10] rfl) hl.1 s_yX4_hasPlace v_yX4_hasPlace (c_hasPlace l D cI cZ cR wa w1 w2 w3 w4 w5 w6 w7 w8 w9 w x _ h5) mT_399 rfl rfl ⟨Nat.le_of_ble_eq_true rfl, Nat.le_of_ble_eq_true rfl⟩ (ci := 4) (q0 := 0) rfl rfl rfl (Nat.le_of_ble_eq_true rfl) ⟨Nat.zero_le _, Nat.zero_le _⟩ dX6_place_5 ?_
  refine lv_if_ne (tgt := 14) hx hb dX6_place_8 (by decide) (fun c8 => ?_) (fun c8 => ?_)
  · have hf := ite_f c8 hf
    refine lv_iload_n hx hb dX6_place_14 rfl (lv_at hl 2 rfl) ?_
    by_cases c15_0 : y = 0
    · have hf := ite_t c15_0 hf
      refine lv_tableIn (off := 45) (tgt := 60) hx hb dX6_place_15 (by rw [c15_0]; decide) (by rw [c15_0]; decide) (by rw [c15_0]; decide +kernel) (by decide) ?_
      refine lv_aload_n hx hb dX6_place_60 rfl (lv_at hl 0 rfl) ?_
      refine va_get (D := D) (ci := 6) (v := .ref wa) (C := RX6) (T := TX6) (N := 9) hx hb hts inT6 hown hK hP 0 rfl rfl 0 (by decide) (hts _ mT_226) (fun _ h9 => h9) rfl dX6_place_61 ?_
      refine va_get (D := D) (ci := 4) (v := .ref w2) (C := RX4) (T := TX4) (N := 12) hx hb hts inT4 hown hK hP 1 rfl rfl 4 (by decide) (hts _ mT_87) (fun _ h9 => h9) rfl dX6_place_64 ?_
      refine lv_iload_n hx hb dX6_place_67 rfl (lv_at hl 1 rfl) ?_
      obtain ⟨b68, hf⟩ := gd_some hf
      refine va_iald (n := 10) (f := w 2) hx hb hK hP 3 0 rfl rfl (ck_in b68) dX6_place_68 ?_
      obtain ⟨q69, h69, hf⟩ := bd_some hf
      refine kx_rs (As := [.int ((w 2) (Int32.toNatClampNeg x))]) (rest := []) hx hb hml hown hts hk hl.1 s_yX6_valueOf mT_321 (c_valueOf l D cI cZ cR ((w 2) (Int32.toNatClampNeg x)) _ h69) mT_403 rfl rfl ⟨Nat.le_of_ble_eq_true rfl, Nat.le_of_ble_eq_true rfl⟩ rfl (Nat.le_of_ble_eq_true rfl) ⟨Nat.zero_le _, Nat.zero_le _⟩ dX6_place_69 ?_
      exact hret _ _ _ (kn, jd) _ _ hf dX6_place_72 hP hD hS
    have hf := ite_f c15_0 hf
    by_cases c15_1 : y = 1
    · have hf := ite_t c15_1 hf
      refine lv_tableIn (off := 58) (tgt := 73) hx hb dX6_place_15 (by rw [c15_1]; decide) (by rw [c15_1]; decide) (by rw [c15_1]; decide +kernel) (by decide) ?_
      refine lv_aload_n hx hb dX6_place_73 rfl (lv_at hl 0 rfl) ?_
      refine va_get (D := D) (ci := 6) (v := .ref wa) (C := RX6) (T := TX6) (N := 9) hx hb hts inT6 hown hK hP 0 rfl rfl 0 (by decide) (hts _ mT_226) (fun _ h9 => h9) rfl dX6_place_74 ?_
      refine va_get (D := D) (ci := 4) (v := .ref w2) (C := RX4) (T := TX4) (N := 12) hx hb hts inT4 hown hK hP 1 rfl rfl 4 (by decide) (hts _ mT_87) (fun _ h9 => h9) rfl dX6_place_77 ?_
      refine lv_iload_n hx hb dX6_place_80 rfl (lv_at hl 1 rfl) ?_
      obtain ⟨b81, hf⟩ := gd_some hf
      refine va_iald (n := 10) (f := w 2) hx hb hK hP 3 0 rfl rfl (ck_in b81) dX6_place_81 ?_
      obtain ⟨q82, h82, hf⟩ := bd_some hf
      refine kx_rs (As := [.int ((w 2) (Int32.toNatClampNeg x))]) (rest := []) hx hb hml hown hts hk hl.1 s_yX6_setOf mT_324 (c_setOf l D cI cZ cR ((w 2) (Int32.toNatClampNeg x)) _ h82) mT_404 rfl rfl ⟨Nat.le_of_ble_eq_true rfl, Nat.le_of_ble_eq_true rfl⟩ rfl (Nat.le_of_ble_eq_true rfl) ⟨Nat.zero_le _, Nat.zero_le _⟩ dX6_place_82 ?_
      exact hret _ _ _ (kn, jd) _ _ hf dX6_place_85 hP hD hS
    have hf := ite_f c15_1 hf
    by_cases c15_2 : y = 2
    · have hf := ite_t c15_2 hf
      refine lv_tableIn (off := 71) (tgt := 86) hx hb dX6_place_15 (by rw [c15_2]; decide) (by rw [c15_2]; decide) (by rw [c15_2]; decide +kernel) (by decide) ?_
      refine lv_aload_n hx hb dX6_place_86 rfl (lv_at hl 0 rfl) ?_
      obtain ⟨q87, h87, hf⟩ := bd_some hf
      refine kx_wi (As := []) (rest := []) (wc := cFF fa wa pta i0a i1a bka kna tra jda f ++ (cWeb cI wa w1 w2 w3 w4 w5 w6 w7 w8 w9 w ++ (cWork cI kna kn1 kn2 kn))) (wr := [(jda, .inr (2, [.ref jd1])), (jd1, .inl (cI, 10, .inl (jd 1)))]) (wd := cFF fa wa pta i0a i1a bka kna tra jda f ++ (cWeb cI wa w1 w2 w3 w4 w5 w6 w7 w8 w9 w ++ (cWork cI kna kn1 kn2 q87.2))) (wn := cFF fa wa pta i0a i1a bka kna tra jda f ++ (cWeb cI wa w1 w2 w3 w4 w5 w6 w7 w8 w9 w ++ (cWork cI kna kn1 kn2 q87.2 ++ (cJudge cI jda jd1 jd)))) hx hb hml hown hts hk hP hD hS hA hl.1 s_yX6_findKnown v_yX6_findKnown (c_x_findKnown l D cI cZ cR fa wa pta i0a i1a bka kna tra jda w1 w2 w3 w4 w5 w6 w7 w8 w9 kn1 kn2 f w kn s.heap.size _ _ h87) mT_338 rfl rfl ⟨Nat.le_of_ble_eq_true rfl, Nat.le_of_ble_eq_true rfl⟩ [0, 1, 2, 3, 4, 5, 6, 7, 8, 9, 10, 11, 12, 13] [14, 15] [2, 3, 4, 5, 6, 7, 8, 9, 10, 11, 12, 13, 14, 15, 0, 1] rfl rfl (by decide) (by decide) (by decide) (by decide) rfl (ci := 6) (q0 := 0) rfl rfl rfl (Nat.le_of_ble_eq_true rfl) ⟨Nat.zero_le _, Nat.zero_le _⟩ dX6_place_87 (fun H locs hP hD hS => ?_)
      refine lv_if_eq (tgt := 108) hx hb dX6_place_90 (by decide) (fun c90 => ?_) (fun c90 => ?_)
      · have hf := ite_t c90 hf
        refine lv_iconst (v := (-1)) hx hb dX6_place_108 (by decide) ?_
        exact hret _ _ _ (q87.2, jd) _ _ hf dX6_place_109 hP hD hS
      · have hf := ite_f c90 hf
        refine lv_aload_n hx hb dX6_place_93 rfl (lv_at hl 0 rfl) ?_
        refine va_get (D := D) (ci := 6) (v := .ref kna) (C := RX6) (T := TX6) (N := 9) hx hb hts inT6 hown hK hP 0 rfl rfl 5 (by decide) (hts _ mT_231) (fun _ h9 => h9) rfl dX6_place_94 ?_
        refine va_get (D := D) (ci := 5) (v := .ref kn1) (C := RX5) (T := TX5) (N := 3) hx hb hts inT5 hown hK hP 11 rfl rfl 0 (by decide) (hts _ mT_194) (fun _ h9 => h9) rfl dX6_place_97 ?_
        refine lv_iload_n hx hb dX6_place_100 rfl (lv_at hl 1 rfl) ?_
        obtain ⟨b101, hf⟩ := gd_some hf
        refine va_iald (n := 10) (f := q87.2 1) hx hb hK hP 12 0 rfl rfl (ck_in b101) dX6_place_101 ?_
        obtain ⟨q102, h102, hf⟩ := bd_some hf
        refine kx_rs (As := [.int ((q87.2 1) (Int32.toNatClampNeg x))]) (rest := []) hx hb hml hown hts hk hl.1 s_yX6_valueOf mT_321 (c_valueOf l D cI cZ cR ((q87.2 1) (Int32.toNatClampNeg x)) _ h102) mT_403 rfl rfl ⟨Nat.le_of_ble_eq_true rfl, Nat.le_of_ble_eq_true rfl⟩ rfl (Nat.le_of_ble_eq_true rfl) ⟨Nat.zero_le _, Nat.zero_le _⟩ dX6_place_102 ?_
        refine lv_goto (tgt := 109) hx hb dX6_place_105 (by decide) ?_
        exact hret _ _ _ (q87.2, jd) _ _ hf dX6_place_109 hP hD hS
    have hf := ite_f c15_2 hf
    by_cases c15_3 : y = 3
    · have hf := ite_t c15_3 hf
      refine lv_tableIn (off := 95) (tgt := 110) hx hb dX6_place_15 (by rw [c15_3]; decide) (by rw [c15_3]; decide) (by rw [c15_3]; decide +kernel) (by decide) ?_
      refine lv_aload_n hx hb dX6_place_110 rfl (lv_at hl 0 rfl) ?_
      obtain ⟨q111, h111, hf⟩ := bd_some hf
      refine kx_wi (As := []) (rest := []) (wc := cFF fa wa pta i0a i1a bka kna tra jda f ++ (cWeb cI wa w1 w2 w3 w4 w5 w6 w7 w8 w9 w ++ (cWork cI kna kn1 kn2 kn))) (wr := [(jda, .inr (2, [.ref jd1])), (jd1, .inl (cI, 10, .inl (jd 1)))]) (wd := cFF fa wa pta i0a i1a bka kna tra jda f ++ (cWeb cI wa w1 w2 w3 w4 w5 w6 w7 w8 w9 w ++ (cWork cI kna kn1 kn2 q111.2))) (wn := cFF fa wa pta i0a i1a bka kna tra jda f ++ (cWeb cI wa w1 w2 w3 w4 w5 w6 w7 w8 w9 w ++ (cWork cI kna kn1 kn2 q111.2 ++ (cJudge cI jda jd1 jd)))) hx hb hml hown hts hk hP hD hS hA hl.1 s_yX6_findKnown v_yX6_findKnown (c_x_findKnown l D cI cZ cR fa wa pta i0a i1a bka kna tra jda w1 w2 w3 w4 w5 w6 w7 w8 w9 kn1 kn2 f w kn s.heap.size _ _ h111) mT_338 rfl rfl ⟨Nat.le_of_ble_eq_true rfl, Nat.le_of_ble_eq_true rfl⟩ [0, 1, 2, 3, 4, 5, 6, 7, 8, 9, 10, 11, 12, 13] [14, 15] [2, 3, 4, 5, 6, 7, 8, 9, 10, 11, 12, 13, 14, 15, 0, 1] rfl rfl (by decide) (by decide) (by decide) (by decide) rfl (ci := 6) (q0 := 0) rfl rfl rfl (Nat.le_of_ble_eq_true rfl) ⟨Nat.zero_le _, Nat.zero_le _⟩ dX6_place_111 (fun H locs hP hD hS => ?_)
      refine lv_if_eq (tgt := 132) hx hb dX6_place_114 (by decide) (fun c114 => ?_) (fun c114 => ?_)
      · have hf := ite_t c114 hf
        refine lv_iconst (v := (-1)) hx hb dX6_place_132 (by decide) ?_
        exact hret _ _ _ (q111.2, jd) _ _ hf dX6_place_133 hP hD hS
      · have hf := ite_f c114 hf
        refine lv_aload_n hx hb dX6_place_117 rfl (lv_at hl 0 rfl) ?_
        refine va_get (D := D) (ci := 6) (v := .ref kna) (C := RX6) (T := TX6) (N := 9) hx hb hts inT6 hown hK hP 0 rfl rfl 5 (by decide) (hts _ mT_231) (fun _ h9 => h9) rfl dX6_place_118 ?_
        refine va_get (D := D) (ci := 5) (v := .ref kn1) (C := RX5) (T := TX5) (N := 3) hx hb hts inT5 hown hK hP 11 rfl rfl 0 (by decide) (hts _ mT_194) (fun _ h9 => h9) rfl dX6_place_121 ?_
        refine lv_iload_n hx hb dX6_place_124 rfl (lv_at hl 1 rfl) ?_
        obtain ⟨b125, hf⟩ := gd_some hf
        refine va_iald (n := 10) (f := q111.2 1) hx hb hK hP 12 0 rfl rfl (ck_in b125) dX6_place_125 ?_
        obtain ⟨q126, h126, hf⟩ := bd_some hf
        refine kx_rs (As := [.int ((q111.2 1) (Int32.toNatClampNeg x))]) (rest := []) hx hb hml hown hts hk hl.1 s_yX6_setOf mT_324 (c_setOf l D cI cZ cR ((q111.2 1) (Int32.toNatClampNeg x)) _ h126) mT_404 rfl rfl ⟨Nat.le_of_ble_eq_true rfl, Nat.le_of_ble_eq_true rfl⟩ rfl (Nat.le_of_ble_eq_true rfl) ⟨Nat.zero_le _, Nat.zero_le _⟩ dX6_place_126 ?_
        refine lv_goto (tgt := 133) hx hb dX6_place_129 (by decide) ?_
        exact hret _ _ _ (q111.2, jd) _ _ hf dX6_place_133 hP hD hS
    have hf := ite_f c15_3 hf
    by_cases c15_4 : y = 4
    · have hf := ite_t c15_4 hf
      refine lv_tableIn (off := 119) (tgt := 134) hx hb dX6_place_15 (by rw [c15_4]; decide) (by rw [c15_4]; decide) (by rw [c15_4]; decide +kernel) (by decide) ?_
      refine lv_aload_n hx hb dX6_place_134 rfl (lv_at hl 0 rfl) ?_
      refine lv_iload_n hx hb dX6_place_135 rfl (lv_at hl 1 rfl) ?_
      obtain ⟨q136, h136, hf⟩ := bd_some hf
      refine kx_wi (As := [.int x]) (rest := []) (wc := cFF fa wa pta i0a i1a bka kna tra jda f ++ (cWeb cI wa w1 w2 w3 w4 w5 w6 w7 w8 w9 w ++ (cJudge cI jda jd1 jd))) (wr := [(kna, .inr (5, [.ref kn1, .ref kn2, .int (kn 0 0)])), (kn1, .inl (cI, 10, .inl (kn 1))), (kn2, .inl (cI, 10, .inl (kn 2)))]) (wd := cFF fa wa pta i0a i1a bka kna tra jda f ++ (cWeb cI wa w1 w2 w3 w4 w5 w6 w7 w8 w9 w ++ (cJudge cI jda jd1 q136.2))) (wn := cFF fa wa pta i0a i1a bka kna tra jda f ++ (cWeb cI wa w1 w2 w3 w4 w5 w6 w7 w8 w9 w ++ (cWork cI kna kn1 kn2 kn ++ (cJudge cI jda jd1 q136.2)))) hx hb hml hown hts hk hP hD hS hA hl.1 s_yX6_rebuiltAt v_yX6_rebuiltAt (c_x_rebuiltAt l D cI cZ cR fa wa pta i0a i1a bka kna tra jda w1 w2 w3 w4 w5 w6 w7 w8 w9 jd1 f w jd x s.heap.size _ _ h136) mT_405 rfl rfl ⟨Nat.le_of_ble_eq_true rfl, Nat.le_of_ble_eq_true rfl⟩ [0, 1, 2, 3, 4, 5, 6, 7, 8, 9, 10, 14, 15] [11, 12, 13] [3, 4, 5, 6, 7, 8, 9, 10, 11, 12, 13, 0, 1, 2, 14, 15] rfl rfl (by decide) (by decide) (by decide) (by decide) rfl (ci := 6) (q0 := 0) rfl rfl rfl (Nat.le_of_ble_eq_true rfl) ⟨Nat.zero_le _, Nat.zero_le _⟩ dX6_place_136 (fun H locs hP hD hS => ?_)
      obtain ⟨q139, h139, hf⟩ := bd_some hf
      refine kx_rs (As := [.int q136.1]) (rest := []) hx hb hml hown hts hk hl.1 s_yX6_valueOf mT_321 (c_valueOf l D cI cZ cR q136.1 _ h139) mT_403 rfl rfl ⟨Nat.le_of_ble_eq_true rfl, Nat.le_of_ble_eq_true rfl⟩ rfl (Nat.le_of_ble_eq_true rfl) ⟨Nat.zero_le _, Nat.zero_le _⟩ dX6_place_139 ?_
      exact hret _ _ _ (kn, q136.2) _ _ hf dX6_place_142 hP hD hS
    have hf := ite_f c15_4 hf
    by_cases c15_5 : y = 5
    · have hf := ite_t c15_5 hf
      refine lv_tableIn (off := 128) (tgt := 143) hx hb dX6_place_15 (by rw [c15_5]; decide) (by rw [c15_5]; decide) (by rw [c15_5]; decide +kernel) (by decide) ?_
      refine lv_aload_n hx hb dX6_place_143 rfl (lv_at hl 0 rfl) ?_
      refine lv_iload_n hx hb dX6_place_144 rfl (lv_at hl 1 rfl) ?_
      obtain ⟨q145, h145, hf⟩ := bd_some hf
      refine kx_wi (As := [.int x]) (rest := []) (wc := cFF fa wa pta i0a i1a bka kna tra jda f ++ (cWeb cI wa w1 w2 w3 w4 w5 w6 w7 w8 w9 w ++ (cJudge cI jda jd1 jd))) (wr := [(kna, .inr (5, [.ref kn1, .ref kn2, .int (kn 0 0)])), (kn1, .inl (cI, 10, .inl (kn 1))), (kn2, .inl (cI, 10, .inl (kn 2)))]) (wd := cFF fa wa pta i0a i1a bka kna tra jda f ++ (cWeb cI wa w1 w2 w3 w4 w5 w6 w7 w8 w9 w ++ (cJudge cI jda jd1 q145.2))) (wn := cFF fa wa pta i0a i1a bka kna tra jda f ++ (cWeb cI wa w1 w2 w3 w4 w5 w6 w7 w8 w9 w ++ (cWork cI kna kn1 kn2 kn ++ (cJudge cI jda jd1 q145.2)))) hx hb hml hown hts hk hP hD hS hA hl.1 s_yX6_rebuiltAt v_yX6_rebuiltAt (c_x_rebuiltAt l D cI cZ cR fa wa pta i0a i1a bka kna tra jda w1 w2 w3 w4 w5 w6 w7 w8 w9 jd1 f w jd x s.heap.size _ _ h145) mT_405 rfl rfl ⟨Nat.le_of_ble_eq_true rfl, Nat.le_of_ble_eq_true rfl⟩ [0, 1, 2, 3, 4, 5, 6, 7, 8, 9, 10, 14, 15] [11, 12, 13] [3, 4, 5, 6, 7, 8, 9, 10, 11, 12, 13, 0, 1, 2, 14, 15] rfl rfl (by decide) (by decide) (by decide) (by decide) rfl (ci := 6) (q0 := 0) rfl rfl rfl (Nat.le_of_ble_eq_true rfl) ⟨Nat.zero_le _, Nat.zero_le _⟩ dX6_place_145 (fun H locs hP hD hS => ?_)
      obtain ⟨q148, h148, hf⟩ := bd_some hf
      refine kx_rs (As := [.int q145.1]) (rest := []) hx hb hml hown hts hk hl.1 s_yX6_setOf mT_324 (c_setOf l D cI cZ cR q145.1 _ h148) mT_404 rfl rfl ⟨Nat.le_of_ble_eq_true rfl, Nat.le_of_ble_eq_true rfl⟩ rfl (Nat.le_of_ble_eq_true rfl) ⟨Nat.zero_le _, Nat.zero_le _⟩ dX6_place_148 ?_
      exact hret _ _ _ (kn, q145.2) _ _ hf dX6_place_151 hP hD hS
    have hf := ite_f c15_5 hf
    by_cases c15_6 : y = 6
    · have hf := ite_t c15_6 hf
      refine lv_tableIn (off := 137) (tgt := 152) hx hb dX6_place_15 (by rw [c15_6]; decide) (by rw [c15_6]; decide) (by rw [c15_6]; decide +kernel) (by decide) ?_
      refine lv_aload_n hx hb dX6_place_152 rfl (lv_at hl 0 rfl) ?_
      refine va_get (D := D) (ci := 6) (v := .ref wa) (C := RX6) (T := TX6) (N := 9) hx hb hts inT6 hown hK hP 0 rfl rfl 0 (by decide) (hts _ mT_226) (fun _ h9 => h9) rfl dX6_place_153 ?_
      refine lv_iload_n hx hb dX6_place_156 rfl (lv_at hl 1 rfl) ?_
      obtain ⟨q157, h157, hf⟩ := bd_some hf
      refine kx_rv (As := [.int x]) (rest := []) hx hb hml hown hts hk (hP.sub (ws' := cWeb cI wa w1 w2 w3 w4 w5 w6 w7 w8 w9 w) [1, 2, 3, 4, 5, 6, 7, 8, 9, 10] rfl) hl.1 s_yX4_isKept v_yX4_isKept (c_isKept l D cI cZ cR wa w1 w2 w3 w4 w5 w6 w7 w8 w9 w x _ h157) mT_410 rfl rfl ⟨Nat.le_of_ble_eq_true rfl, Nat.le_of_ble_eq_true rfl⟩ (ci := 4) (q0 := 0) rfl rfl rfl (Nat.le_of_ble_eq_true rfl) ⟨Nat.zero_le _, Nat.zero_le _⟩ dX6_place_157 ?_
      refine lv_if_eq (tgt := 178) hx hb dX6_place_160 (by decide) (fun c160 => ?_) (fun c160 => ?_)
      · have hf := ite_t c160 hf
        refine lv_iconst (v := (-1)) hx hb dX6_place_178 (by decide) ?_
        exact hret _ _ _ (kn, jd) _ _ hf dX6_place_179 hP hD hS
      · have hf := ite_f c160 hf
        refine lv_aload_n hx hb dX6_place_163 rfl (lv_at hl 0 rfl) ?_
        refine va_get (D := D) (ci := 6) (v := .ref wa) (C := RX6) (T := TX6) (N := 9) hx hb hts inT6 hown hK hP 0 rfl rfl 0 (by decide) (hts _ mT_226) (fun _ h9 => h9) rfl dX6_place_164 ?_
        refine va_get (D := D) (ci := 4) (v := .ref w3) (C := RX4) (T := TX4) (N := 12) hx hb hts inT4 hown hK hP 1 rfl rfl 5 (by decide) (hts _ mT_90) (fun _ h9 => h9) rfl dX6_place_167 ?_
        refine lv_iload_n hx hb dX6_place_170 rfl (lv_at hl 1 rfl) ?_
        obtain ⟨b171, hf⟩ := gd_some hf
        refine va_iald (n := 10) (f := w 3) hx hb hK hP 4 0 rfl rfl (ck_in b171) dX6_place_171 ?_
        obtain ⟨q172, h172, hf⟩ := bd_some hf
        refine kx_rs (As := [.int ((w 3) (Int32.toNatClampNeg x))]) (rest := []) hx hb hml hown hts hk hl.1 s_yX6_valueOf mT_321 (c_valueOf l D cI cZ cR ((w 3) (Int32.toNatClampNeg x)) _ h172) mT_403 rfl rfl ⟨Nat.le_of_ble_eq_true rfl, Nat.le_of_ble_eq_true rfl⟩ rfl (Nat.le_of_ble_eq_true rfl) ⟨Nat.zero_le _, Nat.zero_le _⟩ dX6_place_172 ?_
        refine lv_goto (tgt := 179) hx hb dX6_place_175 (by decide) ?_
        exact hret _ _ _ (kn, jd) _ _ hf dX6_place_179 hP hD hS
    have hf := ite_f c15_6 hf
    by_cases c15_7 : y = 7
    · have hf := ite_t c15_7 hf
      refine lv_tableIn (off := 165) (tgt := 180) hx hb dX6_place_15 (by rw [c15_7]; decide) (by rw [c15_7]; decide) (by rw [c15_7]; decide +kernel) (by decide) ?_
      refine lv_aload_n hx hb dX6_place_180 rfl (lv_at hl 0 rfl) ?_
      refine va_get (D := D) (ci := 6) (v := .ref wa) (C := RX6) (T := TX6) (N := 9) hx hb hts inT6 hown hK hP 0 rfl rfl 0 (by decide) (hts _ mT_226) (fun _ h9 => h9) rfl dX6_place_181 ?_
      refine lv_iload_n hx hb dX6_place_184 rfl (lv_at hl 1 rfl) ?_
      obtain ⟨q185, h185, hf⟩ := bd_some hf
      refine kx_rv (As := [.int x]) (rest := []) hx hb hml hown hts hk (hP.sub (ws' := cWeb cI wa w1 w2 w3 w4 w5 w6 w7 w8 w9 w) [1, 2, 3, 4, 5, 6, 7, 8, 9, 10] rfl) hl.1 s_yX4_isKept v_yX4_isKept (c_isKept l D cI cZ cR wa w1 w2 w3 w4 w5 w6 w7 w8 w9 w x _ h185) mT_410 rfl rfl ⟨Nat.le_of_ble_eq_true rfl, Nat.le_of_ble_eq_true rfl⟩ (ci := 4) (q0 := 0) rfl rfl rfl (Nat.le_of_ble_eq_true rfl) ⟨Nat.zero_le _, Nat.zero_le _⟩ dX6_place_185 ?_
      refine lv_if_eq (tgt := 206) hx hb dX6_place_188 (by decide) (fun c188 => ?_) (fun c188 => ?_)
      · have hf := ite_t c188 hf
        refine lv_iconst (v := (-1)) hx hb dX6_place_206 (by decide) ?_
        exact hret _ _ _ (kn, jd) _ _ hf dX6_place_207 hP hD hS
      · have hf := ite_f c188 hf
        refine lv_aload_n hx hb dX6_place_191 rfl (lv_at hl 0 rfl) ?_
        refine va_get (D := D) (ci := 6) (v := .ref wa) (C := RX6) (T := TX6) (N := 9) hx hb hts inT6 hown hK hP 0 rfl rfl 0 (by decide) (hts _ mT_226) (fun _ h9 => h9) rfl dX6_place_192 ?_
        refine va_get (D := D) (ci := 4) (v := .ref w3) (C := RX4) (T := TX4) (N := 12) hx hb hts inT4 hown hK hP 1 rfl rfl 5 (by decide) (hts _ mT_90) (fun _ h9 => h9) rfl dX6_place_195 ?_
        refine lv_iload_n hx hb dX6_place_198 rfl (lv_at hl 1 rfl) ?_
        obtain ⟨b199, hf⟩ := gd_some hf
        refine va_iald (n := 10) (f := w 3) hx hb hK hP 4 0 rfl rfl (ck_in b199) dX6_place_199 ?_
        obtain ⟨q200, h200, hf⟩ := bd_some hf
        refine kx_rs (As := [.int ((w 3) (Int32.toNatClampNeg x))]) (rest := []) hx hb hml hown hts hk hl.1 s_yX6_setOf mT_324 (c_setOf l D cI cZ cR ((w 3) (Int32.toNatClampNeg x)) _ h200) mT_404 rfl rfl ⟨Nat.le_of_ble_eq_true rfl, Nat.le_of_ble_eq_true rfl⟩ rfl (Nat.le_of_ble_eq_true rfl) ⟨Nat.zero_le _, Nat.zero_le _⟩ dX6_place_200 ?_
        refine lv_goto (tgt := 207) hx hb dX6_place_203 (by decide) ?_
        exact hret _ _ _ (kn, jd) _ _ hf dX6_place_207 hP hD hS
    have hf := ite_f c15_7 hf
    refine lv_tableOut (tgt := 208) hx hb dX6_place_15 (by have nc15_0 := lv_neT (a := 0) c15_0 rfl; have nc15_1 := lv_neT (a := 1) c15_1 rfl; have nc15_2 := lv_neT (a := 2) c15_2 rfl; have nc15_3 := lv_neT (a := 3) c15_3 rfl; have nc15_4 := lv_neT (a := 4) c15_4 rfl; have nc15_5 := lv_neT (a := 5) c15_5 rfl; have nc15_6 := lv_neT (a := 6) c15_6 rfl; have nc15_7 := lv_neT (a := 7) c15_7 rfl; omega) (by decide) ?_
    refine lv_ldc (v := (-1000000002)) hx hb hown (hts _ mT_379) dX6_place_208 ?_
    exact hret _ _ _ (kn, jd) _ _ hf dX6_place_210 hP hD hS
  · have hf := ite_t c8 hf
    refine lv_ldc (v := (-1000000001)) hx hb hown (hts _ mT_388) dX6_place_11 ?_
    exact hret _ _ _ (kn, jd) _ _ hf dX6_place_13 hP hD hS
theorem s_yX6_wayAt : kMS yX6_wayAt cX6_wayAt 3 (some .int) 2 := ⟨mT_414, mT_51, by decide +kernel⟩
theorem v_yX6_wayAt : kMV yX6_wayAt := ⟨mT_412, mT_413⟩
def f_x_wayAt (f : Ob) (w : Ob) (kn : Ob) (tr : Ob) (x : Int32) (y : Int32) : Option (Int32 × Ob × Ob) := bd (f_hasWay w x) (fun q5 => if q5 = 0 then (some ((-1000000001), kn, tr)) else (if y = 0 then (gd (ck x 20) (some ((w 4) (Int32.toNatClampNeg x), kn, tr))) else (if y = 1 then (gd (ck x 20) (some ((w 5) (Int32.toNatClampNeg x), kn, tr))) else (if y = 2 then (gd (ck x 20) (some ((w 7) (Int32.toNatClampNeg x), kn, tr))) else (if y = 3 then (gd (ck x 20) (some ((w 8) (Int32.toNatClampNeg x), kn, tr))) else (if y = 4 then (gd (ck x 20) (some ((w 9) (Int32.toNatClampNeg x), kn, tr))) else (if y = 5 then (bd (f_keepsOrder w x) (fun q119 => if q119 = 0 then (some (0, kn, tr)) else (some (1, kn, tr)))) else (if y = 6 then (bd (f_x_findKnown f w kn) (fun q132 => if q132.1 = 0 then (some ((-1), q132.2, tr)) else (bd (f_x_otherwiseWithout f w q132.2 tr x) (fun q140 => some (q140.1, q132.2, q140.2))))) else (if y = 7 then (bd (f_x_findKnown f w kn) (fun q149 => if q149.1 = 0 then (some ((-1), q149.2, tr)) else (bd (f_brought w (q149.2 1) x) (fun q167 => bd (f_valueOf q167) (fun q170 => some (q170, q149.2, tr)))))) else (if y = 8 then (bd (f_x_findKnown f w kn) (fun q179 => if q179.1 = 0 then (some ((-1), q179.2, tr)) else (bd (f_brought w (q179.2 1) x) (fun q197 => bd (f_setOf q197) (fun q200 => some (q200, q179.2, tr)))))) else (some ((-1000000002), kn, tr))))))))))))
set_option maxHeartbeats 4000000 in
set_option maxRecDepth 100000 in
theorem c_x_wayAt (l : Launch) (D : va_G) (cI cZ cR : ClassId) (fa wa pta i0a i1a bka kna tra jda w1 w2 w3 w4 w5 w6 w7 w8 w9 kn1 kn2 tr1 tr2 : Nat) (f : Ob) (w : Ob) (kn : Ob) (tr : Ob) (x : Int32) (y : Int32) (sz : Nat) (r : Int32) (u : Ob × Ob) (hf : f_x_wayAt f w kn tr x y = some (r, u)) : kCi l yX6_wayAt cX6_wayAt 3 (some .int) { frames := 5, cells := 0, slots := 0, locals := 122 } [.ref fa, .int x, .int y] D cI cZ cR (cFF fa wa pta i0a i1a bka kna tra jda f ++ (cWeb cI wa w1 w2 w3 w4 w5 w6 w7 w8 w9 w ++ (cWork cI kna kn1 kn2 kn ++ (cWork cI tra tr1 tr2 tr)))) sz (cFF fa wa pta i0a i1a bka kna tra jda f ++ (cWeb cI wa w1 w2 w3 w4 w5 w6 w7 w8 w9 w ++ (cWork cI kna kn1 kn2 u.1 ++ (cWork cI tra tr1 tr2 u.2)))) r := by
  refine kMwi (wf := (fun u : Ob × Ob => cFF fa wa pta i0a i1a bka kna tra jda f ++ (cWeb cI wa w1 w2 w3 w4 w5 w6 w7 w8 w9 w ++ (cWork cI kna kn1 kn2 u.1 ++ (cWork cI tra tr1 tr2 u.2))))) (u := u) (by decide) (Nat.le_of_ble_eq_true rfl) ?_
  intro p e s m below meth c Q A hx hb hml hown hts hk hP hD hA hS hret ls hl
  have hS0 := hS
  have hK := hk.1
  have hl : lv_has ls 3 [(0, .ref fa), (1, .int x), (2, .int y)] := hl
  rw [f_x_wayAt] at hf
  refine lv_aload_n hx hb dX6_wayAt_0 rfl (lv_at hl 0 rfl) ?_
  refine va_get (D := D) (ci := 6) (v := .ref wa) (C := RX6) (T := TX6) (N := 9) hx hb hts inT6 hown hK hP 0 rfl rfl 0 (by decide) (hts _ mT_226) (fun _ h9 => h9) rfl dX6_wayAt_1 ?_
  refine lv_iload_n hx hb dX6_wayAt_4 rfl (lv_at hl 1 rfl) ?_
  obtain ⟨q5, h5, hf⟩ := bd_some hf
  refine kx_rv (As := [.int x]) (rest := []) hx hb hml hown hts hk (hP.sub (ws' := cWeb cI wa w1 w2 w3 w4 w5 w6 w7 w8 w9 w) [1, 2, 3, 4, 5, 6, 7, 8, 9, 10] rfl) hl.1 s_yX4_hasWay v_yX4_hasWay (c_hasWay l D cI cZ cR wa w1 w2 w3 w4 w5 w6 w7 w8 w9 w x _ h5) mT_415 rfl rfl ⟨Nat.le_of_ble_eq_true rfl, Nat.le_of_ble_eq_true rfl⟩ (ci := 4) (q0 := 0) rfl rfl rfl (Nat.le_of_ble_eq_true rfl) ⟨Nat.zero_le _, Nat.zero_le _⟩ dX6_wayAt_5 ?_
  refine lv_if_ne (tgt := 14) hx hb dX6_wayAt_8 (by decide) (fun c8 => ?_) (fun c8 => ?_)
  · have hf := ite_f c8 hf
    refine lv_iload_n hx hb dX6_wayAt_14 rfl (lv_at hl 2 rfl) ?_
    by_cases c15_0 : y = 0
    · have hf := ite_t c15_0 hf
      refine lv_tableIn (off := 49) (tgt := 64) hx hb dX6_wayAt_15 (by rw [c15_0]; decide) (by rw [c15_0]; decide) (by rw [c15_0]; decide +kernel) (by decide) ?_
      refine lv_aload_n hx hb dX6_wayAt_64 rfl (lv_at hl 0 rfl) ?_
      refine va_get (D := D) (ci := 6) (v := .ref wa) (C := RX6) (T := TX6) (N := 9) hx hb hts inT6 hown hK hP 0 rfl rfl 0 (by decide) (hts _ mT_226) (fun _ h9 => h9) rfl dX6_wayAt_65 ?_
      refine va_get (D := D) (ci := 4) (v := .ref w4) (C := RX4) (T := TX4) (N := 12) hx hb hts inT4 hown hK hP 1 rfl rfl 6 (by decide) (hts _ mT_93) (fun _ h9 => h9) rfl dX6_wayAt_68 ?_
      refine lv_iload_n hx hb dX6_wayAt_71 rfl (lv_at hl 1 rfl) ?_
      obtain ⟨b72, hf⟩ := gd_some hf
      refine va_iald (n := 20) (f := w 4) hx hb hK hP 5 0 rfl rfl (ck_in b72) dX6_wayAt_72 ?_
      exact hret _ _ _ (kn, tr) _ _ hf dX6_wayAt_73 hP hD hS
    have hf := ite_f c15_0 hf
    by_cases c15_1 : y = 1
    · have hf := ite_t c15_1 hf
      refine lv_tableIn (off := 59) (tgt := 74) hx hb dX6_wayAt_15 (by rw [c15_1]; decide) (by rw [c15_1]; decide) (by rw [c15_1]; decide +kernel) (by decide) ?_
      refine lv_aload_n hx hb dX6_wayAt_74 rfl (lv_at hl 0 rfl) ?_
      refine va_get (D := D) (ci := 6) (v := .ref wa) (C := RX6) (T := TX6) (N := 9) hx hb hts inT6 hown hK hP 0 rfl rfl 0 (by decide) (hts _ mT_226) (fun _ h9 => h9) rfl dX6_wayAt_75 ?_
      refine va_get (D := D) (ci := 4) (v := .ref w5) (C := RX4) (T := TX4) (N := 12) hx hb hts inT4 hown hK hP 1 rfl rfl 7 (by decide) (hts _ mT_96) (fun _ h9 => h9) rfl dX6_wayAt_78 ?_
      refine lv_iload_n hx hb dX6_wayAt_81 rfl (lv_at hl 1 rfl) ?_
      obtain ⟨b82, hf⟩ := gd_some hf
      refine va_iald (n := 20) (f := w 5) hx hb hK hP 6 0 rfl rfl (ck_in b82) dX6_wayAt_82 ?_
      exact hret _ _ _ (kn, tr) _ _ hf dX6_wayAt_83 hP hD hS
    have hf := ite_f c15_1 hf
    by_cases c15_2 : y = 2
    · have hf := ite_t c15_2 hf
      refine lv_tableIn (off := 69) (tgt := 84) hx hb dX6_wayAt_15 (by rw [c15_2]; decide) (by rw [c15_2]; decide) (by rw [c15_2]; decide +kernel) (by decide) ?_
      refine lv_aload_n hx hb dX6_wayAt_84 rfl (lv_at hl 0 rfl) ?_
      refine va_get (D := D) (ci := 6) (v := .ref wa) (C := RX6) (T := TX6) (N := 9) hx hb hts inT6 hown hK hP 0 rfl rfl 0 (by decide) (hts _ mT_226) (fun _ h9 => h9) rfl dX6_wayAt_85 ?_
      refine va_get (D := D) (ci := 4) (v := .ref w7) (C := RX4) (T := TX4) (N := 12) hx hb hts inT4 hown hK hP 1 rfl rfl 9 (by decide) (hts _ mT_100) (fun _ h9 => h9) rfl dX6_wayAt_88 ?_
      refine lv_iload_n hx hb dX6_wayAt_91 rfl (lv_at hl 1 rfl) ?_
      obtain ⟨b92, hf⟩ := gd_some hf
      refine va_iald (n := 20) (f := w 7) hx hb hK hP 8 0 rfl rfl (ck_in b92) dX6_wayAt_92 ?_
      exact hret _ _ _ (kn, tr) _ _ hf dX6_wayAt_93 hP hD hS
    have hf := ite_f c15_2 hf
    by_cases c15_3 : y = 3
    · have hf := ite_t c15_3 hf
      refine lv_tableIn (off := 79) (tgt := 94) hx hb dX6_wayAt_15 (by rw [c15_3]; decide) (by rw [c15_3]; decide) (by rw [c15_3]; decide +kernel) (by decide) ?_
      refine lv_aload_n hx hb dX6_wayAt_94 rfl (lv_at hl 0 rfl) ?_
      refine va_get (D := D) (ci := 6) (v := .ref wa) (C := RX6) (T := TX6) (N := 9) hx hb hts inT6 hown hK hP 0 rfl rfl 0 (by decide) (hts _ mT_226) (fun _ h9 => h9) rfl dX6_wayAt_95 ?_
      refine va_get (D := D) (ci := 4) (v := .ref w8) (C := RX4) (T := TX4) (N := 12) hx hb hts inT4 hown hK hP 1 rfl rfl 10 (by decide) (hts _ mT_102) (fun _ h9 => h9) rfl dX6_wayAt_98 ?_
      refine lv_iload_n hx hb dX6_wayAt_101 rfl (lv_at hl 1 rfl) ?_
      obtain ⟨b102, hf⟩ := gd_some hf
      refine va_iald (n := 20) (f := w 8) hx hb hK hP 9 0 rfl rfl (ck_in b102) dX6_wayAt_102 ?_
      exact hret _ _ _ (kn, tr) _ _ hf dX6_wayAt_103 hP hD hS
    have hf := ite_f c15_3 hf
    by_cases c15_4 : y = 4
    · have hf := ite_t c15_4 hf
      refine lv_tableIn (off := 89) (tgt := 104) hx hb dX6_wayAt_15 (by rw [c15_4]; decide) (by rw [c15_4]; decide) (by rw [c15_4]; decide +kernel) (by decide) ?_
      refine lv_aload_n hx hb dX6_wayAt_104 rfl (lv_at hl 0 rfl) ?_
      refine va_get (D := D) (ci := 6) (v := .ref wa) (C := RX6) (T := TX6) (N := 9) hx hb hts inT6 hown hK hP 0 rfl rfl 0 (by decide) (hts _ mT_226) (fun _ h9 => h9) rfl dX6_wayAt_105 ?_
      refine va_get (D := D) (ci := 4) (v := .ref w9) (C := RX4) (T := TX4) (N := 12) hx hb hts inT4 hown hK hP 1 rfl rfl 11 (by decide) (hts _ mT_104) (fun _ h9 => h9) rfl dX6_wayAt_108 ?_
      refine lv_iload_n hx hb dX6_wayAt_111 rfl (lv_at hl 1 rfl) ?_
      obtain ⟨b112, hf⟩ := gd_some hf
      refine va_iald (n := 20) (f := w 9) hx hb hK hP 10 0 rfl rfl (ck_in b112) dX6_wayAt_112 ?_
      exact hret _ _ _ (kn, tr) _ _ hf dX6_wayAt_113 hP hD hS
    have hf := ite_f c15_4 hf
    by_cases c15_5 : y = 5
    · have hf := ite_t c15_5 hf
      refine lv_tableIn (off := 99) (tgt := 114) hx hb dX6_wayAt_15 (by rw [c15_5]; decide) (by rw [c15_5]; decide) (by rw [c15_5]; decide +kernel) (by decide) ?_
      refine lv_aload_n hx hb dX6_wayAt_114 rfl (lv_at hl 0 rfl) ?_
      refine va_get (D := D) (ci := 6) (v := .ref wa) (C := RX6) (T := TX6) (N := 9) hx hb hts inT6 hown hK hP 0 rfl rfl 0 (by decide) (hts _ mT_226) (fun _ h9 => h9) rfl dX6_wayAt_115 ?_
      refine lv_iload_n hx hb dX6_wayAt_118 rfl (lv_at hl 1 rfl) ?_
      obtain ⟨q119, h119, hf⟩ := bd_some hf
      refine kx_rv (As := [.int x]) (rest := []) hx hb hml hown hts hk (hP.sub (ws' := cWeb cI wa w1 w2 w3 w4 w5 w6 w7 w8 w9 w) [1, 2, 3, 4, 5, 6, 7, 8, 9, 10] rfl) hl.1 s_yX4_keepsOrder v_yX4_keepsOrder (c_keepsOrder l D cI cZ cR wa w1 w2 w3 w4 w5 w6 w7 w8 w9 w x _ h119) mT_419 rfl rfl ⟨Nat.le_of_ble_eq_true rfl, Nat.le_of_ble_eq_true rfl⟩ (ci := 4) (q0 := 0) rfl rfl rfl (Nat.le_of_ble_eq_true rfl) ⟨Nat.zero_le _, Nat.zero_le _⟩ dX6_wayAt_119 ?_
      refine lv_if_eq (tgt := 129) hx hb dX6_wayAt_122 (by decide) (fun c122 => ?_) (fun c122 => ?_)
      · have hf := ite_t c122 hf
        refine lv_iconst (v := 0) hx hb dX6_wayAt_129 (by decide) ?_
        exact hret _ _ _ (kn, tr) _ _ hf dX6_wayAt_130 hP hD hS
      · have hf := ite_f c122 hf
        refine lv_iconst (v := 1) hx hb dX6_wayAt_125 (by decide) ?_
        refine lv_goto (tgt := 130) hx hb dX6_wayAt_126 (by decide) ?_
        exact hret _ _ _ (kn, tr) _ _ hf dX6_wayAt_130 hP hD hS
    have hf := ite_f c15_5 hf
    by_cases c15_6 : y = 6
    · have hf := ite_t c15_6 hf
      refine lv_tableIn (off := 116) (tgt := 131) hx hb dX6_wayAt_15 (by rw [c15_6]; decide) (by rw [c15_6]; decide) (by rw [c15_6]; decide +kernel) (by decide) ?_
      refine lv_aload_n hx hb dX6_wayAt_131 rfl (lv_at hl 0 rfl) ?_
      obtain ⟨q132, h132, hf⟩ := bd_some hf
      refine kx_wi (As := []) (rest := []) (wc := cFF fa wa pta i0a i1a bka kna tra jda f ++ (cWeb cI wa w1 w2 w3 w4 w5 w6 w7 w8 w9 w ++ (cWork cI kna kn1 kn2 kn))) (wr := [(tra, .inr (5, [.ref tr1, .ref tr2, .int (tr 0 0)])), (tr1, .inl (cI, 10, .inl (tr 1))), (tr2, .inl (cI, 10, .inl (tr 2)))]) (wd := cFF fa wa pta i0a i1a bka kna tra jda f ++ (cWeb cI wa w1 w2 w3 w4 w5 w6 w7 w8 w9 w ++ (cWork cI kna kn1 kn2 q132.2))) (wn := cFF fa wa pta i0a i1a bka kna tra jda f ++ (cWeb cI wa w1 w2 w3 w4 w5 w6 w7 w8 w9 w ++ (cWork cI kna kn1 kn2 q132.2 ++ (cWork cI tra tr1 tr2 tr)))) hx hb hml hown hts hk hP hD hS hA hl.1 s_yX6_findKnown v_yX6_findKnown (c_x_findKnown l D cI cZ cR fa wa pta i0a i1a bka kna tra jda w1 w2 w3 w4 w5 w6 w7 w8 w9 kn1 kn2 f w kn s.heap.size _ _ h132) mT_338 rfl rfl ⟨Nat.le_of_ble_eq_true rfl, Nat.le_of_ble_eq_true rfl⟩ [0, 1, 2, 3, 4, 5, 6, 7, 8, 9, 10, 11, 12, 13] [14, 15, 16] [3, 4, 5, 6, 7, 8, 9, 10, 11, 12, 13, 14, 15, 16, 0, 1, 2] rfl rfl (by decide) (by decide) (by decide) (by decide) rfl (ci := 6) (q0 := 0) rfl rfl rfl (Nat.le_of_ble_eq_true rfl) ⟨Nat.zero_le _, Nat.zero_le _⟩ dX6_wayAt_132 (fun H locs hP hD hS => ?_)
      refine lv_if_eq (tgt := 146) hx hb dX6_wayAt_135 (by decide) (fun c135 => ?_) (fun c135 => ?_)
      · have hf := ite_t c135 hf
        refine lv_iconst (v := (-1)) hx hb dX6_wayAt_146 (by decide) ?_
        exact hret _ _ _ (q132.2, tr) _ _ hf dX6_wayAt_147 hP hD hS
      · have hf := ite_f c135 hf
        refine lv_aload_n hx hb dX6_wayAt_138 rfl (lv_at hl 0 rfl) ?_
        refine lv_iload_n hx hb dX6_wayAt_139 rfl (lv_at hl 1 rfl) ?_
        obtain ⟨q140, h140, hf⟩ := bd_some hf
        refine kx_wi (As := [.int x]) (rest := []) (wc := cFF fa wa pta i0a i1a bka kna tra jda f ++ (cWeb cI wa w1 w2 w3 w4 w5 w6 w7 w8 w9 w ++ (cWork cI kna kn1 kn2 q132.2 ++ (cWork cI tra tr1 tr2 tr)))) (wr := []) (wd := cFF fa wa pta i0a i1a bka kna tra jda f ++ (cWeb cI wa w1 w2 w3 w4 w5 w6 w7 w8 w9 w ++ (cWork cI kna kn1 kn2 q132.2 ++ (cWork cI tra tr1 tr2 q140.2)))) (wn := cFF fa wa pta i0a i1a bka kna tra jda f ++ (cWeb cI wa w1 w2 w3 w4 w5 w6 w7 w8 w9 w ++ (cWork cI kna kn1 kn2 q132.2 ++ (cWork cI tra tr1 tr2 q140.2)))) hx hb hml hown hts hk hP hD hS hA hl.1 s_yX6_otherwiseWithout v_yX6_otherwiseWithout (c_x_otherwiseWithout l D cI cZ cR fa wa pta i0a i1a bka kna tra jda w1 w2 w3 w4 w5 w6 w7 w8 w9 kn1 kn2 tr1 tr2 f w q132.2 tr x H.size _ _ h140) mT_367 rfl rfl ⟨Nat.le_of_ble_eq_true rfl, Nat.le_of_ble_eq_true rfl⟩ [0, 1, 2, 3, 4, 5, 6, 7, 8, 9, 10, 11, 12, 13, 14, 15, 16] [] [0, 1, 2, 3, 4, 5, 6, 7, 8, 9, 10, 11, 12, 13, 14, 15, 16] rfl rfl (by decide) (by decide) (by decide) (by decide) rfl (ci := 6) (q0 := 0) rfl rfl rfl (Nat.le_of_ble_eq_true rfl) ⟨Nat.zero_le _, Nat.zero_le _⟩ dX6_wayAt_140 (fun H locs hP hD hS => ?_)
        refine lv_goto (tgt := 147) hx hb dX6_wayAt_143 (by decide) ?_
        exact hret _ _ _ (q132.2, q140.2) _ _ hf dX6_wayAt_147 hP hD hS
    have hf := ite_f c15_6 hf
    by_cases c15_7 : y = 7
    · have hf := ite_t c15_7 hf
      refine lv_tableIn (off := 133) (tgt := 148) hx hb dX6_wayAt_15 (by rw [c15_7]; decide) (by rw [c15_7]; decide) (by rw [c15_7]; decide +kernel) (by decide) ?_
      refine lv_aload_n hx hb dX6_wayAt_148 rfl (lv_at hl 0 rfl) ?_
      obtain ⟨q149, h149, hf⟩ := bd_some hf
      refine kx_wi (As := []) (rest := []) (wc := cFF fa wa pta i0a i1a bka kna tra jda f ++ (cWeb cI wa w1 w2 w3 w4 w5 w6 w7 w8 w9 w ++ (cWork cI kna kn1 kn2 kn))) (wr := [(tra, .inr (5, [.ref tr1, .ref tr2, .int (tr 0 0)])), (tr1, .inl (cI, 10, .inl (tr 1))), (tr2, .inl (cI, 10, .inl (tr 2)))]) (wd := cFF fa wa pta i0a i1a bka kna tra jda f ++ (cWeb cI wa w1 w2 w3 w4 w5 w6 w7 w8 w9 w ++ (cWork cI kna kn1 kn2 q149.2))) (wn := cFF fa wa pta i0a i1a bka kna tra jda f ++ (cWeb cI wa w1 w2 w3 w4 w5 w6 w7 w8 w9 w ++ (cWork cI kna kn1 kn2 q149.2 ++ (cWork cI tra tr1 tr2 tr)))) hx hb hml hown hts hk hP hD hS hA hl.1 s_yX6_findKnown v_yX6_findKnown (c_x_findKnown l D cI cZ cR fa wa pta i0a i1a bka kna tra jda w1 w2 w3 w4 w5 w6 w7 w8 w9 kn1 kn2 f w kn s.heap.size _ _ h149) mT_338 rfl rfl ⟨Nat.le_of_ble_eq_true rfl, Nat.le_of_ble_eq_true rfl⟩ [0, 1, 2, 3, 4, 5, 6, 7, 8, 9, 10, 11, 12, 13] [14, 15, 16] [3, 4, 5, 6, 7, 8, 9, 10, 11, 12, 13, 14, 15, 16, 0, 1, 2] rfl rfl (by decide) (by decide) (by decide) (by decide) rfl (ci := 6) (q0 := 0) rfl rfl rfl (Nat.le_of_ble_eq_true rfl) ⟨Nat.zero_le _, Nat.zero_le _⟩ dX6_wayAt_149 (fun H locs hP hD hS => ?_)
      refine lv_if_eq (tgt := 176) hx hb dX6_wayAt_152 (by decide) (fun c152 => ?_) (fun c152 => ?_)
      · have hf := ite_t c152 hf
        refine lv_iconst (v := (-1)) hx hb dX6_wayAt_176 (by decide) ?_
        exact hret _ _ _ (q149.2, tr) _ _ hf dX6_wayAt_177 hP hD hS
      · have hf := ite_f c152 hf
        refine lv_aload_n hx hb dX6_wayAt_155 rfl (lv_at hl 0 rfl) ?_
        refine va_get (D := D) (ci := 6) (v := .ref wa) (C := RX6) (T := TX6) (N := 9) hx hb hts inT6 hown hK hP 0 rfl rfl 0 (by decide) (hts _ mT_226) (fun _ h9 => h9) rfl dX6_wayAt_156 ?_
        refine lv_iload_n hx hb dX6_wayAt_159 rfl (lv_at hl 1 rfl) ?_
        refine lv_aload_n hx hb dX6_wayAt_160 rfl (lv_at hl 0 rfl) ?_
        refine va_get (D := D) (ci := 6) (v := .ref kna) (C := RX6) (T := TX6) (N := 9) hx hb hts inT6 hown hK hP 0 rfl rfl 5 (by decide) (hts _ mT_231) (fun _ h9 => h9) rfl dX6_wayAt_161 ?_
        refine va_get (D := D) (ci := 5) (v := .ref kn1) (C := RX5) (T := TX5) (N := 3) hx hb hts inT5 hown hK hP 11 rfl rfl 0 (by decide) (hts _ mT_194) (fun _ h9 => h9) rfl dX6_wayAt_164 ?_
        obtain ⟨q167, h167, hf⟩ := bd_some hf
        refine kx_rv (As := [.int x, .ref kn1]) (rest := []) hx hb hml hown hts hk (hP.sub (ws' := cWeb cI wa w1 w2 w3 w4 w5 w6 w7 w8 w9 w ++ (cArr cI 10 kn1 (q149.2 1))) [1, 2, 3, 4, 5, 6, 7, 8, 9, 10, 12] rfl) hl.1 s_yX4_brought v_yX4_brought (c_brought l D cI cZ cR wa w1 w2 w3 w4 w5 w6 w7 w8 w9 kn1 w (q149.2 1) x _ h167) mT_420 rfl rfl ⟨Nat.le_of_ble_eq_true rfl, Nat.le_of_ble_eq_true rfl⟩ (ci := 4) (q0 := 0) rfl rfl rfl (Nat.le_of_ble_eq_true rfl) ⟨Nat.zero_le _, Nat.zero_le _⟩ dX6_wayAt_167 ?_
        obtain ⟨q170, h170, hf⟩ := bd_some hf
        refine kx_rs (As := [.int q167]) (rest := []) hx hb hml hown hts hk hl.1 s_yX6_valueOf mT_321 (c_valueOf l D cI cZ cR q167 _ h170) mT_403 rfl rfl ⟨Nat.le_of_ble_eq_true rfl, Nat.le_of_ble_eq_true rfl⟩ rfl (Nat.le_of_ble_eq_true rfl) ⟨Nat.zero_le _, Nat.zero_le _⟩ dX6_wayAt_170 ?_
        refine lv_goto (tgt := 177) hx hb dX6_wayAt_173 (by decide) ?_
        exact hret _ _ _ (q149.2, tr) _ _ hf dX6_wayAt_177 hP hD hS
    have hf := ite_f c15_7 hf
    by_cases c15_8 : y = 8
    · have hf := ite_t c15_8 hf
      refine lv_tableIn (off := 163) (tgt := 178) hx hb dX6_wayAt_15 (by rw [c15_8]; decide) (by rw [c15_8]; decide) (by rw [c15_8]; decide +kernel) (by decide) ?_
      refine lv_aload_n hx hb dX6_wayAt_178 rfl (lv_at hl 0 rfl) ?_
      obtain ⟨q179, h179, hf⟩ := bd_some hf
      refine kx_wi (As := []) (rest := []) (wc := cFF fa wa pta i0a i1a bka kna tra jda f ++ (cWeb cI wa w1 w2 w3 w4 w5 w6 w7 w8 w9 w ++ (cWork cI kna kn1 kn2 kn))) (wr := [(tra, .inr (5, [.ref tr1, .ref tr2, .int (tr 0 0)])), (tr1, .inl (cI, 10, .inl (tr 1))), (tr2, .inl (cI, 10, .inl (tr 2)))]) (wd := cFF fa wa pta i0a i1a bka kna tra jda f ++ (cWeb cI wa w1 w2 w3 w4 w5 w6 w7 w8 w9 w ++ (cWork cI kna kn1 kn2 q179.2))) (wn := cFF fa wa pta i0a i1a bka kna tra jda f ++ (cWeb cI wa w1 w2 w3 w4 w5 w6 w7 w8 w9 w ++ (cWork cI kna kn1 kn2 q179.2 ++ (cWork cI tra tr1 tr2 tr)))) hx hb hml hown hts hk hP hD hS hA hl.1 s_yX6_findKnown v_yX6_findKnown (c_x_findKnown l D cI cZ cR fa wa pta i0a i1a bka kna tra jda w1 w2 w3 w4 w5 w6 w7 w8 w9 kn1 kn2 f w kn s.heap.size _ _ h179) mT_338 rfl rfl ⟨Nat.le_of_ble_eq_true rfl, Nat.le_of_ble_eq_true rfl⟩ [0, 1, 2, 3, 4, 5, 6, 7, 8, 9, 10, 11, 12, 13] [14, 15, 16] [3, 4, 5, 6, 7, 8, 9, 10, 11, 12, 13, 14, 15, 16, 0, 1, 2] rfl rfl (by decide) (by decide) (by decide) (by decide) rfl (ci := 6) (q0 := 0) rfl rfl rfl (Nat.le_of_ble_eq_true rfl) ⟨Nat.zero_le _, Nat.zero_le _⟩ dX6_wayAt_179 (fun H locs hP hD hS => ?_)
      refine lv_if_eq (tgt := 206) hx hb dX6_wayAt_182 (by decide) (fun c182 => ?_) (fun c182 => ?_)
      · have hf := ite_t c182 hf
        refine lv_iconst (v := (-1)) hx hb dX6_wayAt_206 (by decide) ?_
        exact hret _ _ _ (q179.2, tr) _ _ hf dX6_wayAt_207 hP hD hS
      · have hf := ite_f c182 hf
        refine lv_aload_n hx hb dX6_wayAt_185 rfl (lv_at hl 0 rfl) ?_
        refine va_get (D := D) (ci := 6) (v := .ref wa) (C := RX6) (T := TX6) (N := 9) hx hb hts inT6 hown hK hP 0 rfl rfl 0 (by decide) (hts _ mT_226) (fun _ h9 => h9) rfl dX6_wayAt_186 ?_
        refine lv_iload_n hx hb dX6_wayAt_189 rfl (lv_at hl 1 rfl) ?_
        refine lv_aload_n hx hb dX6_wayAt_190 rfl (lv_at hl 0 rfl) ?_
        refine va_get (D := D) (ci := 6) (v := .ref kna) (C := RX6) (T := TX6) (N := 9) hx hb hts inT6 hown hK hP 0 rfl rfl 5 (by decide) (hts _ mT_231) (fun _ h9 => h9) rfl dX6_wayAt_191 ?_
        refine va_get (D := D) (ci := 5) (v := .ref kn1) (C := RX5) (T := TX5) (N := 3) hx hb hts inT5 hown hK hP 11 rfl rfl 0 (by decide) (hts _ mT_194) (fun _ h9 => h9) rfl dX6_wayAt_194 ?_
        obtain ⟨q197, h197, hf⟩ := bd_some hf
        refine kx_rv (As := [.int x, .ref kn1]) (rest := []) hx hb hml hown hts hk (hP.sub (ws' := cWeb cI wa w1 w2 w3 w4 w5 w6 w7 w8 w9 w ++ (cArr cI 10 kn1 (q179.2 1))) [1, 2, 3, 4, 5, 6, 7, 8, 9, 10, 12] rfl) hl.1 s_yX4_brought v_yX4_brought (c_brought l D cI cZ cR wa w1 w2 w3 w4 w5 w6 w7 w8 w9 kn1 w (q179.2 1) x _ h197) mT_420 rfl rfl ⟨Nat.le_of_ble_eq_true rfl, Nat.le_of_ble_eq_true rfl⟩ (ci := 4) (q0 := 0) rfl rfl rfl (Nat.le_of_ble_eq_true rfl) ⟨Nat.zero_le _, Nat.zero_le _⟩ dX6_wayAt_197 ?_
        obtain ⟨q200, h200, hf⟩ := bd_some hf
        refine kx_rs (As := [.int q197]) (rest := []) hx hb hml hown hts hk hl.1 s_yX6_setOf mT_324 (c_setOf l D cI cZ cR q197 _ h200) mT_404 rfl rfl ⟨Nat.le_of_ble_eq_true rfl, Nat.le_of_ble_eq_true rfl⟩ rfl (Nat.le_of_ble_eq_true rfl) ⟨Nat.zero_le _, Nat.zero_le _⟩ dX6_wayAt_200 ?_
        refine lv_goto (tgt := 207) hx hb dX6_wayAt_203 (by decide) ?_
        exact hret _ _ _ (q179.2, tr) _ _ hf dX6_wayAt_207 hP hD hS
    have hf := ite_f c15_8 hf
    refine lv_tableOut (tgt := 208) hx hb dX6_wayAt_15 (by have nc15_0 := lv_neT (a := 0) c15_0 rfl; have nc15_1 := lv_neT (a := 1) c15_1 rfl; have nc15_2 := lv_neT (a := 2) c15_2 rfl; have nc15_3 := lv_neT (a := 3) c15_3 rfl; have nc15_4 := lv_neT (a := 4) c15_4 rfl; have nc15_5 := lv_neT (a := 5) c15_5 rfl; have nc15_6 := lv_neT (a := 6) c15_6 rfl; have nc15_7 := lv_neT (a := 7) c15_7 rfl; have nc15_8 := lv_neT (a := 8) c15_8 rfl; omega) (by decide) ?_
    refine lv_ldc (v := (-1000000002)) hx hb hown (hts _ mT_379) dX6_wayAt_208 ?_
    exact hret _ _ _ (kn, tr) _ _ hf dX6_wayAt_210 hP hD hS
  · have hf := ite_t c8 hf
    refine lv_ldc (v := (-1000000001)) hx hb hown (hts _ mT_388) dX6_wayAt_11 ?_
    exact hret _ _ _ (kn, tr) _ _ hf dX6_wayAt_13 hP hD hS
theorem s_yX6_steps : kMS yX6_steps cX6_steps 2 (some .int) 1 := ⟨mT_428, mT_51, by decide +kernel⟩
theorem v_yX6_steps : kMV yX6_steps := ⟨mT_426, mT_427⟩
def f_x_steps (f : Ob) (w : Ob) (tr : Ob) (x : Int32) : Option (Int32 × Ob) := bd (f_isChoice x) (fun q1 => if q1 = 0 then (some ((-1000000002), tr)) else (bd (f_run tr w x (-1)) (fun q20 => some (q20.1, q20.2))))
set_option maxHeartbeats 4000000 in
set_option maxRecDepth 100000 in
theorem c_x_steps (l : Launch) (D : va_G) (cI cZ cR : ClassId) (fa wa pta i0a i1a bka kna tra jda w1 w2 w3 w4 w5 w6 w7 w8 w9 tr1 tr2 : Nat) (f : Ob) (w : Ob) (tr : Ob) (x : Int32) (sz : Nat) (r : Int32) (u : Ob) (hf : f_x_steps f w tr x = some (r, u)) : kCi l yX6_steps cX6_steps 2 (some .int) { frames := 4, cells := 0, slots := 0, locals := 99 } [.ref fa, .int x] D cI cZ cR (cFF fa wa pta i0a i1a bka kna tra jda f ++ (cWeb cI wa w1 w2 w3 w4 w5 w6 w7 w8 w9 w ++ (cWork cI tra tr1 tr2 tr))) sz (cFF fa wa pta i0a i1a bka kna tra jda f ++ (cWeb cI wa w1 w2 w3 w4 w5 w6 w7 w8 w9 w ++ (cWork cI tra tr1 tr2 u))) r := by
  refine kMwi (wf := (fun u : Ob => cFF fa wa pta i0a i1a bka kna tra jda f ++ (cWeb cI wa w1 w2 w3 w4 w5 w6 w7 w8 w9 w ++ (cWork cI tra tr1 tr2 u)))) (u := u) (by decide) (Nat.le_of_ble_eq_true rfl) ?_
  intro p e s m below meth c Q A hx hb hml hown hts hk hP hD hA hS hret ls hl
  have hS0 := hS
  have hK := hk.1
  have hl : lv_has ls 2 [(0, .ref fa), (1, .int x)] := hl
  rw [f_x_steps] at hf
  refine lv_iload_n hx hb dX6_steps_0 rfl (lv_at hl 1 rfl) ?_
  obtain ⟨q1, h1, hf⟩ := bd_some hf
  refine kx_rs (As := [.int x]) (rest := []) hx hb hml hown hts hk hl.1 s_yX6_isChoice mT_430 (c_isChoice l D cI cZ cR x _ h1) mT_429 rfl rfl ⟨Nat.le_of_ble_eq_true rfl, Nat.le_of_ble_eq_true rfl⟩ rfl (Nat.le_of_ble_eq_true rfl) ⟨Nat.zero_le _, Nat.zero_le _⟩ dX6_steps_1 ?_
  refine lv_if_ne (tgt := 10) hx hb dX6_steps_4 (by decide) (fun c4 => ?_) (fun c4 => ?_)
  · have hf := ite_f c4 hf
    refine lv_aload_n hx hb dX6_steps_10 rfl (lv_at hl 0 rfl) ?_
    refine va_get (D := D) (ci := 6) (v := .ref tra) (C := RX6) (T := TX6) (N := 9) hx hb hts inT6 hown hK hP 0 rfl rfl 6 (by decide) (hts _ mT_232) (fun _ h9 => h9) rfl dX6_steps_11 ?_
    refine lv_aload_n hx hb dX6_steps_14 rfl (lv_at hl 0 rfl) ?_
    refine va_get (D := D) (ci := 6) (v := .ref wa) (C := RX6) (T := TX6) (N := 9) hx hb hts inT6 hown hK hP 0 rfl rfl 0 (by decide) (hts _ mT_226) (fun _ h9 => h9) rfl dX6_steps_15 ?_
    refine lv_iload_n hx hb dX6_steps_18 rfl (lv_at hl 1 rfl) ?_
    refine lv_iconst (v := (-1)) hx hb dX6_steps_19 (by decide) ?_
    obtain ⟨q20, h20, hf⟩ := bd_some hf
    refine kx_wi (As := [.ref wa, .int x, .int (-1)]) (rest := []) (wc := cWork cI tra tr1 tr2 tr ++ (cWeb cI wa w1 w2 w3 w4 w5 w6 w7 w8 w9 w)) (wr := [(fa, .inr (6, [.ref wa, .ref pta, .ref i0a, .ref i1a, .ref bka, .ref kna, .ref tra, .ref jda, .int (f 0 0)]))]) (wd := cWork cI tra tr1 tr2 q20.2 ++ (cWeb cI wa w1 w2 w3 w4 w5 w6 w7 w8 w9 w)) (wn := cFF fa wa pta i0a i1a bka kna tra jda f ++ (cWeb cI wa w1 w2 w3 w4 w5 w6 w7 w8 w9 w ++ (cWork cI tra tr1 tr2 q20.2))) hx hb hml hown hts hk hP hD hS hA hl.1 s_yX5_run v_yX5_run (c_run l D cI cZ cR tra tr1 tr2 wa w1 w2 w3 w4 w5 w6 w7 w8 w9 tr w x (-1) s.heap.size _ _ h20) mT_342 rfl rfl ⟨Nat.le_of_ble_eq_true rfl, Nat.le_of_ble_eq_true rfl⟩ [11, 12, 13, 1, 2, 3, 4, 5, 6, 7, 8, 9, 10] [0] [0, 4, 5, 6, 7, 8, 9, 10, 11, 12, 13, 1, 2, 3] rfl rfl (by decide) (by decide) (by decide) (by decide) rfl (ci := 5) (q0 := 0) rfl rfl rfl (Nat.le_of_ble_eq_true rfl) ⟨Nat.zero_le _, Nat.zero_le _⟩ dX6_steps_20 (fun H locs hP hD hS => ?_)
    exact hret _ _ _ q20.2 _ _ hf dX6_steps_23 hP hD hS
  · have hf := ite_t c4 hf
    refine lv_ldc (v := (-1000000002)) hx hb hown (hts _ mT_379) dX6_steps_7 ?_
    exact hret _ _ _ tr _ _ hf dX6_steps_9 hP hD hS
theorem s_yX6_worked : kMS yX6_worked cX6_worked 3 (some .int) 2 := ⟨mT_435, mT_51, by decide +kernel⟩
theorem v_yX6_worked : kMV yX6_worked := ⟨mT_433, mT_434⟩
def f_x_worked (f : Ob) (w : Ob) (tr : Ob) (x : Int32) (y : Int32) : Option (Int32 × Ob) := bd (f_hasPlace w y) (fun q5 => if q5 = 0 then (some ((-1000000001), tr)) else (bd (f_isChoice x) (fun q15 => if q15 = 0 then (some ((-1000000002), tr)) else (bd (f_run tr w x (-1)) (fun q34 => if q34.1 = (-1) then (some ((-1), q34.2)) else (gd (ck y 10) (some ((q34.2 1) (Int32.toNatClampNeg y), q34.2))))))))
set_option maxHeartbeats 4000000 in
set_option maxRecDepth 100000 in
theorem c_x_worked (l : Launch) (D : va_G) (cI cZ cR : ClassId) (fa wa pta i0a i1a bka kna tra jda w1 w2 w3 w4 w5 w6 w7 w8 w9 tr1 tr2 : Nat) (f : Ob) (w : Ob) (tr : Ob) (x : Int32) (y : Int32) (sz : Nat) (r : Int32) (u : Ob) (hf : f_x_worked f w tr x y = some (r, u)) : kCi l yX6_worked cX6_worked 3 (some .int) { frames := 4, cells := 0, slots := 0, locals := 99 } [.ref fa, .int x, .int y] D cI cZ cR (cFF fa wa pta i0a i1a bka kna tra jda f ++ (cWeb cI wa w1 w2 w3 w4 w5 w6 w7 w8 w9 w ++ (cWork cI tra tr1 tr2 tr))) sz (cFF fa wa pta i0a i1a bka kna tra jda f ++ (cWeb cI wa w1 w2 w3 w4 w5 w6 w7 w8 w9 w ++ (cWork cI tra tr1 tr2 u))) r := by
  refine kMwi (wf := (fun u : Ob => cFF fa wa pta i0a i1a bka kna tra jda f ++ (cWeb cI wa w1 w2 w3 w4 w5 w6 w7 w8 w9 w ++ (cWork cI tra tr1 tr2 u)))) (u := u) (by decide) (Nat.le_of_ble_eq_true rfl) ?_
  intro p e s m below meth c Q A hx hb hml hown hts hk hP hD hA hS hret ls hl
  have hS0 := hS
  have hK := hk.1
  have hl : lv_has ls 3 [(0, .ref fa), (1, .int x), (2, .int y)] := hl
  rw [f_x_worked] at hf
  refine lv_aload_n hx hb dX6_worked_0 rfl (lv_at hl 0 rfl) ?_
  refine va_get (D := D) (ci := 6) (v := .ref wa) (C := RX6) (T := TX6) (N := 9) hx hb hts inT6 hown hK hP 0 rfl rfl 0 (by decide) (hts _ mT_226) (fun _ h9 => h9) rfl dX6_worked_1 ?_
  refine lv_iload_n hx hb dX6_worked_4 rfl (lv_at hl 2 rfl) ?_
  obtain ⟨q5, h5, hf⟩ := bd_some hf
  refine kx_rv (As := [.int y]) (rest := []) hx hb hml hown hts hk (hP.sub (ws' := cWeb cI wa w1 w2 w3 w4 w5 w6 w7 w8 w9 w) [1, 2, 3, 4, 5, 6, 7, 8, 9, 10] rfl) hl.1 s_yX4_hasPlace v_yX4_hasPlace (c_hasPlace l D cI cZ cR wa w1 w2 w3 w4 w5 w6 w7 w8 w9 w y _ h5) mT_399 rfl rfl ⟨Nat.le_of_ble_eq_true rfl, Nat.le_of_ble_eq_true rfl⟩ (ci := 4) (q0 := 0) rfl rfl rfl (Nat.le_of_ble_eq_true rfl) ⟨Nat.zero_le _, Nat.zero_le _⟩ dX6_worked_5 ?_
  refine lv_if_ne (tgt := 14) hx hb dX6_worked_8 (by decide) (fun c8 => ?_) (fun c8 => ?_)
  · have hf := ite_f c8 hf
    refine lv_iload_n hx hb dX6_worked_14 rfl (lv_at hl 1 rfl) ?_
    obtain ⟨q15, h15, hf⟩ := bd_some hf
    refine kx_rs (As := [.int x]) (rest := []) hx hb hml hown hts hk hl.1 s_yX6_isChoice mT_430 (c_isChoice l D cI cZ cR x _ h15) mT_429 rfl rfl ⟨Nat.le_of_ble_eq_true rfl, Nat.le_of_ble_eq_true rfl⟩ rfl (Nat.le_of_ble_eq_true rfl) ⟨Nat.zero_le _, Nat.zero_le _⟩ dX6_worked_15 ?_
    refine lv_if_ne (tgt := 24) hx hb dX6_worked_18 (by decide) (fun c18 => ?_) (fun c18 => ?_)
    · have hf := ite_f c18 hf
      refine lv_aload_n hx hb dX6_worked_24 rfl (lv_at hl 0 rfl) ?_
      refine va_get (D := D) (ci := 6) (v := .ref tra) (C := RX6) (T := TX6) (N := 9) hx hb hts inT6 hown hK hP 0 rfl rfl 6 (by decide) (hts _ mT_232) (fun _ h9 => h9) rfl dX6_worked_25 ?_
      refine lv_aload_n hx hb dX6_worked_28 rfl (lv_at hl 0 rfl) ?_
      refine va_get (D := D) (ci := 6) (v := .ref wa) (C := RX6) (T := TX6) (N := 9) hx hb hts inT6 hown hK hP 0 rfl rfl 0 (by decide) (hts _ mT_226) (fun _ h9 => h9) rfl dX6_worked_29 ?_
      refine lv_iload_n hx hb dX6_worked_32 rfl (lv_at hl 1 rfl) ?_
      refine lv_iconst (v := (-1)) hx hb dX6_worked_33 (by decide) ?_
      obtain ⟨q34, h34, hf⟩ := bd_some hf
      refine kx_wi (As := [.ref wa, .int x, .int (-1)]) (rest := []) (wc := cWork cI tra tr1 tr2 tr ++ (cWeb cI wa w1 w2 w3 w4 w5 w6 w7 w8 w9 w)) (wr := [(fa, .inr (6, [.ref wa, .ref pta, .ref i0a, .ref i1a, .ref bka, .ref kna, .ref tra, .ref jda, .int (f 0 0)]))]) (wd := cWork cI tra tr1 tr2 q34.2 ++ (cWeb cI wa w1 w2 w3 w4 w5 w6 w7 w8 w9 w)) (wn := cFF fa wa pta i0a i1a bka kna tra jda f ++ (cWeb cI wa w1 w2 w3 w4 w5 w6 w7 w8 w9 w ++ (cWork cI tra tr1 tr2 q34.2))) hx hb hml hown hts hk hP hD hS hA hl.1 s_yX5_run v_yX5_run (c_run l D cI cZ cR tra tr1 tr2 wa w1 w2 w3 w4 w5 w6 w7 w8 w9 tr w x (-1) s.heap.size _ _ h34) mT_342 rfl rfl ⟨Nat.le_of_ble_eq_true rfl, Nat.le_of_ble_eq_true rfl⟩ [11, 12, 13, 1, 2, 3, 4, 5, 6, 7, 8, 9, 10] [0] [0, 4, 5, 6, 7, 8, 9, 10, 11, 12, 13, 1, 2, 3] rfl rfl (by decide) (by decide) (by decide) (by decide) rfl (ci := 5) (q0 := 0) rfl rfl rfl (Nat.le_of_ble_eq_true rfl) ⟨Nat.zero_le _, Nat.zero_le _⟩ dX6_worked_34 (fun H locs hP hD hS => ?_)
      refine lv_iconst (v := (-1)) hx hb dX6_worked_37 (by decide) ?_
      refine lv_icmp_ne (tgt := 45) hx hb dX6_worked_38 (by decide) (fun c38 => ?_) (fun c38 => ?_)
      · have hf := ite_f c38 hf
        refine lv_aload_n hx hb dX6_worked_45 rfl (lv_at hl 0 rfl) ?_
        refine va_get (D := D) (ci := 6) (v := .ref tra) (C := RX6) (T := TX6) (N := 9) hx hb hts inT6 hown hK hP 0 rfl rfl 6 (by decide) (hts _ mT_232) (fun _ h9 => h9) rfl dX6_worked_46 ?_
        refine va_get (D := D) (ci := 5) (v := .ref tr1) (C := RX5) (T := TX5) (N := 3) hx hb hts inT5 hown hK hP 11 rfl rfl 0 (by decide) (hts _ mT_194) (fun _ h9 => h9) rfl dX6_worked_49 ?_
        refine lv_iload_n hx hb dX6_worked_52 rfl (lv_at hl 2 rfl) ?_
        obtain ⟨b53, hf⟩ := gd_some hf
        refine va_iald (n := 10) (f := q34.2 1) hx hb hK hP 12 0 rfl rfl (ck_in b53) dX6_worked_53 ?_
        exact hret _ _ _ q34.2 _ _ hf dX6_worked_54 hP hD hS
      · have hf := ite_t c38 hf
        refine lv_iconst (v := (-1)) hx hb dX6_worked_41 (by decide) ?_
        refine lv_goto (tgt := 54) hx hb dX6_worked_42 (by decide) ?_
        exact hret _ _ _ q34.2 _ _ hf dX6_worked_54 hP hD hS
    · have hf := ite_t c18 hf
      refine lv_ldc (v := (-1000000002)) hx hb hown (hts _ mT_379) dX6_worked_21 ?_
      exact hret _ _ _ tr _ _ hf dX6_worked_23 hP hD hS
  · have hf := ite_t c8 hf
    refine lv_ldc (v := (-1000000001)) hx hb hown (hts _ mT_388) dX6_worked_11 ?_
    exact hret _ _ _ tr _ _ hf dX6_worked_13 hP hD hS
