theorem s_yX7_brings : kMS yX7_brings cX7_brings 5 none 3 := ⟨mT_678, mT_59, by decide +kernel⟩
theorem v_yX7_brings : kMV yX7_brings := ⟨mT_677, mT_31⟩
def f_m_brings (z : Ob) (x : Int32) (y : Int32) (v : Int32) : Option Ob := bd (f_m_of z x 4) (fun q4 => bd (f_m_isBelow z q4 y) (fun q8 => if q8 = 0 then (if q8 = 0 then (some (sI (sI z 11 0) 12 0)) else (bd (f_m_of (sI z 11 0) x 3) (fun q44 => bd (f_m_of (sI z 11 0) x 2) (fun q53 => some (sI (sI z 11 0) 12 ((v &&& (q44 ^^^ (-1))) ||| q53)))))) else (bd (f_m_of z x (5 + y)) (fun q24 => if q8 = 0 then (some (sI (sI z 11 q24) 12 0)) else (bd (f_m_of (sI z 11 q24) x 3) (fun q44 => bd (f_m_of (sI z 11 q24) x 2) (fun q53 => some (sI (sI z 11 q24) 12 ((v &&& (q44 ^^^ (-1))) ||| q53)))))))))
set_option maxHeartbeats 4000000 in
set_option maxRecDepth 100000 in
theorem c_m_brings (l : Launch) (D : va_G) (cI cZ cR : ClassId) (za z1 z2 z3 z4 z5 z6 z7 z8 z9 : Nat) (z : Ob) (x : Int32) (y : Int32) (v : Int32) (sz : Nat) (u : Ob) (hf : f_m_brings z x y v = some u) : kCv l yX7_brings cX7_brings 5 none { frames := 2, cells := 0, slots := 0, locals := 44 } [.ref za, .int x, .int y, .int v] D cI cZ cR (cModel cI cZ za z1 z2 z3 z4 z5 z6 z7 z8 z9 z) sz (cModel cI cZ za z1 z2 z3 z4 z5 z6 z7 z8 z9 u) := by
  refine kMwv (wf := (fun u : Ob => cModel cI cZ za z1 z2 z3 z4 z5 z6 z7 z8 z9 u)) (u := u) (by decide) (Nat.le_of_ble_eq_true rfl) ?_
  intro p e s m below meth c Q A hx hb hml hown hts hk hP hD hA hS hret ls hl
  have hS0 := hS
  have hK := hk.1
  have hl : lv_has ls 5 [(0, .ref za), (1, .int x), (2, .int y), (3, .int v)] := hl
  rw [f_m_brings] at hf
  refine lv_aload_n hx hb dX7_brings_0 rfl (lv_at hl 0 rfl) ?_
  refine lv_aload_n hx hb dX7_brings_1 rfl (lv_at hl 0 rfl) ?_
  refine lv_iload_n hx hb dX7_brings_2 rfl (lv_at hl 1 rfl) ?_
  refine lv_iconst (v := 4) hx hb dX7_brings_3 (by decide) ?_
  obtain ⟨q4, h4, hf⟩ := bd_some hf
  refine kx_rv (As := [.int x, .int 4]) (rest := [.ref za]) hx hb hml hown hts hk hP hl.1 s_yX7_of v_yX7_of (c_m_of l D cI cZ cR za z1 z2 z3 z4 z5 z6 z7 z8 z9 z x 4 _ h4) mT_647 rfl rfl ⟨Nat.le_of_ble_eq_true rfl, Nat.le_of_ble_eq_true rfl⟩ (ci := 7) (q0 := 0) rfl rfl rfl (Nat.le_of_ble_eq_true rfl) ⟨Nat.zero_le _, Nat.zero_le _⟩ dX7_brings_4 ?_
  refine lv_iload_n hx hb dX7_brings_7 rfl (lv_at hl 2 rfl) ?_
  obtain ⟨q8, h8, hf⟩ := bd_some hf
  refine kx_rv (As := [.int q4, .int y]) (rest := []) hx hb hml hown hts hk hP hl.1 s_yX7_isBelow v_yX7_isBelow (c_m_isBelow l D cI cZ cR za z1 z2 z3 z4 z5 z6 z7 z8 z9 z q4 y _ h8) mT_643 rfl rfl ⟨Nat.le_of_ble_eq_true rfl, Nat.le_of_ble_eq_true rfl⟩ (ci := 7) (q0 := 0) rfl rfl rfl (Nat.le_of_ble_eq_true rfl) ⟨Nat.zero_le _, Nat.zero_le _⟩ dX7_brings_8 ?_
  refine lv_istore (lv' := [(4, .int q8), (0, .ref za), (1, .int x), (2, .int y), (3, .int v)]) hx hb dX7_brings_11 hl (by decide) rfl (fun ls hl => ?_)
  refine lv_aload_n hx hb dX7_brings_13 rfl (lv_at hl 1 rfl) ?_
  refine lv_iload hx hb dX7_brings_14 (lv_at hl 0 rfl) ?_
  refine lv_if_eq (tgt := 30) hx hb dX7_brings_16 (by decide) (fun c16 => ?_) (fun c16 => ?_)
  · have hf := ite_t c16 hf
    refine lv_iconst (v := 0) hx hb dX7_brings_30 (by decide) ?_
    refine va_put (D := D) (ci := 7) (v := .int 0) (ty := .int) (C := RX7) (T := TX7) (N := 17) hx hb hts inT7 tyX7 tyX7_ok nmX7 hown hK hP hD hS 0 rfl rfl 11 (by decide) (hts _ mT_577) (fun _ h9 => h9) rfl (by decide +kernel) rfl rfl (Nat.le_of_ble_eq_true rfl) dX7_brings_31 (fun H locs hP hD hS => ?_)
    have hP : va_P D vwCl ([(za, .inr (7, [.ref z1, .ref z2, .int (z 0 2), .ref z3, .ref z4, .int (z 0 5), .ref z5, .int (z 0 7), .ref z6, .ref z7, .ref z8, .int 0, .int (z 0 12), .int (z 0 13), .int (z 0 14), .ref z9, .int (z 0 16)])), (z1, .inl (cI, 367, .inl (z 1))), (z2, .inl (cI, 5872, .inl (z 2))), (z3, .inl (cI, 736, .inl (z 3))), (z4, .inl (cZ, 2, .inl (z 4))), (z5, .inl (cI, 60, .inl (z 5))), (z6, .inl (cI, 20, .inl (z 6))), (z7, .inl (cI, 20, .inl (z 7))), (z8, .inl (cI, 20, .inl (z 8))), (z9, .inl (cI, 10, .inl (z 9)))]) H := hP
    have hD : va_D A ([(za, .inr (7, [.ref z1, .ref z2, .int (z 0 2), .ref z3, .ref z4, .int (z 0 5), .ref z5, .int (z 0 7), .ref z6, .ref z7, .ref z8, .int 0, .int (z 0 12), .int (z 0 13), .int (z 0 14), .ref z9, .int (z 0 16)])), (z1, .inl (cI, 367, .inl (z 1))), (z2, .inl (cI, 5872, .inl (z 2))), (z3, .inl (cI, 736, .inl (z 3))), (z4, .inl (cZ, 2, .inl (z 4))), (z5, .inl (cI, 60, .inl (z 5))), (z6, .inl (cI, 20, .inl (z 6))), (z7, .inl (cI, 20, .inl (z 7))), (z8, .inl (cI, 20, .inl (z 8))), (z9, .inl (cI, 10, .inl (z 9)))]) := hD
    refine lv_aload_n hx hb dX7_brings_34 rfl (lv_at hl 1 rfl) ?_
    refine lv_iload hx hb dX7_brings_35 (lv_at hl 0 rfl) ?_
    refine lv_if_eq (tgt := 60) hx hb dX7_brings_37 (by decide) (fun c37 => ?_) (fun c37 => ?_)
    · have hf := ite_t c37 hf
      refine lv_iconst (v := 0) hx hb dX7_brings_60 (by decide) ?_
      refine va_put (D := D) (ci := 7) (v := .int 0) (ty := .int) (C := RX7) (T := TX7) (N := 17) hx hb hts inT7 tyX7 tyX7_ok nmX7 hown hK hP hD hS 0 rfl rfl 12 (by decide) (hts _ mT_578) (fun _ h9 => h9) rfl (by decide +kernel) rfl rfl (Nat.le_of_ble_eq_true rfl) dX7_brings_61 (fun H locs hP hD hS => ?_)
      have hP : va_P D vwCl ([(za, .inr (7, [.ref z1, .ref z2, .int (z 0 2), .ref z3, .ref z4, .int (z 0 5), .ref z5, .int (z 0 7), .ref z6, .ref z7, .ref z8, .int 0, .int 0, .int (z 0 13), .int (z 0 14), .ref z9, .int (z 0 16)])), (z1, .inl (cI, 367, .inl (z 1))), (z2, .inl (cI, 5872, .inl (z 2))), (z3, .inl (cI, 736, .inl (z 3))), (z4, .inl (cZ, 2, .inl (z 4))), (z5, .inl (cI, 60, .inl (z 5))), (z6, .inl (cI, 20, .inl (z 6))), (z7, .inl (cI, 20, .inl (z 7))), (z8, .inl (cI, 20, .inl (z 8))), (z9, .inl (cI, 10, .inl (z 9)))]) H := hP
      have hD : va_D A ([(za, .inr (7, [.ref z1, .ref z2, .int (z 0 2), .ref z3, .ref z4, .int (z 0 5), .ref z5, .int (z 0 7), .ref z6, .ref z7, .ref z8, .int 0, .int 0, .int (z 0 13), .int (z 0 14), .ref z9, .int (z 0 16)])), (z1, .inl (cI, 367, .inl (z 1))), (z2, .inl (cI, 5872, .inl (z 2))), (z3, .inl (cI, 736, .inl (z 3))), (z4, .inl (cZ, 2, .inl (z 4))), (z5, .inl (cI, 60, .inl (z 5))), (z6, .inl (cI, 20, .inl (z 6))), (z7, .inl (cI, 20, .inl (z 7))), (z8, .inl (cI, 20, .inl (z 8))), (z9, .inl (cI, 10, .inl (z 9)))]) := hD
      exact hret _ _ (sI (sI z 11 0) 12 0) _ _ hf dX7_brings_64 hP hD hS
    · have hf := ite_f c37 hf
      refine lv_iload_n hx hb dX7_brings_40 rfl (lv_at hl 4 rfl) ?_
      refine lv_aload_n hx hb dX7_brings_41 rfl (lv_at hl 1 rfl) ?_
      refine lv_iload_n hx hb dX7_brings_42 rfl (lv_at hl 2 rfl) ?_
      refine lv_iconst (v := 3) hx hb dX7_brings_43 (by decide) ?_
      obtain ⟨q44, h44, hf⟩ := bd_some hf
      refine kx_rv (As := [.int x, .int 3]) (rest := [.int v, .ref za]) hx hb hml hown hts hk hP hl.1 s_yX7_of v_yX7_of (c_m_of l D cI cZ cR za z1 z2 z3 z4 z5 z6 z7 z8 z9 (sI z 11 0) x 3 _ h44) mT_647 rfl rfl ⟨Nat.le_of_ble_eq_true rfl, Nat.le_of_ble_eq_true rfl⟩ (ci := 7) (q0 := 0) rfl rfl rfl (Nat.le_of_ble_eq_true rfl) ⟨Nat.zero_le _, Nat.zero_le _⟩ dX7_brings_44 ?_
      refine lv_iconst (v := (-1)) hx hb dX7_brings_47 (by decide) ?_
      refine lv_ixor hx hb dX7_brings_48 ?_
      refine lv_iand hx hb dX7_brings_49 ?_
      refine lv_aload_n hx hb dX7_brings_50 rfl (lv_at hl 1 rfl) ?_
      refine lv_iload_n hx hb dX7_brings_51 rfl (lv_at hl 2 rfl) ?_
      refine lv_iconst (v := 2) hx hb dX7_brings_52 (by decide) ?_
      obtain ⟨q53, h53, hf⟩ := bd_some hf
      refine kx_rv (As := [.int x, .int 2]) (rest := [.int (v &&& (q44 ^^^ (-1))), .ref za]) hx hb hml hown hts hk hP hl.1 s_yX7_of v_yX7_of (c_m_of l D cI cZ cR za z1 z2 z3 z4 z5 z6 z7 z8 z9 (sI z 11 0) x 2 _ h53) mT_647 rfl rfl ⟨Nat.le_of_ble_eq_true rfl, Nat.le_of_ble_eq_true rfl⟩ (ci := 7) (q0 := 0) rfl rfl rfl (Nat.le_of_ble_eq_true rfl) ⟨Nat.zero_le _, Nat.zero_le _⟩ dX7_brings_53 ?_
      refine lv_ior hx hb dX7_brings_56 ?_
      refine lv_goto (tgt := 61) hx hb dX7_brings_57 (by decide) ?_
      refine va_put (D := D) (ci := 7) (v := .int ((v &&& (q44 ^^^ (-1))) ||| q53)) (ty := .int) (C := RX7) (T := TX7) (N := 17) hx hb hts inT7 tyX7 tyX7_ok nmX7 hown hK hP hD hS 0 rfl rfl 12 (by decide) (hts _ mT_578) (fun _ h9 => h9) rfl (by decide +kernel) rfl rfl (Nat.le_of_ble_eq_true rfl) dX7_brings_61 (fun H locs hP hD hS => ?_)
      have hP : va_P D vwCl ([(za, .inr (7, [.ref z1, .ref z2, .int (z 0 2), .ref z3, .ref z4, .int (z 0 5), .ref z5, .int (z 0 7), .ref z6, .ref z7, .ref z8, .int 0, .int ((v &&& (q44 ^^^ (-1))) ||| q53), .int (z 0 13), .int (z 0 14), .ref z9, .int (z 0 16)])), (z1, .inl (cI, 367, .inl (z 1))), (z2, .inl (cI, 5872, .inl (z 2))), (z3, .inl (cI, 736, .inl (z 3))), (z4, .inl (cZ, 2, .inl (z 4))), (z5, .inl (cI, 60, .inl (z 5))), (z6, .inl (cI, 20, .inl (z 6))), (z7, .inl (cI, 20, .inl (z 7))), (z8, .inl (cI, 20, .inl (z 8))), (z9, .inl (cI, 10, .inl (z 9)))]) H := hP
      have hD : va_D A ([(za, .inr (7, [.ref z1, .ref z2, .int (z 0 2), .ref z3, .ref z4, .int (z 0 5), .ref z5, .int (z 0 7), .ref z6, .ref z7, .ref z8, .int 0, .int ((v &&& (q44 ^^^ (-1))) ||| q53), .int (z 0 13), .int (z 0 14), .ref z9, .int (z 0 16)])), (z1, .inl (cI, 367, .inl (z 1))), (z2, .inl (cI, 5872, .inl (z 2))), (z3, .inl (cI, 736, .inl (z 3))), (z4, .inl (cZ, 2, .inl (z 4))), (z5, .inl (cI, 60, .inl (z 5))), (z6, .inl (cI, 20, .inl (z 6))), (z7, .inl (cI, 20, .inl (z 7))), (z8, .inl (cI, 20, .inl (z 8))), (z9, .inl (cI, 10, .inl (z 9)))]) := hD
      exact hret _ _ (sI (sI z 11 0) 12 ((v &&& (q44 ^^^ (-1))) ||| q53)) _ _ hf dX7_brings_64 hP hD hS
  · have hf := ite_f c16 hf
    refine lv_aload_n hx hb dX7_brings_19 rfl (lv_at hl 1 rfl) ?_
    refine lv_iload_n hx hb dX7_brings_20 rfl (lv_at hl 2 rfl) ?_
    refine lv_iconst (v := 5) hx hb dX7_brings_21 (by decide) ?_
    refine lv_iload_n hx hb dX7_brings_22 rfl (lv_at hl 3 rfl) ?_
    refine lv_iadd hx hb dX7_brings_23 ?_
    obtain ⟨q24, h24, hf⟩ := bd_some hf
    refine kx_rv (As := [.int x, .int (5 + y)]) (rest := [.ref za]) hx hb hml hown hts hk hP hl.1 s_yX7_of v_yX7_of (c_m_of l D cI cZ cR za z1 z2 z3 z4 z5 z6 z7 z8 z9 z x (5 + y) _ h24) mT_647 rfl rfl ⟨Nat.le_of_ble_eq_true rfl, Nat.le_of_ble_eq_true rfl⟩ (ci := 7) (q0 := 0) rfl rfl rfl (Nat.le_of_ble_eq_true rfl) ⟨Nat.zero_le _, Nat.zero_le _⟩ dX7_brings_24 ?_
    refine lv_goto (tgt := 31) hx hb dX7_brings_27 (by decide) ?_
    refine va_put (D := D) (ci := 7) (v := .int q24) (ty := .int) (C := RX7) (T := TX7) (N := 17) hx hb hts inT7 tyX7 tyX7_ok nmX7 hown hK hP hD hS 0 rfl rfl 11 (by decide) (hts _ mT_577) (fun _ h9 => h9) rfl (by decide +kernel) rfl rfl (Nat.le_of_ble_eq_true rfl) dX7_brings_31 (fun H locs hP hD hS => ?_)
    have hP : va_P D vwCl ([(za, .inr (7, [.ref z1, .ref z2, .int (z 0 2), .ref z3, .ref z4, .int (z 0 5), .ref z5, .int (z 0 7), .ref z6, .ref z7, .ref z8, .int q24, .int (z 0 12), .int (z 0 13), .int (z 0 14), .ref z9, .int (z 0 16)])), (z1, .inl (cI, 367, .inl (z 1))), (z2, .inl (cI, 5872, .inl (z 2))), (z3, .inl (cI, 736, .inl (z 3))), (z4, .inl (cZ, 2, .inl (z 4))), (z5, .inl (cI, 60, .inl (z 5))), (z6, .inl (cI, 20, .inl (z 6))), (z7, .inl (cI, 20, .inl (z 7))), (z8, .inl (cI, 20, .inl (z 8))), (z9, .inl (cI, 10, .inl (z 9)))]) H := hP
    have hD : va_D A ([(za, .inr (7, [.ref z1, .ref z2, .int (z 0 2), .ref z3, .ref z4, .int (z 0 5), .ref z5, .int (z 0 7), .ref z6, .ref z7, .ref z8, .int q24, .int (z 0 12), .int (z 0 13), .int (z 0 14), .ref z9, .int (z 0 16)])), (z1, .inl (cI, 367, .inl (z 1))), (z2, .inl (cI, 5872, .inl (z 2))), (z3, .inl (cI, 736, .inl (z 3))), (z4, .inl (cZ, 2, .inl (z 4))), (z5, .inl (cI, 60, .inl (z 5))), (z6, .inl (cI, 20, .inl (z 6))), (z7, .inl (cI, 20, .inl (z 7))), (z8, .inl (cI, 20, .inl (z 8))), (z9, .inl (cI, 10, .inl (z 9)))]) := hD
    refine lv_aload_n hx hb dX7_brings_34 rfl (lv_at hl 1 rfl) ?_
    refine lv_iload hx hb dX7_brings_35 (lv_at hl 0 rfl) ?_
    refine lv_if_eq (tgt := 60) hx hb dX7_brings_37 (by decide) (fun c37 => ?_) (fun c37 => ?_)
    · have hf := ite_t c37 hf
      refine lv_iconst (v := 0) hx hb dX7_brings_60 (by decide) ?_
      refine va_put (D := D) (ci := 7) (v := .int 0) (ty := .int) (C := RX7) (T := TX7) (N := 17) hx hb hts inT7 tyX7 tyX7_ok nmX7 hown hK hP hD hS 0 rfl rfl 12 (by decide) (hts _ mT_578) (fun _ h9 => h9) rfl (by decide +kernel) rfl rfl (Nat.le_of_ble_eq_true rfl) dX7_brings_61 (fun H locs hP hD hS => ?_)
      have hP : va_P D vwCl ([(za, .inr (7, [.ref z1, .ref z2, .int (z 0 2), .ref z3, .ref z4, .int (z 0 5), .ref z5, .int (z 0 7), .ref z6, .ref z7, .ref z8, .int q24, .int 0, .int (z 0 13), .int (z 0 14), .ref z9, .int (z 0 16)])), (z1, .inl (cI, 367, .inl (z 1))), (z2, .inl (cI, 5872, .inl (z 2))), (z3, .inl (cI, 736, .inl (z 3))), (z4, .inl (cZ, 2, .inl (z 4))), (z5, .inl (cI, 60, .inl (z 5))), (z6, .inl (cI, 20, .inl (z 6))), (z7, .inl (cI, 20, .inl (z 7))), (z8, .inl (cI, 20, .inl (z 8))), (z9, .inl (cI, 10, .inl (z 9)))]) H := hP
      have hD : va_D A ([(za, .inr (7, [.ref z1, .ref z2, .int (z 0 2), .ref z3, .ref z4, .int (z 0 5), .ref z5, .int (z 0 7), .ref z6, .ref z7, .ref z8, .int q24, .int 0, .int (z 0 13), .int (z 0 14), .ref z9, .int (z 0 16)])), (z1, .inl (cI, 367, .inl (z 1))), (z2, .inl (cI, 5872, .inl (z 2))), (z3, .inl (cI, 736, .inl (z 3))), (z4, .inl (cZ, 2, .inl (z 4))), (z5, .inl (cI, 60, .inl (z 5))), (z6, .inl (cI, 20, .inl (z 6))), (z7, .inl (cI, 20, .inl (z 7))), (z8, .inl (cI, 20, .inl (z 8))), (z9, .inl (cI, 10, .inl (z 9)))]) := hD
      exact hret _ _ (sI (sI z 11 q24) 12 0) _ _ hf dX7_brings_64 hP hD hS
    · have hf := ite_f c37 hf
      refine lv_iload_n hx hb dX7_brings_40 rfl (lv_at hl 4 rfl) ?_
      refine lv_aload_n hx hb dX7_brings_41 rfl (lv_at hl 1 rfl) ?_
      refine lv_iload_n hx hb dX7_brings_42 rfl (lv_at hl 2 rfl) ?_
      refine lv_iconst (v := 3) hx hb dX7_brings_43 (by decide) ?_
      obtain ⟨q44, h44, hf⟩ := bd_some hf
      refine kx_rv (As := [.int x, .int 3]) (rest := [.int v, .ref za]) hx hb hml hown hts hk hP hl.1 s_yX7_of v_yX7_of (c_m_of l D cI cZ cR za z1 z2 z3 z4 z5 z6 z7 z8 z9 (sI z 11 q24) x 3 _ h44) mT_647 rfl rfl ⟨Nat.le_of_ble_eq_true rfl, Nat.le_of_ble_eq_true rfl⟩ (ci := 7) (q0 := 0) rfl rfl rfl (Nat.le_of_ble_eq_true rfl) ⟨Nat.zero_le _, Nat.zero_le _⟩ dX7_brings_44 ?_
      refine lv_iconst (v := (-1)) hx hb dX7_brings_47 (by decide) ?_
      refine lv_ixor hx hb dX7_brings_48 ?_
      refine lv_iand hx hb dX7_brings_49 ?_
      refine lv_aload_n hx hb dX7_brings_50 rfl (lv_at hl 1 rfl) ?_
      refine lv_iload_n hx hb dX7_brings_51 rfl (lv_at hl 2 rfl) ?_
      refine lv_iconst (v := 2) hx hb dX7_brings_52 (by decide) ?_
      obtain ⟨q53, h53, hf⟩ := bd_some hf
      refine kx_rv (As := [.int x, .int 2]) (rest := [.int (v &&& (q44 ^^^ (-1))), .ref za]) hx hb hml hown hts hk hP hl.1 s_yX7_of v_yX7_of (c_m_of l D cI cZ cR za z1 z2 z3 z4 z5 z6 z7 z8 z9 (sI z 11 q24) x 2 _ h53) mT_647 rfl rfl ⟨Nat.le_of_ble_eq_true rfl, Nat.le_of_ble_eq_true rfl⟩ (ci := 7) (q0 := 0) rfl rfl rfl (Nat.le_of_ble_eq_true rfl) ⟨Nat.zero_le _, Nat.zero_le _⟩ dX7_brings_53 ?_
      refine lv_ior hx hb dX7_brings_56 ?_
      refine lv_goto (tgt := 61) hx hb dX7_brings_57 (by decide) ?_
      refine va_put (D := D) (ci := 7) (v := .int ((v &&& (q44 ^^^ (-1))) ||| q53)) (ty := .int) (C := RX7) (T := TX7) (N := 17) hx hb hts inT7 tyX7 tyX7_ok nmX7 hown hK hP hD hS 0 rfl rfl 12 (by decide) (hts _ mT_578) (fun _ h9 => h9) rfl (by decide +kernel) rfl rfl (Nat.le_of_ble_eq_true rfl) dX7_brings_61 (fun H locs hP hD hS => ?_)
      have hP : va_P D vwCl ([(za, .inr (7, [.ref z1, .ref z2, .int (z 0 2), .ref z3, .ref z4, .int (z 0 5), .ref z5, .int (z 0 7), .ref z6, .ref z7, .ref z8, .int q24, .int ((v &&& (q44 ^^^ (-1))) ||| q53), .int (z 0 13), .int (z 0 14), .ref z9, .int (z 0 16)])), (z1, .inl (cI, 367, .inl (z 1))), (z2, .inl (cI, 5872, .inl (z 2))), (z3, .inl (cI, 736, .inl (z 3))), (z4, .inl (cZ, 2, .inl (z 4))), (z5, .inl (cI, 60, .inl (z 5))), (z6, .inl (cI, 20, .inl (z 6))), (z7, .inl (cI, 20, .inl (z 7))), (z8, .inl (cI, 20, .inl (z 8))), (z9, .inl (cI, 10, .inl (z 9)))]) H := hP
      have hD : va_D A ([(za, .inr (7, [.ref z1, .ref z2, .int (z 0 2), .ref z3, .ref z4, .int (z 0 5), .ref z5, .int (z 0 7), .ref z6, .ref z7, .ref z8, .int q24, .int ((v &&& (q44 ^^^ (-1))) ||| q53), .int (z 0 13), .int (z 0 14), .ref z9, .int (z 0 16)])), (z1, .inl (cI, 367, .inl (z 1))), (z2, .inl (cI, 5872, .inl (z 2))), (z3, .inl (cI, 736, .inl (z 3))), (z4, .inl (cZ, 2, .inl (z 4))), (z5, .inl (cI, 60, .inl (z 5))), (z6, .inl (cI, 20, .inl (z 6))), (z7, .inl (cI, 20, .inl (z 7))), (z8, .inl (cI, 20, .inl (z 8))), (z9, .inl (cI, 10, .inl (z 9)))]) := hD
      exact hret _ _ (sI (sI z 11 q24) 12 ((v &&& (q44 ^^^ (-1))) ||| q53)) _ _ hf dX7_brings_64 hP hD hS
theorem s_yX7_gathers : kMS yX7_gathers cX7_gathers 5 none 3 := ⟨mT_674, mT_59, by decide +kernel⟩
theorem v_yX7_gathers : kMV yX7_gathers := ⟨mT_673, mT_30⟩
def k_m_gathers_29 (x4_29 : Int32) (z_29 : Ob) : Option Ob := some z_29
def lp_m_gathers_29 (jj_ : Nat) (x : Int32) (y : Int32) (kk0 : Int32 → Ob → Option Ob) : Nat → Int32 → Ob → Option Ob
  | 0, _, _ => none
  | fu29 + 1, x4_29, z_29 => if ((z_29 1) (Int32.toNatClampNeg 2)) ≤ x4_29 then (kk0 x4_29 z_29) else (if x4_29 = y then ((lp_m_gathers_29 jj_ x y kk0 fu29) (x4_29 + 1) z_29) else (bd (f_m_of z_29 x4_29 1) (fun q50 => if q50 = x then (bd (f_m_of z_29 x4_29 0) (fun q65 => gd (ck q65 20) (bd (f_m_of z_29 x4_29 0) (fun q76 => gd (ck (10 + q76) 20) (bd (f_m_brings z_29 x4_29 ((z_29 jj_) (Int32.toNatClampNeg q65)) ((z_29 jj_) (Int32.toNatClampNeg (10 + q76)))) (fun q81 => bd (f_m_both q81 (q81 0 13) (q81 0 11)) (fun q94 => (lp_m_gathers_29 jj_ x y kk0 fu29) (x4_29 + 1) (sI (sI q81 13 q94) 14 ((q81 0 14) ||| (q81 0 12)))))))))) else ((lp_m_gathers_29 jj_ x y kk0 fu29) (x4_29 + 1) z_29))))
def f_m_gathers (jj_ : Nat) (z : Ob) (x : Int32) (y : Int32) : Option Ob := gd (ck (67 + x) 367) (gd (ck (77 + x) 367) (lp_m_gathers_29 jj_ x y k_m_gathers_29 10000 0 (sI (sI z 13 ((z 1) (Int32.toNatClampNeg (67 + x)))) 14 ((z 1) (Int32.toNatClampNeg (77 + x))))))
set_option maxHeartbeats 4000000 in
set_option maxRecDepth 100000 in
theorem c_m_gathers6 (l : Launch) (D : va_G) (cI cZ cR : ClassId) (za z1 z2 z3 z4 z5 z6 z7 z8 z9 : Nat) (z : Ob) (x : Int32) (y : Int32) (sz : Nat) (u : Ob) (hf : f_m_gathers 6 z x y = some u) : kCv l yX7_gathers cX7_gathers 5 none { frames := 3, cells := 0, slots := 0, locals := 68 } [.ref za, .ref z6, .int x, .int y] D cI cZ cR (cModel cI cZ za z1 z2 z3 z4 z5 z6 z7 z8 z9 z) sz (cModel cI cZ za z1 z2 z3 z4 z5 z6 z7 z8 z9 u) := by
  refine kMwv (wf := (fun u : Ob => cModel cI cZ za z1 z2 z3 z4 z5 z6 z7 z8 z9 u)) (u := u) (by decide) (Nat.le_of_ble_eq_true rfl) ?_
  intro p e s m below meth c Q A hx hb hml hown hts hk hP hD hA hS hret ls hl
  have hS0 := hS
  have hK := hk.1
  have hl : lv_has ls 5 [(0, .ref za), (1, .ref z6), (2, .int x), (3, .int y)] := hl
  rw [f_m_gathers] at hf
  refine lv_aload_n hx hb dX7_gathers_0 rfl (lv_at hl 0 rfl) ?_
  refine lv_aload_n hx hb dX7_gathers_1 rfl (lv_at hl 0 rfl) ?_
  refine va_get (D := D) (ci := 7) (v := .ref z1) (C := RX7) (T := TX7) (N := 17) hx hb hts inT7 hown hK hP 0 rfl rfl 0 (by decide) (hts _ mT_566) (fun _ h9 => h9) rfl dX7_gathers_2 ?_
  refine lv_bipush (v := 67) hx hb dX7_gathers_5 (by decide) ?_
  refine lv_iload_n hx hb dX7_gathers_7 rfl (lv_at hl 2 rfl) ?_
  refine lv_iadd hx hb dX7_gathers_8 ?_
  obtain ⟨b9, hf⟩ := gd_some hf
  refine va_iald (n := 367) (f := z 1) hx hb hK hP 1 0 rfl rfl (ck_in b9) dX7_gathers_9 ?_
  refine va_put (D := D) (ci := 7) (v := .int ((z 1) (Int32.toNatClampNeg (67 + x)))) (ty := .int) (C := RX7) (T := TX7) (N := 17) hx hb hts inT7 tyX7 tyX7_ok nmX7 hown hK hP hD hS 0 rfl rfl 13 (by decide) (hts _ mT_579) (fun _ h9 => h9) rfl (by decide +kernel) rfl rfl (Nat.le_of_ble_eq_true rfl) dX7_gathers_10 (fun H locs hP hD hS => ?_)
  have hP : va_P D vwCl ([(za, .inr (7, [.ref z1, .ref z2, .int (z 0 2), .ref z3, .ref z4, .int (z 0 5), .ref z5, .int (z 0 7), .ref z6, .ref z7, .ref z8, .int (z 0 11), .int (z 0 12), .int ((z 1) (Int32.toNatClampNeg (67 + x))), .int (z 0 14), .ref z9, .int (z 0 16)])), (z1, .inl (cI, 367, .inl (z 1))), (z2, .inl (cI, 5872, .inl (z 2))), (z3, .inl (cI, 736, .inl (z 3))), (z4, .inl (cZ, 2, .inl (z 4))), (z5, .inl (cI, 60, .inl (z 5))), (z6, .inl (cI, 20, .inl (z 6))), (z7, .inl (cI, 20, .inl (z 7))), (z8, .inl (cI, 20, .inl (z 8))), (z9, .inl (cI, 10, .inl (z 9)))]) H := hP
  have hD : va_D A ([(za, .inr (7, [.ref z1, .ref z2, .int (z 0 2), .ref z3, .ref z4, .int (z 0 5), .ref z5, .int (z 0 7), .ref z6, .ref z7, .ref z8, .int (z 0 11), .int (z 0 12), .int ((z 1) (Int32.toNatClampNeg (67 + x))), .int (z 0 14), .ref z9, .int (z 0 16)])), (z1, .inl (cI, 367, .inl (z 1))), (z2, .inl (cI, 5872, .inl (z 2))), (z3, .inl (cI, 736, .inl (z 3))), (z4, .inl (cZ, 2, .inl (z 4))), (z5, .inl (cI, 60, .inl (z 5))), (z6, .inl (cI, 20, .inl (z 6))), (z7, .inl (cI, 20, .inl (z 7))), (z8, .inl (cI, 20, .inl (z 8))), (z9, .inl (cI, 10, .inl (z 9)))]) := hD
  refine lv_aload_n hx hb dX7_gathers_13 rfl (lv_at hl 0 rfl) ?_
  refine lv_aload_n hx hb dX7_gathers_14 rfl (lv_at hl 0 rfl) ?_
  refine va_get (D := D) (ci := 7) (v := .ref z1) (C := RX7) (T := TX7) (N := 17) hx hb hts inT7 hown hK hP 0 rfl rfl 0 (by decide) (hts _ mT_566) (fun _ h9 => h9) rfl dX7_gathers_15 ?_
  refine lv_bipush (v := 77) hx hb dX7_gathers_18 (by decide) ?_
  refine lv_iload_n hx hb dX7_gathers_20 rfl (lv_at hl 2 rfl) ?_
  refine lv_iadd hx hb dX7_gathers_21 ?_
  obtain ⟨b22, hf⟩ := gd_some hf
  refine va_iald (n := 367) (f := z 1) hx hb hK hP 1 0 rfl rfl (ck_in b22) dX7_gathers_22 ?_
  refine va_put (D := D) (ci := 7) (v := .int ((z 1) (Int32.toNatClampNeg (77 + x)))) (ty := .int) (C := RX7) (T := TX7) (N := 17) hx hb hts inT7 tyX7 tyX7_ok nmX7 hown hK hP hD hS 0 rfl rfl 14 (by decide) (hts _ mT_580) (fun _ h9 => h9) rfl (by decide +kernel) rfl rfl (Nat.le_of_ble_eq_true rfl) dX7_gathers_23 (fun H locs hP hD hS => ?_)
  have hP : va_P D vwCl ([(za, .inr (7, [.ref z1, .ref z2, .int (z 0 2), .ref z3, .ref z4, .int (z 0 5), .ref z5, .int (z 0 7), .ref z6, .ref z7, .ref z8, .int (z 0 11), .int (z 0 12), .int ((z 1) (Int32.toNatClampNeg (67 + x))), .int ((z 1) (Int32.toNatClampNeg (77 + x))), .ref z9, .int (z 0 16)])), (z1, .inl (cI, 367, .inl (z 1))), (z2, .inl (cI, 5872, .inl (z 2))), (z3, .inl (cI, 736, .inl (z 3))), (z4, .inl (cZ, 2, .inl (z 4))), (z5, .inl (cI, 60, .inl (z 5))), (z6, .inl (cI, 20, .inl (z 6))), (z7, .inl (cI, 20, .inl (z 7))), (z8, .inl (cI, 20, .inl (z 8))), (z9, .inl (cI, 10, .inl (z 9)))]) H := hP
  have hD : va_D A ([(za, .inr (7, [.ref z1, .ref z2, .int (z 0 2), .ref z3, .ref z4, .int (z 0 5), .ref z5, .int (z 0 7), .ref z6, .ref z7, .ref z8, .int (z 0 11), .int (z 0 12), .int ((z 1) (Int32.toNatClampNeg (67 + x))), .int ((z 1) (Int32.toNatClampNeg (77 + x))), .ref z9, .int (z 0 16)])), (z1, .inl (cI, 367, .inl (z 1))), (z2, .inl (cI, 5872, .inl (z 2))), (z3, .inl (cI, 736, .inl (z 3))), (z4, .inl (cZ, 2, .inl (z 4))), (z5, .inl (cI, 60, .inl (z 5))), (z6, .inl (cI, 20, .inl (z 6))), (z7, .inl (cI, 20, .inl (z 7))), (z8, .inl (cI, 20, .inl (z 8))), (z9, .inl (cI, 10, .inl (z 9)))]) := hD
  refine lv_iconst (v := 0) hx hb dX7_gathers_26 (by decide) ?_
  refine lv_istore (lv' := [(4, .int 0), (0, .ref za), (1, .ref z6), (2, .int x), (3, .int y)]) hx hb dX7_gathers_27 hl (by decide) rfl (fun ls hl => ?_)
  have kx29 : ∀ (x4_29 : Int32) (z_29 : Ob) (H : Heap) (locs : List Loc) (ls : Array Slot), k_m_gathers_29 x4_29 z_29 = some u → va_P D vwCl (cModel cI cZ za z1 z2 z3 z4 z5 z6 z7 z8 z9 z_29) H → va_D A (cModel cI cZ za z1 z2 z3 z4 z5 z6 z7 z8 z9 z_29) → va_S A s.heap H locs → lv_has ls 5 [(0, .ref za), (1, .ref z6), (2, .int x), (3, .int y), (4, .int x4_29)] → W p l e ({ frames := 3, cells := 0, slots := 0, locals := 68 } : Room) s m ([.ref za, .ref z6, .int x, .int y] : List Value).toArray below meth c H locs 0 0 Q (F0 m 119 ls []) := by
    intro x4_29 z_29 H locs ls hf hP hD hS hl
    rw [k_m_gathers_29] at hf
    exact hret _ _ z_29 _ _ hf dX7_gathers_119 hP hD hS
  have lh29 : ∀ (fu29 : Nat) (x4_29 : Int32) (z_29 : Ob) (H : Heap) (locs : List Loc) (ls : Array Slot), lp_m_gathers_29 6 x y k_m_gathers_29 fu29 x4_29 z_29 = some u → va_P D vwCl (cModel cI cZ za z1 z2 z3 z4 z5 z6 z7 z8 z9 z_29) H → va_D A (cModel cI cZ za z1 z2 z3 z4 z5 z6 z7 z8 z9 z_29) → va_S A s.heap H locs → lv_has ls 5 [(0, .ref za), (1, .ref z6), (2, .int x), (3, .int y), (4, .int x4_29)] → W p l e ({ frames := 3, cells := 0, slots := 0, locals := 68 } : Room) s m ([.ref za, .ref z6, .int x, .int y] : List Value).toArray below meth c H locs 0 0 Q (F0 m 29 ls []) := by
    intro fu29
    induction fu29 with
    | zero => intro x4_29 z_29 H locs ls hf hP hD hS hl; exact no_none hf
    | succ fu29 ih29 =>
      intro x4_29 z_29 H locs ls hf hP hD hS hl
      rw [lp_m_gathers_29] at hf
      refine lv_iload hx hb dX7_gathers_29 (lv_at hl 4 rfl) ?_
      refine lv_aload_n hx hb dX7_gathers_31 rfl (lv_at hl 0 rfl) ?_
      refine va_get (D := D) (ci := 7) (v := .ref z1) (C := RX7) (T := TX7) (N := 17) hx hb hts inT7 hown hK hP 0 rfl rfl 0 (by decide) (hts _ mT_566) (fun _ h9 => h9) rfl dX7_gathers_32 ?_
      refine lv_iconst (v := 2) hx hb dX7_gathers_35 (by decide) ?_
      refine va_iald (n := 367) (f := z_29 1) hx hb hK hP 1 0 rfl rfl (ck_in (by decide)) dX7_gathers_36 ?_
      refine lv_icmp_ge (tgt := 119) hx hb dX7_gathers_37 (by decide) (fun c37 => ?_) (fun c37 => ?_)
      · have hf := ite_t c37 hf
        exact kx29 x4_29 z_29 _ _ _ hf hP hD hS (lv_sub hl [0, 1, 2, 3, 4] rfl)
      · have hf := ite_f c37 hf
        refine lv_iload hx hb dX7_gathers_40 (lv_at hl 4 rfl) ?_
        refine lv_iload_n hx hb dX7_gathers_42 rfl (lv_at hl 3 rfl) ?_
        refine lv_icmp_eq (tgt := 113) hx hb dX7_gathers_43 (by decide) (fun c43 => ?_) (fun c43 => ?_)
        · have hf := ite_t c43 hf
          refine lv_iinc (v := x4_29 + 1) (lv' := [(4, .int (x4_29 + 1)), (0, .ref za), (1, .ref z6), (2, .int x), (3, .int y)]) hx hb dX7_gathers_113 hl (k := 4) rfl rfl (by decide) rfl (fun ls hl => ?_)
          refine lv_goto (tgt := 29) hx hb dX7_gathers_116 (by decide) ?_
          exact ih29 (x4_29 + 1) z_29 _ _ _ hf hP hD hS (lv_sub hl [1, 2, 3, 4, 0] rfl)
        · have hf := ite_f c43 hf
          refine lv_aload_n hx hb dX7_gathers_46 rfl (lv_at hl 0 rfl) ?_
          refine lv_iload hx hb dX7_gathers_47 (lv_at hl 4 rfl) ?_
          refine lv_iconst (v := 1) hx hb dX7_gathers_49 (by decide) ?_
          obtain ⟨q50, h50, hf⟩ := bd_some hf
          refine kx_rv (As := [.int x4_29, .int 1]) (rest := []) hx hb hml hown hts hk hP hl.1 s_yX7_of v_yX7_of (c_m_of l D cI cZ cR za z1 z2 z3 z4 z5 z6 z7 z8 z9 z_29 x4_29 1 _ h50) mT_647 rfl rfl ⟨Nat.le_of_ble_eq_true rfl, Nat.le_of_ble_eq_true rfl⟩ (ci := 7) (q0 := 0) rfl rfl rfl (Nat.le_of_ble_eq_true rfl) ⟨Nat.zero_le _, Nat.zero_le _⟩ dX7_gathers_50 ?_
          refine lv_iload_n hx hb dX7_gathers_53 rfl (lv_at hl 2 rfl) ?_
          refine lv_icmp_ne (tgt := 113) hx hb dX7_gathers_54 (by decide) (fun c54 => ?_) (fun c54 => ?_)
          · have hf := ite_f c54 hf
            refine lv_iinc (v := x4_29 + 1) (lv' := [(4, .int (x4_29 + 1)), (0, .ref za), (1, .ref z6), (2, .int x), (3, .int y)]) hx hb dX7_gathers_113 hl (k := 4) rfl rfl (by decide) rfl (fun ls hl => ?_)
            refine lv_goto (tgt := 29) hx hb dX7_gathers_116 (by decide) ?_
            exact ih29 (x4_29 + 1) z_29 _ _ _ hf hP hD hS (lv_sub hl [1, 2, 3, 4, 0] rfl)
          · have hf := ite_t c54 hf
            refine lv_aload_n hx hb dX7_gathers_57 rfl (lv_at hl 0 rfl) ?_
            refine lv_iload hx hb dX7_gathers_58 (lv_at hl 4 rfl) ?_
            refine lv_aload_n hx hb dX7_gathers_60 rfl (lv_at hl 1 rfl) ?_
            refine lv_aload_n hx hb dX7_gathers_61 rfl (lv_at hl 0 rfl) ?_
            refine lv_iload hx hb dX7_gathers_62 (lv_at hl 4 rfl) ?_
            refine lv_iconst (v := 0) hx hb dX7_gathers_64 (by decide) ?_
            obtain ⟨q65, h65, hf⟩ := bd_some hf
            refine kx_rv (As := [.int x4_29, .int 0]) (rest := [.ref z6, .int x4_29, .ref za]) hx hb hml hown hts hk hP hl.1 s_yX7_of v_yX7_of (c_m_of l D cI cZ cR za z1 z2 z3 z4 z5 z6 z7 z8 z9 z_29 x4_29 0 _ h65) mT_647 rfl rfl ⟨Nat.le_of_ble_eq_true rfl, Nat.le_of_ble_eq_true rfl⟩ (ci := 7) (q0 := 0) rfl rfl rfl (Nat.le_of_ble_eq_true rfl) ⟨Nat.zero_le _, Nat.zero_le _⟩ dX7_gathers_65 ?_
            obtain ⟨b68, hf⟩ := gd_some hf
            refine va_iald (n := 20) (f := z_29 6) hx hb hK hP 6 0 rfl rfl (ck_in b68) dX7_gathers_68 ?_
            refine lv_aload_n hx hb dX7_gathers_69 rfl (lv_at hl 1 rfl) ?_
            refine lv_bipush (v := 10) hx hb dX7_gathers_70 (by decide) ?_
            refine lv_aload_n hx hb dX7_gathers_72 rfl (lv_at hl 0 rfl) ?_
            refine lv_iload hx hb dX7_gathers_73 (lv_at hl 4 rfl) ?_
            refine lv_iconst (v := 0) hx hb dX7_gathers_75 (by decide) ?_
            obtain ⟨q76, h76, hf⟩ := bd_some hf
            refine kx_rv (As := [.int x4_29, .int 0]) (rest := [.int 10, .ref z6, .int ((z_29 6) (Int32.toNatClampNeg q65)), .int x4_29, .ref za]) hx hb hml hown hts hk hP hl.1 s_yX7_of v_yX7_of (c_m_of l D cI cZ cR za z1 z2 z3 z4 z5 z6 z7 z8 z9 z_29 x4_29 0 _ h76) mT_647 rfl rfl ⟨Nat.le_of_ble_eq_true rfl, Nat.le_of_ble_eq_true rfl⟩ (ci := 7) (q0 := 0) rfl rfl rfl (Nat.le_of_ble_eq_true rfl) ⟨Nat.zero_le _, Nat.zero_le _⟩ dX7_gathers_76 ?_
            refine lv_iadd hx hb dX7_gathers_79 ?_
            obtain ⟨b80, hf⟩ := gd_some hf
            refine va_iald (n := 20) (f := z_29 6) hx hb hK hP 6 0 rfl rfl (ck_in b80) dX7_gathers_80 ?_
            obtain ⟨q81, h81, hf⟩ := bd_some hf
            refine kx_wv (As := [.int x4_29, .int ((z_29 6) (Int32.toNatClampNeg q65)), .int ((z_29 6) (Int32.toNatClampNeg (10 + q76)))]) (rest := []) (wc := cModel cI cZ za z1 z2 z3 z4 z5 z6 z7 z8 z9 z_29) (wr := []) (wd := cModel cI cZ za z1 z2 z3 z4 z5 z6 z7 z8 z9 q81) (wn := cModel cI cZ za z1 z2 z3 z4 z5 z6 z7 z8 z9 q81) hx hb hml hown hts hk hP hD hS hA hl.1 s_yX7_brings v_yX7_brings (c_m_brings l D cI cZ cR za z1 z2 z3 z4 z5 z6 z7 z8 z9 z_29 x4_29 ((z_29 6) (Int32.toNatClampNeg q65)) ((z_29 6) (Int32.toNatClampNeg (10 + q76))) H.size _ h81) mT_675 rfl rfl ⟨Nat.le_of_ble_eq_true rfl, Nat.le_of_ble_eq_true rfl⟩ [0, 1, 2, 3, 4, 5, 6, 7, 8, 9] [] [0, 1, 2, 3, 4, 5, 6, 7, 8, 9] rfl rfl (by decide) (by decide) (by decide) (by decide) rfl (ci := 7) (q0 := 0) rfl rfl rfl (Nat.le_of_ble_eq_true rfl) ⟨Nat.zero_le _, Nat.zero_le _⟩ dX7_gathers_81 (fun H locs hP hD hS => ?_)
            refine lv_aload_n hx hb dX7_gathers_84 rfl (lv_at hl 0 rfl) ?_
            refine lv_aload_n hx hb dX7_gathers_85 rfl (lv_at hl 0 rfl) ?_
            refine lv_aload_n hx hb dX7_gathers_86 rfl (lv_at hl 0 rfl) ?_
            refine va_get (D := D) (ci := 7) (v := .int (q81 0 13)) (C := RX7) (T := TX7) (N := 17) hx hb hts inT7 hown hK hP 0 rfl rfl 13 (by decide) (hts _ mT_579) (fun _ h9 => h9) rfl dX7_gathers_87 ?_
            refine lv_aload_n hx hb dX7_gathers_90 rfl (lv_at hl 0 rfl) ?_
            refine va_get (D := D) (ci := 7) (v := .int (q81 0 11)) (C := RX7) (T := TX7) (N := 17) hx hb hts inT7 hown hK hP 0 rfl rfl 11 (by decide) (hts _ mT_577) (fun _ h9 => h9) rfl dX7_gathers_91 ?_
            obtain ⟨q94, h94, hf⟩ := bd_some hf
            refine kx_rv (As := [.int (q81 0 13), .int (q81 0 11)]) (rest := [.ref za]) hx hb hml hown hts hk hP hl.1 s_yX7_both v_yX7_both (c_m_both l D cI cZ cR za z1 z2 z3 z4 z5 z6 z7 z8 z9 q81 (q81 0 13) (q81 0 11) _ h94) mT_631 rfl rfl ⟨Nat.le_of_ble_eq_true rfl, Nat.le_of_ble_eq_true rfl⟩ (ci := 7) (q0 := 0) rfl rfl rfl (Nat.le_of_ble_eq_true rfl) ⟨Nat.zero_le _, Nat.zero_le _⟩ dX7_gathers_94 ?_
            refine va_put (D := D) (ci := 7) (v := .int q94) (ty := .int) (C := RX7) (T := TX7) (N := 17) hx hb hts inT7 tyX7 tyX7_ok nmX7 hown hK hP hD hS 0 rfl rfl 13 (by decide) (hts _ mT_579) (fun _ h9 => h9) rfl (by decide +kernel) rfl rfl (Nat.le_of_ble_eq_true rfl) dX7_gathers_97 (fun H locs hP hD hS => ?_)
            have hP : va_P D vwCl ([(za, .inr (7, [.ref z1, .ref z2, .int (q81 0 2), .ref z3, .ref z4, .int (q81 0 5), .ref z5, .int (q81 0 7), .ref z6, .ref z7, .ref z8, .int (q81 0 11), .int (q81 0 12), .int q94, .int (q81 0 14), .ref z9, .int (q81 0 16)])), (z1, .inl (cI, 367, .inl (q81 1))), (z2, .inl (cI, 5872, .inl (q81 2))), (z3, .inl (cI, 736, .inl (q81 3))), (z4, .inl (cZ, 2, .inl (q81 4))), (z5, .inl (cI, 60, .inl (q81 5))), (z6, .inl (cI, 20, .inl (q81 6))), (z7, .inl (cI, 20, .inl (q81 7))), (z8, .inl (cI, 20, .inl (q81 8))), (z9, .inl (cI, 10, .inl (q81 9)))]) H := hP
            have hD : va_D A ([(za, .inr (7, [.ref z1, .ref z2, .int (q81 0 2), .ref z3, .ref z4, .int (q81 0 5), .ref z5, .int (q81 0 7), .ref z6, .ref z7, .ref z8, .int (q81 0 11), .int (q81 0 12), .int q94, .int (q81 0 14), .ref z9, .int (q81 0 16)])), (z1, .inl (cI, 367, .inl (q81 1))), (z2, .inl (cI, 5872, .inl (q81 2))), (z3, .inl (cI, 736, .inl (q81 3))), (z4, .inl (cZ, 2, .inl (q81 4))), (z5, .inl (cI, 60, .inl (q81 5))), (z6, .inl (cI, 20, .inl (q81 6))), (z7, .inl (cI, 20, .inl (q81 7))), (z8, .inl (cI, 20, .inl (q81 8))), (z9, .inl (cI, 10, .inl (q81 9)))]) := hD
            refine lv_aload_n hx hb dX7_gathers_100 rfl (lv_at hl 0 rfl) ?_
            refine lv_dup hx hb dX7_gathers_101 rfl ?_
            refine va_get (D := D) (ci := 7) (v := .int (q81 0 14)) (C := RX7) (T := TX7) (N := 17) hx hb hts inT7 hown hK hP 0 rfl rfl 14 (by decide) (hts _ mT_580) (fun _ h9 => h9) rfl dX7_gathers_102 ?_
            refine lv_aload_n hx hb dX7_gathers_105 rfl (lv_at hl 0 rfl) ?_
            refine va_get (D := D) (ci := 7) (v := .int (q81 0 12)) (C := RX7) (T := TX7) (N := 17) hx hb hts inT7 hown hK hP 0 rfl rfl 12 (by decide) (hts _ mT_578) (fun _ h9 => h9) rfl dX7_gathers_106 ?_
            refine lv_ior hx hb dX7_gathers_109 ?_
            refine va_put (D := D) (ci := 7) (v := .int ((q81 0 14) ||| (q81 0 12))) (ty := .int) (C := RX7) (T := TX7) (N := 17) hx hb hts inT7 tyX7 tyX7_ok nmX7 hown hK hP hD hS 0 rfl rfl 14 (by decide) (hts _ mT_580) (fun _ h9 => h9) rfl (by decide +kernel) rfl rfl (Nat.le_of_ble_eq_true rfl) dX7_gathers_110 (fun H locs hP hD hS => ?_)
            have hP : va_P D vwCl ([(za, .inr (7, [.ref z1, .ref z2, .int (q81 0 2), .ref z3, .ref z4, .int (q81 0 5), .ref z5, .int (q81 0 7), .ref z6, .ref z7, .ref z8, .int (q81 0 11), .int (q81 0 12), .int q94, .int ((q81 0 14) ||| (q81 0 12)), .ref z9, .int (q81 0 16)])), (z1, .inl (cI, 367, .inl (q81 1))), (z2, .inl (cI, 5872, .inl (q81 2))), (z3, .inl (cI, 736, .inl (q81 3))), (z4, .inl (cZ, 2, .inl (q81 4))), (z5, .inl (cI, 60, .inl (q81 5))), (z6, .inl (cI, 20, .inl (q81 6))), (z7, .inl (cI, 20, .inl (q81 7))), (z8, .inl (cI, 20, .inl (q81 8))), (z9, .inl (cI, 10, .inl (q81 9)))]) H := hP
            have hD : va_D A ([(za, .inr (7, [.ref z1, .ref z2, .int (q81 0 2), .ref z3, .ref z4, .int (q81 0 5), .ref z5, .int (q81 0 7), .ref z6, .ref z7, .ref z8, .int (q81 0 11), .int (q81 0 12), .int q94, .int ((q81 0 14) ||| (q81 0 12)), .ref z9, .int (q81 0 16)])), (z1, .inl (cI, 367, .inl (q81 1))), (z2, .inl (cI, 5872, .inl (q81 2))), (z3, .inl (cI, 736, .inl (q81 3))), (z4, .inl (cZ, 2, .inl (q81 4))), (z5, .inl (cI, 60, .inl (q81 5))), (z6, .inl (cI, 20, .inl (q81 6))), (z7, .inl (cI, 20, .inl (q81 7))), (z8, .inl (cI, 20, .inl (q81 8))), (z9, .inl (cI, 10, .inl (q81 9)))]) := hD
            refine lv_iinc (v := x4_29 + 1) (lv' := [(4, .int (x4_29 + 1)), (0, .ref za), (1, .ref z6), (2, .int x), (3, .int y)]) hx hb dX7_gathers_113 hl (k := 4) rfl rfl (by decide) rfl (fun ls hl => ?_)
            refine lv_goto (tgt := 29) hx hb dX7_gathers_116 (by decide) ?_
            exact ih29 (x4_29 + 1) (sI (sI q81 13 q94) 14 ((q81 0 14) ||| (q81 0 12))) _ _ _ hf hP hD hS (lv_sub hl [1, 2, 3, 4, 0] rfl)
  exact lh29 10000 0 (sI (sI z 13 ((z 1) (Int32.toNatClampNeg (67 + x)))) 14 ((z 1) (Int32.toNatClampNeg (77 + x)))) _ _ _ hf hP hD hS (lv_sub hl [1, 2, 3, 4, 0] rfl)
set_option maxHeartbeats 4000000 in
set_option maxRecDepth 100000 in
theorem c_m_gathers7 (l : Launch) (D : va_G) (cI cZ cR : ClassId) (za z1 z2 z3 z4 z5 z6 z7 z8 z9 : Nat) (z : Ob) (x : Int32) (y : Int32) (sz : Nat) (u : Ob) (hf : f_m_gathers 7 z x y = some u) : kCv l yX7_gathers cX7_gathers 5 none { frames := 3, cells := 0, slots := 0, locals := 68 } [.ref za, .ref z7, .int x, .int y] D cI cZ cR (cModel cI cZ za z1 z2 z3 z4 z5 z6 z7 z8 z9 z) sz (cModel cI cZ za z1 z2 z3 z4 z5 z6 z7 z8 z9 u) := by
  refine kMwv (wf := (fun u : Ob => cModel cI cZ za z1 z2 z3 z4 z5 z6 z7 z8 z9 u)) (u := u) (by decide) (Nat.le_of_ble_eq_true rfl) ?_
  intro p e s m below meth c Q A hx hb hml hown hts hk hP hD hA hS hret ls hl
  have hS0 := hS
  have hK := hk.1
  have hl : lv_has ls 5 [(0, .ref za), (1, .ref z7), (2, .int x), (3, .int y)] := hl
  rw [f_m_gathers] at hf
  refine lv_aload_n hx hb dX7_gathers_0 rfl (lv_at hl 0 rfl) ?_
  refine lv_aload_n hx hb dX7_gathers_1 rfl (lv_at hl 0 rfl) ?_
  refine va_get (D := D) (ci := 7) (v := .ref z1) (C := RX7) (T := TX7) (N := 17) hx hb hts inT7 hown hK hP 0 rfl rfl 0 (by decide) (hts _ mT_566) (fun _ h9 => h9) rfl dX7_gathers_2 ?_
  refine lv_bipush (v := 67) hx hb dX7_gathers_5 (by decide) ?_
  refine lv_iload_n hx hb dX7_gathers_7 rfl (lv_at hl 2 rfl) ?_
  refine lv_iadd hx hb dX7_gathers_8 ?_
  obtain ⟨b9, hf⟩ := gd_some hf
  refine va_iald (n := 367) (f := z 1) hx hb hK hP 1 0 rfl rfl (ck_in b9) dX7_gathers_9 ?_
  refine va_put (D := D) (ci := 7) (v := .int ((z 1) (Int32.toNatClampNeg (67 + x)))) (ty := .int) (C := RX7) (T := TX7) (N := 17) hx hb hts inT7 tyX7 tyX7_ok nmX7 hown hK hP hD hS 0 rfl rfl 13 (by decide) (hts _ mT_579) (fun _ h9 => h9) rfl (by decide +kernel) rfl rfl (Nat.le_of_ble_eq_true rfl) dX7_gathers_10 (fun H locs hP hD hS => ?_)
  have hP : va_P D vwCl ([(za, .inr (7, [.ref z1, .ref z2, .int (z 0 2), .ref z3, .ref z4, .int (z 0 5), .ref z5, .int (z 0 7), .ref z6, .ref z7, .ref z8, .int (z 0 11), .int (z 0 12), .int ((z 1) (Int32.toNatClampNeg (67 + x))), .int (z 0 14), .ref z9, .int (z 0 16)])), (z1, .inl (cI, 367, .inl (z 1))), (z2, .inl (cI, 5872, .inl (z 2))), (z3, .inl (cI, 736, .inl (z 3))), (z4, .inl (cZ, 2, .inl (z 4))), (z5, .inl (cI, 60, .inl (z 5))), (z6, .inl (cI, 20, .inl (z 6))), (z7, .inl (cI, 20, .inl (z 7))), (z8, .inl (cI, 20, .inl (z 8))), (z9, .inl (cI, 10, .inl (z 9)))]) H := hP
  have hD : va_D A ([(za, .inr (7, [.ref z1, .ref z2, .int (z 0 2), .ref z3, .ref z4, .int (z 0 5), .ref z5, .int (z 0 7), .ref z6, .ref z7, .ref z8, .int (z 0 11), .int (z 0 12), .int ((z 1) (Int32.toNatClampNeg (67 + x))), .int (z 0 14), .ref z9, .int (z 0 16)])), (z1, .inl (cI, 367, .inl (z 1))), (z2, .inl (cI, 5872, .inl (z 2))), (z3, .inl (cI, 736, .inl (z 3))), (z4, .inl (cZ, 2, .inl (z 4))), (z5, .inl (cI, 60, .inl (z 5))), (z6, .inl (cI, 20, .inl (z 6))), (z7, .inl (cI, 20, .inl (z 7))), (z8, .inl (cI, 20, .inl (z 8))), (z9, .inl (cI, 10, .inl (z 9)))]) := hD
  refine lv_aload_n hx hb dX7_gathers_13 rfl (lv_at hl 0 rfl) ?_
  refine lv_aload_n hx hb dX7_gathers_14 rfl (lv_at hl 0 rfl) ?_
  refine va_get (D := D) (ci := 7) (v := .ref z1) (C := RX7) (T := TX7) (N := 17) hx hb hts inT7 hown hK hP 0 rfl rfl 0 (by decide) (hts _ mT_566) (fun _ h9 => h9) rfl dX7_gathers_15 ?_
  refine lv_bipush (v := 77) hx hb dX7_gathers_18 (by decide) ?_
  refine lv_iload_n hx hb dX7_gathers_20 rfl (lv_at hl 2 rfl) ?_
  refine lv_iadd hx hb dX7_gathers_21 ?_
  obtain ⟨b22, hf⟩ := gd_some hf
  refine va_iald (n := 367) (f := z 1) hx hb hK hP 1 0 rfl rfl (ck_in b22) dX7_gathers_22 ?_
  refine va_put (D := D) (ci := 7) (v := .int ((z 1) (Int32.toNatClampNeg (77 + x)))) (ty := .int) (C := RX7) (T := TX7) (N := 17) hx hb hts inT7 tyX7 tyX7_ok nmX7 hown hK hP hD hS 0 rfl rfl 14 (by decide) (hts _ mT_580) (fun _ h9 => h9) rfl (by decide +kernel) rfl rfl (Nat.le_of_ble_eq_true rfl) dX7_gathers_23 (fun H locs hP hD hS => ?_)
  have hP : va_P D vwCl ([(za, .inr (7, [.ref z1, .ref z2, .int (z 0 2), .ref z3, .ref z4, .int (z 0 5), .ref z5, .int (z 0 7), .ref z6, .ref z7, .ref z8, .int (z 0 11), .int (z 0 12), .int ((z 1) (Int32.toNatClampNeg (67 + x))), .int ((z 1) (Int32.toNatClampNeg (77 + x))), .ref z9, .int (z 0 16)])), (z1, .inl (cI, 367, .inl (z 1))), (z2, .inl (cI, 5872, .inl (z 2))), (z3, .inl (cI, 736, .inl (z 3))), (z4, .inl (cZ, 2, .inl (z 4))), (z5, .inl (cI, 60, .inl (z 5))), (z6, .inl (cI, 20, .inl (z 6))), (z7, .inl (cI, 20, .inl (z 7))), (z8, .inl (cI, 20, .inl (z 8))), (z9, .inl (cI, 10, .inl (z 9)))]) H := hP
  have hD : va_D A ([(za, .inr (7, [.ref z1, .ref z2, .int (z 0 2), .ref z3, .ref z4, .int (z 0 5), .ref z5, .int (z 0 7), .ref z6, .ref z7, .ref z8, .int (z 0 11), .int (z 0 12), .int ((z 1) (Int32.toNatClampNeg (67 + x))), .int ((z 1) (Int32.toNatClampNeg (77 + x))), .ref z9, .int (z 0 16)])), (z1, .inl (cI, 367, .inl (z 1))), (z2, .inl (cI, 5872, .inl (z 2))), (z3, .inl (cI, 736, .inl (z 3))), (z4, .inl (cZ, 2, .inl (z 4))), (z5, .inl (cI, 60, .inl (z 5))), (z6, .inl (cI, 20, .inl (z 6))), (z7, .inl (cI, 20, .inl (z 7))), (z8, .inl (cI, 20, .inl (z 8))), (z9, .inl (cI, 10, .inl (z 9)))]) := hD
  refine lv_iconst (v := 0) hx hb dX7_gathers_26 (by decide) ?_
  refine lv_istore (lv' := [(4, .int 0), (0, .ref za), (1, .ref z7), (2, .int x), (3, .int y)]) hx hb dX7_gathers_27 hl (by decide) rfl (fun ls hl => ?_)
  have kx29 : ∀ (x4_29 : Int32) (z_29 : Ob) (H : Heap) (locs : List Loc) (ls : Array Slot), k_m_gathers_29 x4_29 z_29 = some u → va_P D vwCl (cModel cI cZ za z1 z2 z3 z4 z5 z6 z7 z8 z9 z_29) H → va_D A (cModel cI cZ za z1 z2 z3 z4 z5 z6 z7 z8 z9 z_29) → va_S A s.heap H locs → lv_has ls 5 [(0, .ref za), (1, .ref z7), (2, .int x), (3, .int y), (4, .int x4_29)] → W p l e ({ frames := 3, cells := 0, slots := 0, locals := 68 } : Room) s m ([.ref za, .ref z7, .int x, .int y] : List Value).toArray below meth c H locs 0 0 Q (F0 m 119 ls []) := by
    intro x4_29 z_29 H locs ls hf hP hD hS hl
    rw [k_m_gathers_29] at hf
    exact hret _ _ z_29 _ _ hf dX7_gathers_119 hP hD hS
  have lh29 : ∀ (fu29 : Nat) (x4_29 : Int32) (z_29 : Ob) (H : Heap) (locs : List Loc) (ls : Array Slot), lp_m_gathers_29 7 x y k_m_gathers_29 fu29 x4_29 z_29 = some u → va_P D vwCl (cModel cI cZ za z1 z2 z3 z4 z5 z6 z7 z8 z9 z_29) H → va_D A (cModel cI cZ za z1 z2 z3 z4 z5 z6 z7 z8 z9 z_29) → va_S A s.heap H locs → lv_has ls 5 [(0, .ref za), (1, .ref z7), (2, .int x), (3, .int y), (4, .int x4_29)] → W p l e ({ frames := 3, cells := 0, slots := 0, locals := 68 } : Room) s m ([.ref za, .ref z7, .int x, .int y] : List Value).toArray below meth c H locs 0 0 Q (F0 m 29 ls []) := by
    intro fu29
    induction fu29 with
    | zero => intro x4_29 z_29 H locs ls hf hP hD hS hl; exact no_none hf
    | succ fu29 ih29 =>
      intro x4_29 z_29 H locs ls hf hP hD hS hl
      rw [lp_m_gathers_29] at hf
      refine lv_iload hx hb dX7_gathers_29 (lv_at hl 4 rfl) ?_
      refine lv_aload_n hx hb dX7_gathers_31 rfl (lv_at hl 0 rfl) ?_
      refine va_get (D := D) (ci := 7) (v := .ref z1) (C := RX7) (T := TX7) (N := 17) hx hb hts inT7 hown hK hP 0 rfl rfl 0 (by decide) (hts _ mT_566) (fun _ h9 => h9) rfl dX7_gathers_32 ?_
      refine lv_iconst (v := 2) hx hb dX7_gathers_35 (by decide) ?_
      refine va_iald (n := 367) (f := z_29 1) hx hb hK hP 1 0 rfl rfl (ck_in (by decide)) dX7_gathers_36 ?_
      refine lv_icmp_ge (tgt := 119) hx hb dX7_gathers_37 (by decide) (fun c37 => ?_) (fun c37 => ?_)
      · have hf := ite_t c37 hf
        exact kx29 x4_29 z_29 _ _ _ hf hP hD hS (lv_sub hl [0, 1, 2, 3, 4] rfl)
      · have hf := ite_f c37 hf
        refine lv_iload hx hb dX7_gathers_40 (lv_at hl 4 rfl) ?_
        refine lv_iload_n hx hb dX7_gathers_42 rfl (lv_at hl 3 rfl) ?_
        refine lv_icmp_eq (tgt := 113) hx hb dX7_gathers_43 (by decide) (fun c43 => ?_) (fun c43 => ?_)
        · have hf := ite_t c43 hf
          refine lv_iinc (v := x4_29 + 1) (lv' := [(4, .int (x4_29 + 1)), (0, .ref za), (1, .ref z7), (2, .int x), (3, .int y)]) hx hb dX7_gathers_113 hl (k := 4) rfl rfl (by decide) rfl (fun ls hl => ?_)
          refine lv_goto (tgt := 29) hx hb dX7_gathers_116 (by decide) ?_
          exact ih29 (x4_29 + 1) z_29 _ _ _ hf hP hD hS (lv_sub hl [1, 2, 3, 4, 0] rfl)
        · have hf := ite_f c43 hf
          refine lv_aload_n hx hb dX7_gathers_46 rfl (lv_at hl 0 rfl) ?_
          refine lv_iload hx hb dX7_gathers_47 (lv_at hl 4 rfl) ?_
          refine lv_iconst (v := 1) hx hb dX7_gathers_49 (by decide) ?_
          obtain ⟨q50, h50, hf⟩ := bd_some hf
          refine kx_rv (As := [.int x4_29, .int 1]) (rest := []) hx hb hml hown hts hk hP hl.1 s_yX7_of v_yX7_of (c_m_of l D cI cZ cR za z1 z2 z3 z4 z5 z6 z7 z8 z9 z_29 x4_29 1 _ h50) mT_647 rfl rfl ⟨Nat.le_of_ble_eq_true rfl, Nat.le_of_ble_eq_true rfl⟩ (ci := 7) (q0 := 0) rfl rfl rfl (Nat.le_of_ble_eq_true rfl) ⟨Nat.zero_le _, Nat.zero_le _⟩ dX7_gathers_50 ?_
          refine lv_iload_n hx hb dX7_gathers_53 rfl (lv_at hl 2 rfl) ?_
          refine lv_icmp_ne (tgt := 113) hx hb dX7_gathers_54 (by decide) (fun c54 => ?_) (fun c54 => ?_)
          · have hf := ite_f c54 hf
            refine lv_iinc (v := x4_29 + 1) (lv' := [(4, .int (x4_29 + 1)), (0, .ref za), (1, .ref z7), (2, .int x), (3, .int y)]) hx hb dX7_gathers_113 hl (k := 4) rfl rfl (by decide) rfl (fun ls hl => ?_)
            refine lv_goto (tgt := 29) hx hb dX7_gathers_116 (by decide) ?_
            exact ih29 (x4_29 + 1) z_29 _ _ _ hf hP hD hS (lv_sub hl [1, 2, 3, 4, 0] rfl)
          · have hf := ite_t c54 hf
            refine lv_aload_n hx hb dX7_gathers_57 rfl (lv_at hl 0 rfl) ?_
            refine lv_iload hx hb dX7_gathers_58 (lv_at hl 4 rfl) ?_
            refine lv_aload_n hx hb dX7_gathers_60 rfl (lv_at hl 1 rfl) ?_
            refine lv_aload_n hx hb dX7_gathers_61 rfl (lv_at hl 0 rfl) ?_
            refine lv_iload hx hb dX7_gathers_62 (lv_at hl 4 rfl) ?_
            refine lv_iconst (v := 0) hx hb dX7_gathers_64 (by decide) ?_
            obtain ⟨q65, h65, hf⟩ := bd_some hf
            refine kx_rv (As := [.int x4_29, .int 0]) (rest := [.ref z7, .int x4_29, .ref za]) hx hb hml hown hts hk hP hl.1 s_yX7_of v_yX7_of (c_m_of l D cI cZ cR za z1 z2 z3 z4 z5 z6 z7 z8 z9 z_29 x4_29 0 _ h65) mT_647 rfl rfl ⟨Nat.le_of_ble_eq_true rfl, Nat.le_of_ble_eq_true rfl⟩ (ci := 7) (q0 := 0) rfl rfl rfl (Nat.le_of_ble_eq_true rfl) ⟨Nat.zero_le _, Nat.zero_le _⟩ dX7_gathers_65 ?_
            obtain ⟨b68, hf⟩ := gd_some hf
            refine va_iald (n := 20) (f := z_29 7) hx hb hK hP 7 0 rfl rfl (ck_in b68) dX7_gathers_68 ?_
            refine lv_aload_n hx hb dX7_gathers_69 rfl (lv_at hl 1 rfl) ?_
            refine lv_bipush (v := 10) hx hb dX7_gathers_70 (by decide) ?_
            refine lv_aload_n hx hb dX7_gathers_72 rfl (lv_at hl 0 rfl) ?_
            refine lv_iload hx hb dX7_gathers_73 (lv_at hl 4 rfl) ?_
            refine lv_iconst (v := 0) hx hb dX7_gathers_75 (by decide) ?_
            obtain ⟨q76, h76, hf⟩ := bd_some hf
            refine kx_rv (As := [.int x4_29, .int 0]) (rest := [.int 10, .ref z7, .int ((z_29 7) (Int32.toNatClampNeg q65)), .int x4_29, .ref za]) hx hb hml hown hts hk hP hl.1 s_yX7_of v_yX7_of (c_m_of l D cI cZ cR za z1 z2 z3 z4 z5 z6 z7 z8 z9 z_29 x4_29 0 _ h76) mT_647 rfl rfl ⟨Nat.le_of_ble_eq_true rfl, Nat.le_of_ble_eq_true rfl⟩ (ci := 7) (q0 := 0) rfl rfl rfl (Nat.le_of_ble_eq_true rfl) ⟨Nat.zero_le _, Nat.zero_le _⟩ dX7_gathers_76 ?_
            refine lv_iadd hx hb dX7_gathers_79 ?_
            obtain ⟨b80, hf⟩ := gd_some hf
            refine va_iald (n := 20) (f := z_29 7) hx hb hK hP 7 0 rfl rfl (ck_in b80) dX7_gathers_80 ?_
            obtain ⟨q81, h81, hf⟩ := bd_some hf
            refine kx_wv (As := [.int x4_29, .int ((z_29 7) (Int32.toNatClampNeg q65)), .int ((z_29 7) (Int32.toNatClampNeg (10 + q76)))]) (rest := []) (wc := cModel cI cZ za z1 z2 z3 z4 z5 z6 z7 z8 z9 z_29) (wr := []) (wd := cModel cI cZ za z1 z2 z3 z4 z5 z6 z7 z8 z9 q81) (wn := cModel cI cZ za z1 z2 z3 z4 z5 z6 z7 z8 z9 q81) hx hb hml hown hts hk hP hD hS hA hl.1 s_yX7_brings v_yX7_brings (c_m_brings l D cI cZ cR za z1 z2 z3 z4 z5 z6 z7 z8 z9 z_29 x4_29 ((z_29 7) (Int32.toNatClampNeg q65)) ((z_29 7) (Int32.toNatClampNeg (10 + q76))) H.size _ h81) mT_675 rfl rfl ⟨Nat.le_of_ble_eq_true rfl, Nat.le_of_ble_eq_true rfl⟩ [0, 1, 2, 3, 4, 5, 6, 7, 8, 9] [] [0, 1, 2, 3, 4, 5, 6, 7, 8, 9] rfl rfl (by decide) (by decide) (by decide) (by decide) rfl (ci := 7) (q0 := 0) rfl rfl rfl (Nat.le_of_ble_eq_true rfl) ⟨Nat.zero_le _, Nat.zero_le _⟩ dX7_gathers_81 (fun H locs hP hD hS => ?_)
            refine lv_aload_n hx hb dX7_gathers_84 rfl (lv_at hl 0 rfl) ?_
            refine lv_aload_n hx hb dX7_gathers_85 rfl (lv_at hl 0 rfl) ?_
            refine lv_aload_n hx hb dX7_gathers_86 rfl (lv_at hl 0 rfl) ?_
            refine va_get (D := D) (ci := 7) (v := .int (q81 0 13)) (C := RX7) (T := TX7) (N := 17) hx hb hts inT7 hown hK hP 0 rfl rfl 13 (by decide) (hts _ mT_579) (fun _ h9 => h9) rfl dX7_gathers_87 ?_
            refine lv_aload_n hx hb dX7_gathers_90 rfl (lv_at hl 0 rfl) ?_
            refine va_get (D := D) (ci := 7) (v := .int (q81 0 11)) (C := RX7) (T := TX7) (N := 17) hx hb hts inT7 hown hK hP 0 rfl rfl 11 (by decide) (hts _ mT_577) (fun _ h9 => h9) rfl dX7_gathers_91 ?_
            obtain ⟨q94, h94, hf⟩ := bd_some hf
            refine kx_rv (As := [.int (q81 0 13), .int (q81 0 11)]) (rest := [.ref za]) hx hb hml hown hts hk hP hl.1 s_yX7_both v_yX7_both (c_m_both l D cI cZ cR za z1 z2 z3 z4 z5 z6 z7 z8 z9 q81 (q81 0 13) (q81 0 11) _ h94) mT_631 rfl rfl ⟨Nat.le_of_ble_eq_true rfl, Nat.le_of_ble_eq_true rfl⟩ (ci := 7) (q0 := 0) rfl rfl rfl (Nat.le_of_ble_eq_true rfl) ⟨Nat.zero_le _, Nat.zero_le _⟩ dX7_gathers_94 ?_
            refine va_put (D := D) (ci := 7) (v := .int q94) (ty := .int) (C := RX7) (T := TX7) (N := 17) hx hb hts inT7 tyX7 tyX7_ok nmX7 hown hK hP hD hS 0 rfl rfl 13 (by decide) (hts _ mT_579) (fun _ h9 => h9) rfl (by decide +kernel) rfl rfl (Nat.le_of_ble_eq_true rfl) dX7_gathers_97 (fun H locs hP hD hS => ?_)
            have hP : va_P D vwCl ([(za, .inr (7, [.ref z1, .ref z2, .int (q81 0 2), .ref z3, .ref z4, .int (q81 0 5), .ref z5, .int (q81 0 7), .ref z6, .ref z7, .ref z8, .int (q81 0 11), .int (q81 0 12), .int q94, .int (q81 0 14), .ref z9, .int (q81 0 16)])), (z1, .inl (cI, 367, .inl (q81 1))), (z2, .inl (cI, 5872, .inl (q81 2))), (z3, .inl (cI, 736, .inl (q81 3))), (z4, .inl (cZ, 2, .inl (q81 4))), (z5, .inl (cI, 60, .inl (q81 5))), (z6, .inl (cI, 20, .inl (q81 6))), (z7, .inl (cI, 20, .inl (q81 7))), (z8, .inl (cI, 20, .inl (q81 8))), (z9, .inl (cI, 10, .inl (q81 9)))]) H := hP
            have hD : va_D A ([(za, .inr (7, [.ref z1, .ref z2, .int (q81 0 2), .ref z3, .ref z4, .int (q81 0 5), .ref z5, .int (q81 0 7), .ref z6, .ref z7, .ref z8, .int (q81 0 11), .int (q81 0 12), .int q94, .int (q81 0 14), .ref z9, .int (q81 0 16)])), (z1, .inl (cI, 367, .inl (q81 1))), (z2, .inl (cI, 5872, .inl (q81 2))), (z3, .inl (cI, 736, .inl (q81 3))), (z4, .inl (cZ, 2, .inl (q81 4))), (z5, .inl (cI, 60, .inl (q81 5))), (z6, .inl (cI, 20, .inl (q81 6))), (z7, .inl (cI, 20, .inl (q81 7))), (z8, .inl (cI, 20, .inl (q81 8))), (z9, .inl (cI, 10, .inl (q81 9)))]) := hD
            refine lv_aload_n hx hb dX7_gathers_100 rfl (lv_at hl 0 rfl) ?_
            refine lv_dup hx hb dX7_gathers_101 rfl ?_
            refine va_get (D := D) (ci := 7) (v := .int (q81 0 14)) (C := RX7) (T := TX7) (N := 17) hx hb hts inT7 hown hK hP 0 rfl rfl 14 (by decide) (hts _ mT_580) (fun _ h9 => h9) rfl dX7_gathers_102 ?_
            refine lv_aload_n hx hb dX7_gathers_105 rfl (lv_at hl 0 rfl) ?_
            refine va_get (D := D) (ci := 7) (v := .int (q81 0 12)) (C := RX7) (T := TX7) (N := 17) hx hb hts inT7 hown hK hP 0 rfl rfl 12 (by decide) (hts _ mT_578) (fun _ h9 => h9) rfl dX7_gathers_106 ?_
            refine lv_ior hx hb dX7_gathers_109 ?_
            refine va_put (D := D) (ci := 7) (v := .int ((q81 0 14) ||| (q81 0 12))) (ty := .int) (C := RX7) (T := TX7) (N := 17) hx hb hts inT7 tyX7 tyX7_ok nmX7 hown hK hP hD hS 0 rfl rfl 14 (by decide) (hts _ mT_580) (fun _ h9 => h9) rfl (by decide +kernel) rfl rfl (Nat.le_of_ble_eq_true rfl) dX7_gathers_110 (fun H locs hP hD hS => ?_)
            have hP : va_P D vwCl ([(za, .inr (7, [.ref z1, .ref z2, .int (q81 0 2), .ref z3, .ref z4, .int (q81 0 5), .ref z5, .int (q81 0 7), .ref z6, .ref z7, .ref z8, .int (q81 0 11), .int (q81 0 12), .int q94, .int ((q81 0 14) ||| (q81 0 12)), .ref z9, .int (q81 0 16)])), (z1, .inl (cI, 367, .inl (q81 1))), (z2, .inl (cI, 5872, .inl (q81 2))), (z3, .inl (cI, 736, .inl (q81 3))), (z4, .inl (cZ, 2, .inl (q81 4))), (z5, .inl (cI, 60, .inl (q81 5))), (z6, .inl (cI, 20, .inl (q81 6))), (z7, .inl (cI, 20, .inl (q81 7))), (z8, .inl (cI, 20, .inl (q81 8))), (z9, .inl (cI, 10, .inl (q81 9)))]) H := hP
            have hD : va_D A ([(za, .inr (7, [.ref z1, .ref z2, .int (q81 0 2), .ref z3, .ref z4, .int (q81 0 5), .ref z5, .int (q81 0 7), .ref z6, .ref z7, .ref z8, .int (q81 0 11), .int (q81 0 12), .int q94, .int ((q81 0 14) ||| (q81 0 12)), .ref z9, .int (q81 0 16)])), (z1, .inl (cI, 367, .inl (q81 1))), (z2, .inl (cI, 5872, .inl (q81 2))), (z3, .inl (cI, 736, .inl (q81 3))), (z4, .inl (cZ, 2, .inl (q81 4))), (z5, .inl (cI, 60, .inl (q81 5))), (z6, .inl (cI, 20, .inl (q81 6))), (z7, .inl (cI, 20, .inl (q81 7))), (z8, .inl (cI, 20, .inl (q81 8))), (z9, .inl (cI, 10, .inl (q81 9)))]) := hD
            refine lv_iinc (v := x4_29 + 1) (lv' := [(4, .int (x4_29 + 1)), (0, .ref za), (1, .ref z7), (2, .int x), (3, .int y)]) hx hb dX7_gathers_113 hl (k := 4) rfl rfl (by decide) rfl (fun ls hl => ?_)
            refine lv_goto (tgt := 29) hx hb dX7_gathers_116 (by decide) ?_
            exact ih29 (x4_29 + 1) (sI (sI q81 13 q94) 14 ((q81 0 14) ||| (q81 0 12))) _ _ _ hf hP hD hS (lv_sub hl [1, 2, 3, 4, 0] rfl)
  exact lh29 10000 0 (sI (sI z 13 ((z 1) (Int32.toNatClampNeg (67 + x)))) 14 ((z 1) (Int32.toNatClampNeg (77 + x)))) _ _ _ hf hP hD hS (lv_sub hl [1, 2, 3, 4, 0] rfl)
set_option maxHeartbeats 4000000 in
set_option maxRecDepth 100000 in
theorem c_m_gathers8 (l : Launch) (D : va_G) (cI cZ cR : ClassId) (za z1 z2 z3 z4 z5 z6 z7 z8 z9 : Nat) (z : Ob) (x : Int32) (y : Int32) (sz : Nat) (u : Ob) (hf : f_m_gathers 8 z x y = some u) : kCv l yX7_gathers cX7_gathers 5 none { frames := 3, cells := 0, slots := 0, locals := 68 } [.ref za, .ref z8, .int x, .int y] D cI cZ cR (cModel cI cZ za z1 z2 z3 z4 z5 z6 z7 z8 z9 z) sz (cModel cI cZ za z1 z2 z3 z4 z5 z6 z7 z8 z9 u) := by
  refine kMwv (wf := (fun u : Ob => cModel cI cZ za z1 z2 z3 z4 z5 z6 z7 z8 z9 u)) (u := u) (by decide) (Nat.le_of_ble_eq_true rfl) ?_
  intro p e s m below meth c Q A hx hb hml hown hts hk hP hD hA hS hret ls hl
  have hS0 := hS
  have hK := hk.1
  have hl : lv_has ls 5 [(0, .ref za), (1, .ref z8), (2, .int x), (3, .int y)] := hl
  rw [f_m_gathers] at hf
  refine lv_aload_n hx hb dX7_gathers_0 rfl (lv_at hl 0 rfl) ?_
  refine lv_aload_n hx hb dX7_gathers_1 rfl (lv_at hl 0 rfl) ?_
  refine va_get (D := D) (ci := 7) (v := .ref z1) (C := RX7) (T := TX7) (N := 17) hx hb hts inT7 hown hK hP 0 rfl rfl 0 (by decide) (hts _ mT_566) (fun _ h9 => h9) rfl dX7_gathers_2 ?_
  refine lv_bipush (v := 67) hx hb dX7_gathers_5 (by decide) ?_
  refine lv_iload_n hx hb dX7_gathers_7 rfl (lv_at hl 2 rfl) ?_
  refine lv_iadd hx hb dX7_gathers_8 ?_
  obtain ⟨b9, hf⟩ := gd_some hf
  refine va_iald (n := 367) (f := z 1) hx hb hK hP 1 0 rfl rfl (ck_in b9) dX7_gathers_9 ?_
  refine va_put (D := D) (ci := 7) (v := .int ((z 1) (Int32.toNatClampNeg (67 + x)))) (ty := .int) (C := RX7) (T := TX7) (N := 17) hx hb hts inT7 tyX7 tyX7_ok nmX7 hown hK hP hD hS 0 rfl rfl 13 (by decide) (hts _ mT_579) (fun _ h9 => h9) rfl (by decide +kernel) rfl rfl (Nat.le_of_ble_eq_true rfl) dX7_gathers_10 (fun H locs hP hD hS => ?_)
  have hP : va_P D vwCl ([(za, .inr (7, [.ref z1, .ref z2, .int (z 0 2), .ref z3, .ref z4, .int (z 0 5), .ref z5, .int (z 0 7), .ref z6, .ref z7, .ref z8, .int (z 0 11), .int (z 0 12), .int ((z 1) (Int32.toNatClampNeg (67 + x))), .int (z 0 14), .ref z9, .int (z 0 16)])), (z1, .inl (cI, 367, .inl (z 1))), (z2, .inl (cI, 5872, .inl (z 2))), (z3, .inl (cI, 736, .inl (z 3))), (z4, .inl (cZ, 2, .inl (z 4))), (z5, .inl (cI, 60, .inl (z 5))), (z6, .inl (cI, 20, .inl (z 6))), (z7, .inl (cI, 20, .inl (z 7))), (z8, .inl (cI, 20, .inl (z 8))), (z9, .inl (cI, 10, .inl (z 9)))]) H := hP
  have hD : va_D A ([(za, .inr (7, [.ref z1, .ref z2, .int (z 0 2), .ref z3, .ref z4, .int (z 0 5), .ref z5, .int (z 0 7), .ref z6, .ref z7, .ref z8, .int (z 0 11), .int (z 0 12), .int ((z 1) (Int32.toNatClampNeg (67 + x))), .int (z 0 14), .ref z9, .int (z 0 16)])), (z1, .inl (cI, 367, .inl (z 1))), (z2, .inl (cI, 5872, .inl (z 2))), (z3, .inl (cI, 736, .inl (z 3))), (z4, .inl (cZ, 2, .inl (z 4))), (z5, .inl (cI, 60, .inl (z 5))), (z6, .inl (cI, 20, .inl (z 6))), (z7, .inl (cI, 20, .inl (z 7))), (z8, .inl (cI, 20, .inl (z 8))), (z9, .inl (cI, 10, .inl (z 9)))]) := hD
  refine lv_aload_n hx hb dX7_gathers_13 rfl (lv_at hl 0 rfl) ?_
  refine lv_aload_n hx hb dX7_gathers_14 rfl (lv_at hl 0 rfl) ?_
  refine va_get (D := D) (ci := 7) (v := .ref z1) (C := RX7) (T := TX7) (N := 17) hx hb hts inT7 hown hK hP 0 rfl rfl 0 (by decide) (hts _ mT_566) (fun _ h9 => h9) rfl dX7_gathers_15 ?_
  refine lv_bipush (v := 77) hx hb dX7_gathers_18 (by decide) ?_
  refine lv_iload_n hx hb dX7_gathers_20 rfl (lv_at hl 2 rfl) ?_
  refine lv_iadd hx hb dX7_gathers_21 ?_
  obtain ⟨b22, hf⟩ := gd_some hf
  refine va_iald (n := 367) (f := z 1) hx hb hK hP 1 0 rfl rfl (ck_in b22) dX7_gathers_22 ?_
  refine va_put (D := D) (ci := 7) (v := .int ((z 1) (Int32.toNatClampNeg (77 + x)))) (ty := .int) (C := RX7) (T := TX7) (N := 17) hx hb hts inT7 tyX7 tyX7_ok nmX7 hown hK hP hD hS 0 rfl rfl 14 (by decide) (hts _ mT_580) (fun _ h9 => h9) rfl (by decide +kernel) rfl rfl (Nat.le_of_ble_eq_true rfl) dX7_gathers_23 (fun H locs hP hD hS => ?_)
  have hP : va_P D vwCl ([(za, .inr (7, [.ref z1, .ref z2, .int (z 0 2), .ref z3, .ref z4, .int (z 0 5), .ref z5, .int (z 0 7), .ref z6, .ref z7, .ref z8, .int (z 0 11), .int (z 0 12), .int ((z 1) (Int32.toNatClampNeg (67 + x))), .int ((z 1) (Int32.toNatClampNeg (77 + x))), .ref z9, .int (z 0 16)])), (z1, .inl (cI, 367, .inl (z 1))), (z2, .inl (cI, 5872, .inl (z 2))), (z3, .inl (cI, 736, .inl (z 3))), (z4, .inl (cZ, 2, .inl (z 4))), (z5, .inl (cI, 60, .inl (z 5))), (z6, .inl (cI, 20, .inl (z 6))), (z7, .inl (cI, 20, .inl (z 7))), (z8, .inl (cI, 20, .inl (z 8))), (z9, .inl (cI, 10, .inl (z 9)))]) H := hP
  have hD : va_D A ([(za, .inr (7, [.ref z1, .ref z2, .int (z 0 2), .ref z3, .ref z4, .int (z 0 5), .ref z5, .int (z 0 7), .ref z6, .ref z7, .ref z8, .int (z 0 11), .int (z 0 12), .int ((z 1) (Int32.toNatClampNeg (67 + x))), .int ((z 1) (Int32.toNatClampNeg (77 + x))), .ref z9, .int (z 0 16)])), (z1, .inl (cI, 367, .inl (z 1))), (z2, .inl (cI, 5872, .inl (z 2))), (z3, .inl (cI, 736, .inl (z 3))), (z4, .inl (cZ, 2, .inl (z 4))), (z5, .inl (cI, 60, .inl (z 5))), (z6, .inl (cI, 20, .inl (z 6))), (z7, .inl (cI, 20, .inl (z 7))), (z8, .inl (cI, 20, .inl (z 8))), (z9, .inl (cI, 10, .inl (z 9)))]) := hD
  refine lv_iconst (v := 0) hx hb dX7_gathers_26 (by decide) ?_
  refine lv_istore (lv' := [(4, .int 0), (0, .ref za), (1, .ref z8), (2, .int x), (3, .int y)]) hx hb dX7_gathers_27 hl (by decide) rfl (fun ls hl => ?_)
  have kx29 : ∀ (x4_29 : Int32) (z_29 : Ob) (H : Heap) (locs : List Loc) (ls : Array Slot), k_m_gathers_29 x4_29 z_29 = some u → va_P D vwCl (cModel cI cZ za z1 z2 z3 z4 z5 z6 z7 z8 z9 z_29) H → va_D A (cModel cI cZ za z1 z2 z3 z4 z5 z6 z7 z8 z9 z_29) → va_S A s.heap H locs → lv_has ls 5 [(0, .ref za), (1, .ref z8), (2, .int x), (3, .int y), (4, .int x4_29)] → W p l e ({ frames := 3, cells := 0, slots := 0, locals := 68 } : Room) s m ([.ref za, .ref z8, .int x, .int y] : List Value).toArray below meth c H locs 0 0 Q (F0 m 119 ls []) := by
    intro x4_29 z_29 H locs ls hf hP hD hS hl
    rw [k_m_gathers_29] at hf
    exact hret _ _ z_29 _ _ hf dX7_gathers_119 hP hD hS
  have lh29 : ∀ (fu29 : Nat) (x4_29 : Int32) (z_29 : Ob) (H : Heap) (locs : List Loc) (ls : Array Slot), lp_m_gathers_29 8 x y k_m_gathers_29 fu29 x4_29 z_29 = some u → va_P D vwCl (cModel cI cZ za z1 z2 z3 z4 z5 z6 z7 z8 z9 z_29) H → va_D A (cModel cI cZ za z1 z2 z3 z4 z5 z6 z7 z8 z9 z_29) → va_S A s.heap H locs → lv_has ls 5 [(0, .ref za), (1, .ref z8), (2, .int x), (3, .int y), (4, .int x4_29)] → W p l e ({ frames := 3, cells := 0, slots := 0, locals := 68 } : Room) s m ([.ref za, .ref z8, .int x, .int y] : List Value).toArray below meth c H locs 0 0 Q (F0 m 29 ls []) := by
    intro fu29
    induction fu29 with
    | zero => intro x4_29 z_29 H locs ls hf hP hD hS hl; exact no_none hf
    | succ fu29 ih29 =>
      intro x4_29 z_29 H locs ls hf hP hD hS hl
      rw [lp_m_gathers_29] at hf
      refine lv_iload hx hb dX7_gathers_29 (lv_at hl 4 rfl) ?_
      refine lv_aload_n hx hb dX7_gathers_31 rfl (lv_at hl 0 rfl) ?_
      refine va_get (D := D) (ci := 7) (v := .ref z1) (C := RX7) (T := TX7) (N := 17) hx hb hts inT7 hown hK hP 0 rfl rfl 0 (by decide) (hts _ mT_566) (fun _ h9 => h9) rfl dX7_gathers_32 ?_
      refine lv_iconst (v := 2) hx hb dX7_gathers_35 (by decide) ?_
      refine va_iald (n := 367) (f := z_29 1) hx hb hK hP 1 0 rfl rfl (ck_in (by decide)) dX7_gathers_36 ?_
      refine lv_icmp_ge (tgt := 119) hx hb dX7_gathers_37 (by decide) (fun c37 => ?_) (fun c37 => ?_)
      · have hf := ite_t c37 hf
        exact kx29 x4_29 z_29 _ _ _ hf hP hD hS (lv_sub hl [0, 1, 2, 3, 4] rfl)
      · have hf := ite_f c37 hf
        refine lv_iload hx hb dX7_gathers_40 (lv_at hl 4 rfl) ?_
        refine lv_iload_n hx hb dX7_gathers_42 rfl (lv_at hl 3 rfl) ?_
        refine lv_icmp_eq (tgt := 113) hx hb dX7_gathers_43 (by decide) (fun c43 => ?_) (fun c43 => ?_)
        · have hf := ite_t c43 hf
          refine lv_iinc (v := x4_29 + 1) (lv' := [(4, .int (x4_29 + 1)), (0, .ref za), (1, .ref z8), (2, .int x), (3, .int y)]) hx hb dX7_gathers_113 hl (k := 4) rfl rfl (by decide) rfl (fun ls hl => ?_)
          refine lv_goto (tgt := 29) hx hb dX7_gathers_116 (by decide) ?_
          exact ih29 (x4_29 + 1) z_29 _ _ _ hf hP hD hS (lv_sub hl [1, 2, 3, 4, 0] rfl)
        · have hf := ite_f c43 hf
          refine lv_aload_n hx hb dX7_gathers_46 rfl (lv_at hl 0 rfl) ?_
          refine lv_iload hx hb dX7_gathers_47 (lv_at hl 4 rfl) ?_
          refine lv_iconst (v := 1) hx hb dX7_gathers_49 (by decide) ?_
          obtain ⟨q50, h50, hf⟩ := bd_some hf
          refine kx_rv (As := [.int x4_29, .int 1]) (rest := []) hx hb hml hown hts hk hP hl.1 s_yX7_of v_yX7_of (c_m_of l D cI cZ cR za z1 z2 z3 z4 z5 z6 z7 z8 z9 z_29 x4_29 1 _ h50) mT_647 rfl rfl ⟨Nat.le_of_ble_eq_true rfl, Nat.le_of_ble_eq_true rfl⟩ (ci := 7) (q0 := 0) rfl rfl rfl (Nat.le_of_ble_eq_true rfl) ⟨Nat.zero_le _, Nat.zero_le _⟩ dX7_gathers_50 ?_
          refine lv_iload_n hx hb dX7_gathers_53 rfl (lv_at hl 2 rfl) ?_
          refine lv_icmp_ne (tgt := 113) hx hb dX7_gathers_54 (by decide) (fun c54 => ?_) (fun c54 => ?_)
          · have hf := ite_f c54 hf
            refine lv_iinc (v := x4_29 + 1) (lv' := [(4, .int (x4_29 + 1)), (0, .ref za), (1, .ref z8), (2, .int x), (3, .int y)]) hx hb dX7_gathers_113 hl (k := 4) rfl rfl (by decide) rfl (fun ls hl => ?_)
            refine lv_goto (tgt := 29) hx hb dX7_gathers_116 (by decide) ?_
            exact ih29 (x4_29 + 1) z_29 _ _ _ hf hP hD hS (lv_sub hl [1, 2, 3, 4, 0] rfl)
          · have hf := ite_t c54 hf
            refine lv_aload_n hx hb dX7_gathers_57 rfl (lv_at hl 0 rfl) ?_
            refine lv_iload hx hb dX7_gathers_58 (lv_at hl 4 rfl) ?_
            refine lv_aload_n hx hb dX7_gathers_60 rfl (lv_at hl 1 rfl) ?_
            refine lv_aload_n hx hb dX7_gathers_61 rfl (lv_at hl 0 rfl) ?_
            refine lv_iload hx hb dX7_gathers_62 (lv_at hl 4 rfl) ?_
            refine lv_iconst (v := 0) hx hb dX7_gathers_64 (by decide) ?_
            obtain ⟨q65, h65, hf⟩ := bd_some hf
            refine kx_rv (As := [.int x4_29, .int 0]) (rest := [.ref z8, .int x4_29, .ref za]) hx hb hml hown hts hk hP hl.1 s_yX7_of v_yX7_of (c_m_of l D cI cZ cR za z1 z2 z3 z4 z5 z6 z7 z8 z9 z_29 x4_29 0 _ h65) mT_647 rfl rfl ⟨Nat.le_of_ble_eq_true rfl, Nat.le_of_ble_eq_true rfl⟩ (ci := 7) (q0 := 0) rfl rfl rfl (Nat.le_of_ble_eq_true rfl) ⟨Nat.zero_le _, Nat.zero_le _⟩ dX7_gathers_65 ?_
            obtain ⟨b68, hf⟩ := gd_some hf
            refine va_iald (n := 20) (f := z_29 8) hx hb hK hP 8 0 rfl rfl (ck_in b68) dX7_gathers_68 ?_
            refine lv_aload_n hx hb dX7_gathers_69 rfl (lv_at hl 1 rfl) ?_
            refine lv_bipush (v := 10) hx hb dX7_gathers_70 (by decide) ?_
            refine lv_aload_n hx hb dX7_gathers_72 rfl (lv_at hl 0 rfl) ?_
            refine lv_iload hx hb dX7_gathers_73 (lv_at hl 4 rfl) ?_
            refine lv_iconst (v := 0) hx hb dX7_gathers_75 (by decide) ?_
            obtain ⟨q76, h76, hf⟩ := bd_some hf
            refine kx_rv (As := [.int x4_29, .int 0]) (rest := [.int 10, .ref z8, .int ((z_29 8) (Int32.toNatClampNeg q65)), .int x4_29, .ref za]) hx hb hml hown hts hk hP hl.1 s_yX7_of v_yX7_of (c_m_of l D cI cZ cR za z1 z2 z3 z4 z5 z6 z7 z8 z9 z_29 x4_29 0 _ h76) mT_647 rfl rfl ⟨Nat.le_of_ble_eq_true rfl, Nat.le_of_ble_eq_true rfl⟩ (ci := 7) (q0 := 0) rfl rfl rfl (Nat.le_of_ble_eq_true rfl) ⟨Nat.zero_le _, Nat.zero_le _⟩ dX7_gathers_76 ?_
            refine lv_iadd hx hb dX7_gathers_79 ?_
            obtain ⟨b80, hf⟩ := gd_some hf
            refine va_iald (n := 20) (f := z_29 8) hx hb hK hP 8 0 rfl rfl (ck_in b80) dX7_gathers_80 ?_
            obtain ⟨q81, h81, hf⟩ := bd_some hf
            refine kx_wv (As := [.int x4_29, .int ((z_29 8) (Int32.toNatClampNeg q65)), .int ((z_29 8) (Int32.toNatClampNeg (10 + q76)))]) (rest := []) (wc := cModel cI cZ za z1 z2 z3 z4 z5 z6 z7 z8 z9 z_29) (wr := []) (wd := cModel cI cZ za z1 z2 z3 z4 z5 z6 z7 z8 z9 q81) (wn := cModel cI cZ za z1 z2 z3 z4 z5 z6 z7 z8 z9 q81) hx hb hml hown hts hk hP hD hS hA hl.1 s_yX7_brings v_yX7_brings (c_m_brings l D cI cZ cR za z1 z2 z3 z4 z5 z6 z7 z8 z9 z_29 x4_29 ((z_29 8) (Int32.toNatClampNeg q65)) ((z_29 8) (Int32.toNatClampNeg (10 + q76))) H.size _ h81) mT_675 rfl rfl ⟨Nat.le_of_ble_eq_true rfl, Nat.le_of_ble_eq_true rfl⟩ [0, 1, 2, 3, 4, 5, 6, 7, 8, 9] [] [0, 1, 2, 3, 4, 5, 6, 7, 8, 9] rfl rfl (by decide) (by decide) (by decide) (by decide) rfl (ci := 7) (q0 := 0) rfl rfl rfl (Nat.le_of_ble_eq_true rfl) ⟨Nat.zero_le _, Nat.zero_le _⟩ dX7_gathers_81 (fun H locs hP hD hS => ?_)
            refine lv_aload_n hx hb dX7_gathers_84 rfl (lv_at hl 0 rfl) ?_
            refine lv_aload_n hx hb dX7_gathers_85 rfl (lv_at hl 0 rfl) ?_
            refine lv_aload_n hx hb dX7_gathers_86 rfl (lv_at hl 0 rfl) ?_
            refine va_get (D := D) (ci := 7) (v := .int (q81 0 13)) (C := RX7) (T := TX7) (N := 17) hx hb hts inT7 hown hK hP 0 rfl rfl 13 (by decide) (hts _ mT_579) (fun _ h9 => h9) rfl dX7_gathers_87 ?_
            refine lv_aload_n hx hb dX7_gathers_90 rfl (lv_at hl 0 rfl) ?_
            refine va_get (D := D) (ci := 7) (v := .int (q81 0 11)) (C := RX7) (T := TX7) (N := 17) hx hb hts inT7 hown hK hP 0 rfl rfl 11 (by decide) (hts _ mT_577) (fun _ h9 => h9) rfl dX7_gathers_91 ?_
            obtain ⟨q94, h94, hf⟩ := bd_some hf
            refine kx_rv (As := [.int (q81 0 13), .int (q81 0 11)]) (rest := [.ref za]) hx hb hml hown hts hk hP hl.1 s_yX7_both v_yX7_both (c_m_both l D cI cZ cR za z1 z2 z3 z4 z5 z6 z7 z8 z9 q81 (q81 0 13) (q81 0 11) _ h94) mT_631 rfl rfl ⟨Nat.le_of_ble_eq_true rfl, Nat.le_of_ble_eq_true rfl⟩ (ci := 7) (q0 := 0) rfl rfl rfl (Nat.le_of_ble_eq_true rfl) ⟨Nat.zero_le _, Nat.zero_le _⟩ dX7_gathers_94 ?_
            refine va_put (D := D) (ci := 7) (v := .int q94) (ty := .int) (C := RX7) (T := TX7) (N := 17) hx hb hts inT7 tyX7 tyX7_ok nmX7 hown hK hP hD hS 0 rfl rfl 13 (by decide) (hts _ mT_579) (fun _ h9 => h9) rfl (by decide +kernel) rfl rfl (Nat.le_of_ble_eq_true rfl) dX7_gathers_97 (fun H locs hP hD hS => ?_)
            have hP : va_P D vwCl ([(za, .inr (7, [.ref z1, .ref z2, .int (q81 0 2), .ref z3, .ref z4, .int (q81 0 5), .ref z5, .int (q81 0 7), .ref z6, .ref z7, .ref z8, .int (q81 0 11), .int (q81 0 12), .int q94, .int (q81 0 14), .ref z9, .int (q81 0 16)])), (z1, .inl (cI, 367, .inl (q81 1))), (z2, .inl (cI, 5872, .inl (q81 2))), (z3, .inl (cI, 736, .inl (q81 3))), (z4, .inl (cZ, 2, .inl (q81 4))), (z5, .inl (cI, 60, .inl (q81 5))), (z6, .inl (cI, 20, .inl (q81 6))), (z7, .inl (cI, 20, .inl (q81 7))), (z8, .inl (cI, 20, .inl (q81 8))), (z9, .inl (cI, 10, .inl (q81 9)))]) H := hP
            have hD : va_D A ([(za, .inr (7, [.ref z1, .ref z2, .int (q81 0 2), .ref z3, .ref z4, .int (q81 0 5), .ref z5, .int (q81 0 7), .ref z6, .ref z7, .ref z8, .int (q81 0 11), .int (q81 0 12), .int q94, .int (q81 0 14), .ref z9, .int (q81 0 16)])), (z1, .inl (cI, 367, .inl (q81 1))), (z2, .inl (cI, 5872, .inl (q81 2))), (z3, .inl (cI, 736, .inl (q81 3))), (z4, .inl (cZ, 2, .inl (q81 4))), (z5, .inl (cI, 60, .inl (q81 5))), (z6, .inl (cI, 20, .inl (q81 6))), (z7, .inl (cI, 20, .inl (q81 7))), (z8, .inl (cI, 20, .inl (q81 8))), (z9, .inl (cI, 10, .inl (q81 9)))]) := hD
            refine lv_aload_n hx hb dX7_gathers_100 rfl (lv_at hl 0 rfl) ?_
            refine lv_dup hx hb dX7_gathers_101 rfl ?_
            refine va_get (D := D) (ci := 7) (v := .int (q81 0 14)) (C := RX7) (T := TX7) (N := 17) hx hb hts inT7 hown hK hP 0 rfl rfl 14 (by decide) (hts _ mT_580) (fun _ h9 => h9) rfl dX7_gathers_102 ?_
            refine lv_aload_n hx hb dX7_gathers_105 rfl (lv_at hl 0 rfl) ?_
            refine va_get (D := D) (ci := 7) (v := .int (q81 0 12)) (C := RX7) (T := TX7) (N := 17) hx hb hts inT7 hown hK hP 0 rfl rfl 12 (by decide) (hts _ mT_578) (fun _ h9 => h9) rfl dX7_gathers_106 ?_
            refine lv_ior hx hb dX7_gathers_109 ?_
            refine va_put (D := D) (ci := 7) (v := .int ((q81 0 14) ||| (q81 0 12))) (ty := .int) (C := RX7) (T := TX7) (N := 17) hx hb hts inT7 tyX7 tyX7_ok nmX7 hown hK hP hD hS 0 rfl rfl 14 (by decide) (hts _ mT_580) (fun _ h9 => h9) rfl (by decide +kernel) rfl rfl (Nat.le_of_ble_eq_true rfl) dX7_gathers_110 (fun H locs hP hD hS => ?_)
            have hP : va_P D vwCl ([(za, .inr (7, [.ref z1, .ref z2, .int (q81 0 2), .ref z3, .ref z4, .int (q81 0 5), .ref z5, .int (q81 0 7), .ref z6, .ref z7, .ref z8, .int (q81 0 11), .int (q81 0 12), .int q94, .int ((q81 0 14) ||| (q81 0 12)), .ref z9, .int (q81 0 16)])), (z1, .inl (cI, 367, .inl (q81 1))), (z2, .inl (cI, 5872, .inl (q81 2))), (z3, .inl (cI, 736, .inl (q81 3))), (z4, .inl (cZ, 2, .inl (q81 4))), (z5, .inl (cI, 60, .inl (q81 5))), (z6, .inl (cI, 20, .inl (q81 6))), (z7, .inl (cI, 20, .inl (q81 7))), (z8, .inl (cI, 20, .inl (q81 8))), (z9, .inl (cI, 10, .inl (q81 9)))]) H := hP
            have hD : va_D A ([(za, .inr (7, [.ref z1, .ref z2, .int (q81 0 2), .ref z3, .ref z4, .int (q81 0 5), .ref z5, .int (q81 0 7), .ref z6, .ref z7, .ref z8, .int (q81 0 11), .int (q81 0 12), .int q94, .int ((q81 0 14) ||| (q81 0 12)), .ref z9, .int (q81 0 16)])), (z1, .inl (cI, 367, .inl (q81 1))), (z2, .inl (cI, 5872, .inl (q81 2))), (z3, .inl (cI, 736, .inl (q81 3))), (z4, .inl (cZ, 2, .inl (q81 4))), (z5, .inl (cI, 60, .inl (q81 5))), (z6, .inl (cI, 20, .inl (q81 6))), (z7, .inl (cI, 20, .inl (q81 7))), (z8, .inl (cI, 20, .inl (q81 8))), (z9, .inl (cI, 10, .inl (q81 9)))]) := hD
            refine lv_iinc (v := x4_29 + 1) (lv' := [(4, .int (x4_29 + 1)), (0, .ref za), (1, .ref z8), (2, .int x), (3, .int y)]) hx hb dX7_gathers_113 hl (k := 4) rfl rfl (by decide) rfl (fun ls hl => ?_)
            refine lv_goto (tgt := 29) hx hb dX7_gathers_116 (by decide) ?_
            exact ih29 (x4_29 + 1) (sI (sI q81 13 q94) 14 ((q81 0 14) ||| (q81 0 12))) _ _ _ hf hP hD hS (lv_sub hl [1, 2, 3, 4, 0] rfl)
  exact lh29 10000 0 (sI (sI z 13 ((z 1) (Int32.toNatClampNeg (67 + x)))) 14 ((z 1) (Int32.toNatClampNeg (77 + x)))) _ _ _ hf hP hD hS (lv_sub hl [1, 2, 3, 4, 0] rfl)
theorem s_yX7_taken : kMS yX7_taken cX7_taken 5 (some .int) 1 := ⟨mT_698, mT_59, by decide +kernel⟩
theorem v_yX7_taken : kMV yX7_taken := ⟨mT_697, mT_36⟩
def k_m_taken_77 (z : Ob) (x2_18 : Int32) (x4_77 : Int32) (z_77 : Ob) : Option (Int32 × Ob) := some ((z 9) (Int32.toNatClampNeg x2_18), z_77)
def lp_m_taken_77 (kk0 : Int32 → Ob → Option (Int32 × Ob)) : Nat → Int32 → Ob → Option (Int32 × Ob)
  | 0, _, _ => none
  | fu77 + 1, x4_77, z_77 => if (z_77 0 16) ≤ x4_77 then (kk0 x4_77 z_77) else (gd (ck (x4_77 + 1) 10) (gd (ck x4_77 10) ((lp_m_taken_77 kk0 fu77) (x4_77 + 1) (sA z_77 9 (upd (z_77 9) (Int32.toNatClampNeg x4_77) ((z_77 9) (Int32.toNatClampNeg (x4_77 + 1))))))))
def k_m_taken_18 (z : Ob) (x2_18 : Int32) (x3_18 : Int32) : Option (Int32 × Ob) := gd (ck x2_18 10) (lp_m_taken_77 (k_m_taken_77 z x2_18) 10000 x2_18 (sI z 16 ((z 0 16) - 1)))
def lp_m_taken_18 (z : Ob) (x : Int32) (kk0 : Int32 → Int32 → Option (Int32 × Ob)) : Nat → Int32 → Int32 → Option (Int32 × Ob)
  | 0, _, _ => none
  | fu18 + 1, x2_18, x3_18 => if (z 0 16) ≤ x3_18 then (kk0 x2_18 x3_18) else (if x = 0 then (gd (ck x3_18 10) (gd (ck x2_18 10) (if ((z 9) (Int32.toNatClampNeg x2_18)) ≤ ((z 9) (Int32.toNatClampNeg x3_18)) then ((lp_m_taken_18 z x kk0 fu18) x2_18 (x3_18 + 1)) else ((lp_m_taken_18 z x kk0 fu18) x3_18 (x3_18 + 1))))) else (kk0 x2_18 x3_18))
def f_m_taken (z : Ob) (x : Int32) : Option (Int32 × Ob) := if x = 2 then (lp_m_taken_18 z x (k_m_taken_18 z) 10000 ((z 0 16) - 1) 0) else (lp_m_taken_18 z x (k_m_taken_18 z) 10000 0 0)
set_option maxHeartbeats 4000000 in
set_option maxRecDepth 100000 in
theorem c_m_taken (l : Launch) (D : va_G) (cI cZ cR : ClassId) (za z1 z2 z3 z4 z5 z6 z7 z8 z9 : Nat) (z : Ob) (x : Int32) (sz : Nat) (r : Int32) (u : Ob) (hf : f_m_taken z x = some (r, u)) : kCi l yX7_taken cX7_taken 5 (some .int) { frames := 0, cells := 0, slots := 0, locals := 0 } [.ref za, .int x] D cI cZ cR (cModel cI cZ za z1 z2 z3 z4 z5 z6 z7 z8 z9 z) sz (cModel cI cZ za z1 z2 z3 z4 z5 z6 z7 z8 z9 u) r := by
  refine kMwi (wf := (fun u : Ob => cModel cI cZ za z1 z2 z3 z4 z5 z6 z7 z8 z9 u)) (u := u) (by decide) (Nat.le_of_ble_eq_true rfl) ?_
  intro p e s m below meth c Q A hx hb hml hown hts hk hP hD hA hS hret ls hl
  have hS0 := hS
  have hK := hk.1
  have hl : lv_has ls 5 [(0, .ref za), (1, .int x)] := hl
  rw [f_m_taken] at hf
  refine lv_iload_n hx hb dX7_taken_0 rfl (lv_at hl 1 rfl) ?_
  refine lv_iconst (v := 2) hx hb dX7_taken_1 (by decide) ?_
  refine lv_icmp_ne (tgt := 14) hx hb dX7_taken_2 (by decide) (fun c2 => ?_) (fun c2 => ?_)
  · have hf := ite_f c2 hf
    refine lv_iconst (v := 0) hx hb dX7_taken_14 (by decide) ?_
    refine lv_istore_n (lv' := [(2, .int 0), (0, .ref za), (1, .int x)]) hx hb dX7_taken_15 rfl hl (by decide) rfl (fun ls hl => ?_)
    refine lv_iconst (v := 0) hx hb dX7_taken_16 (by decide) ?_
    refine lv_istore_n (lv' := [(3, .int 0), (2, .int 0), (0, .ref za), (1, .int x)]) hx hb dX7_taken_17 rfl hl (by decide) rfl (fun ls hl => ?_)
    have kx18 : ∀ (x2_18 : Int32) (x3_18 : Int32) (H : Heap) (locs : List Loc) (ls : Array Slot), (k_m_taken_18 z) x2_18 x3_18 = some (r, u) → va_P D vwCl (cModel cI cZ za z1 z2 z3 z4 z5 z6 z7 z8 z9 z) H → va_D A (cModel cI cZ za z1 z2 z3 z4 z5 z6 z7 z8 z9 z) → va_S A s.heap H locs → lv_has ls 5 [(0, .ref za), (1, .int x), (2, .int x2_18), (3, .int x3_18)] → W p l e ({ frames := 0, cells := 0, slots := 0, locals := 0 } : Room) s m ([.ref za, .int x] : List Value).toArray below meth c H locs 0 0 Q (F0 m 57 ls []) := by
      intro x2_18 x3_18 H locs ls hf hP hD hS hl
      rw [k_m_taken_18] at hf
      refine lv_aload_n hx hb dX7_taken_57 rfl (lv_at hl 0 rfl) ?_
      refine va_get (D := D) (ci := 7) (v := .ref z9) (C := RX7) (T := TX7) (N := 17) hx hb hts inT7 hown hK hP 0 rfl rfl 15 (by decide) (hts _ mT_581) (fun _ h9 => h9) rfl dX7_taken_58 ?_
      refine lv_iload_n hx hb dX7_taken_61 rfl (lv_at hl 2 rfl) ?_
      obtain ⟨b62, hf⟩ := gd_some hf
      refine va_iald (n := 10) (f := z 9) hx hb hK hP 9 0 rfl rfl (ck_in b62) dX7_taken_62 ?_
      refine lv_istore_n (lv' := [(3, .int ((z 9) (Int32.toNatClampNeg x2_18))), (0, .ref za), (1, .int x), (2, .int x2_18)]) hx hb dX7_taken_63 rfl hl (by decide) rfl (fun ls hl => ?_)
      refine lv_aload_n hx hb dX7_taken_64 rfl (lv_at hl 1 rfl) ?_
      refine lv_dup hx hb dX7_taken_65 rfl ?_
      refine va_get (D := D) (ci := 7) (v := .int (z 0 16)) (C := RX7) (T := TX7) (N := 17) hx hb hts inT7 hown hK hP 0 rfl rfl 16 (by decide) (hts _ mT_582) (fun _ h9 => h9) rfl dX7_taken_66 ?_
      refine lv_iconst (v := 1) hx hb dX7_taken_69 (by decide) ?_
      refine lv_isub hx hb dX7_taken_70 ?_
      refine va_put (D := D) (ci := 7) (v := .int ((z 0 16) - 1)) (ty := .int) (C := RX7) (T := TX7) (N := 17) hx hb hts inT7 tyX7 tyX7_ok nmX7 hown hK hP hD hS 0 rfl rfl 16 (by decide) (hts _ mT_582) (fun _ h9 => h9) rfl (by decide +kernel) rfl rfl (Nat.le_of_ble_eq_true rfl) dX7_taken_71 (fun H locs hP hD hS => ?_)
      have hP : va_P D vwCl ([(za, .inr (7, [.ref z1, .ref z2, .int (z 0 2), .ref z3, .ref z4, .int (z 0 5), .ref z5, .int (z 0 7), .ref z6, .ref z7, .ref z8, .int (z 0 11), .int (z 0 12), .int (z 0 13), .int (z 0 14), .ref z9, .int ((z 0 16) - 1)])), (z1, .inl (cI, 367, .inl (z 1))), (z2, .inl (cI, 5872, .inl (z 2))), (z3, .inl (cI, 736, .inl (z 3))), (z4, .inl (cZ, 2, .inl (z 4))), (z5, .inl (cI, 60, .inl (z 5))), (z6, .inl (cI, 20, .inl (z 6))), (z7, .inl (cI, 20, .inl (z 7))), (z8, .inl (cI, 20, .inl (z 8))), (z9, .inl (cI, 10, .inl (z 9)))]) H := hP
      have hD : va_D A ([(za, .inr (7, [.ref z1, .ref z2, .int (z 0 2), .ref z3, .ref z4, .int (z 0 5), .ref z5, .int (z 0 7), .ref z6, .ref z7, .ref z8, .int (z 0 11), .int (z 0 12), .int (z 0 13), .int (z 0 14), .ref z9, .int ((z 0 16) - 1)])), (z1, .inl (cI, 367, .inl (z 1))), (z2, .inl (cI, 5872, .inl (z 2))), (z3, .inl (cI, 736, .inl (z 3))), (z4, .inl (cZ, 2, .inl (z 4))), (z5, .inl (cI, 60, .inl (z 5))), (z6, .inl (cI, 20, .inl (z 6))), (z7, .inl (cI, 20, .inl (z 7))), (z8, .inl (cI, 20, .inl (z 8))), (z9, .inl (cI, 10, .inl (z 9)))]) := hD
      refine lv_iload_n hx hb dX7_taken_74 rfl (lv_at hl 3 rfl) ?_
      refine lv_istore (lv' := [(4, .int x2_18), (3, .int ((z 9) (Int32.toNatClampNeg x2_18))), (0, .ref za), (1, .int x), (2, .int x2_18)]) hx hb dX7_taken_75 hl (by decide) rfl (fun ls hl => ?_)
      have kx77 : ∀ (x4_77 : Int32) (z_77 : Ob) (H : Heap) (locs : List Loc) (ls : Array Slot), (k_m_taken_77 z x2_18) x4_77 z_77 = some (r, u) → va_P D vwCl (cModel cI cZ za z1 z2 z3 z4 z5 z6 z7 z8 z9 z_77) H → va_D A (cModel cI cZ za z1 z2 z3 z4 z5 z6 z7 z8 z9 z_77) → va_S A s.heap H locs → lv_has ls 5 [(0, .ref za), (1, .int x), (2, .int x2_18), (3, .int ((z 9) (Int32.toNatClampNeg x2_18))), (4, .int x4_77)] → W p l e ({ frames := 0, cells := 0, slots := 0, locals := 0 } : Room) s m ([.ref za, .int x] : List Value).toArray below meth c H locs 0 0 Q (F0 m 108 ls []) := by
        intro x4_77 z_77 H locs ls hf hP hD hS hl
        rw [k_m_taken_77] at hf
        refine lv_iload_n hx hb dX7_taken_108 rfl (lv_at hl 3 rfl) ?_
        exact hret _ _ _ z_77 _ _ hf dX7_taken_109 hP hD hS
      have lh77 : ∀ (fu77 : Nat) (x4_77 : Int32) (z_77 : Ob) (H : Heap) (locs : List Loc) (ls : Array Slot), lp_m_taken_77 (k_m_taken_77 z x2_18) fu77 x4_77 z_77 = some (r, u) → va_P D vwCl (cModel cI cZ za z1 z2 z3 z4 z5 z6 z7 z8 z9 z_77) H → va_D A (cModel cI cZ za z1 z2 z3 z4 z5 z6 z7 z8 z9 z_77) → va_S A s.heap H locs → lv_has ls 5 [(0, .ref za), (1, .int x), (2, .int x2_18), (3, .int ((z 9) (Int32.toNatClampNeg x2_18))), (4, .int x4_77)] → W p l e ({ frames := 0, cells := 0, slots := 0, locals := 0 } : Room) s m ([.ref za, .int x] : List Value).toArray below meth c H locs 0 0 Q (F0 m 77 ls []) := by
        intro fu77
        induction fu77 with
        | zero => intro x4_77 z_77 H locs ls hf hP hD hS hl; exact no_none hf
        | succ fu77 ih77 =>
          intro x4_77 z_77 H locs ls hf hP hD hS hl
          rw [lp_m_taken_77] at hf
          refine lv_iload hx hb dX7_taken_77 (lv_at hl 4 rfl) ?_
          refine lv_aload_n hx hb dX7_taken_79 rfl (lv_at hl 0 rfl) ?_
          refine va_get (D := D) (ci := 7) (v := .int (z_77 0 16)) (C := RX7) (T := TX7) (N := 17) hx hb hts inT7 hown hK hP 0 rfl rfl 16 (by decide) (hts _ mT_582) (fun _ h9 => h9) rfl dX7_taken_80 ?_
          refine lv_icmp_ge (tgt := 108) hx hb dX7_taken_83 (by decide) (fun c83 => ?_) (fun c83 => ?_)
          · have hf := ite_t c83 hf
            exact kx77 x4_77 z_77 _ _ _ hf hP hD hS (lv_sub hl [0, 1, 2, 3, 4] rfl)
          · have hf := ite_f c83 hf
            refine lv_aload_n hx hb dX7_taken_86 rfl (lv_at hl 0 rfl) ?_
            refine va_get (D := D) (ci := 7) (v := .ref z9) (C := RX7) (T := TX7) (N := 17) hx hb hts inT7 hown hK hP 0 rfl rfl 15 (by decide) (hts _ mT_581) (fun _ h9 => h9) rfl dX7_taken_87 ?_
            refine lv_iload hx hb dX7_taken_90 (lv_at hl 4 rfl) ?_
            refine lv_aload_n hx hb dX7_taken_92 rfl (lv_at hl 0 rfl) ?_
            refine va_get (D := D) (ci := 7) (v := .ref z9) (C := RX7) (T := TX7) (N := 17) hx hb hts inT7 hown hK hP 0 rfl rfl 15 (by decide) (hts _ mT_581) (fun _ h9 => h9) rfl dX7_taken_93 ?_
            refine lv_iload hx hb dX7_taken_96 (lv_at hl 4 rfl) ?_
            refine lv_iconst (v := 1) hx hb dX7_taken_98 (by decide) ?_
            refine lv_iadd hx hb dX7_taken_99 ?_
            obtain ⟨b100, hf⟩ := gd_some hf
            refine va_iald (n := 10) (f := z_77 9) hx hb hK hP 9 0 rfl rfl (ck_in b100) dX7_taken_100 ?_
            obtain ⟨b101, hf⟩ := gd_some hf
            refine va_iast (n := 10) (f := z_77 9) hx hb hK hP hD hS 9 0 rfl rfl (ck_in b101) dX7_taken_101 (fun H locs hP hD hS => ?_)
            have hP : va_P D vwCl ([(za, .inr (7, [.ref z1, .ref z2, .int (z_77 0 2), .ref z3, .ref z4, .int (z_77 0 5), .ref z5, .int (z_77 0 7), .ref z6, .ref z7, .ref z8, .int (z_77 0 11), .int (z_77 0 12), .int (z_77 0 13), .int (z_77 0 14), .ref z9, .int (z_77 0 16)])), (z1, .inl (cI, 367, .inl (z_77 1))), (z2, .inl (cI, 5872, .inl (z_77 2))), (z3, .inl (cI, 736, .inl (z_77 3))), (z4, .inl (cZ, 2, .inl (z_77 4))), (z5, .inl (cI, 60, .inl (z_77 5))), (z6, .inl (cI, 20, .inl (z_77 6))), (z7, .inl (cI, 20, .inl (z_77 7))), (z8, .inl (cI, 20, .inl (z_77 8))), (z9, .inl (cI, 10, .inl (upd (z_77 9) (Int32.toNatClampNeg x4_77) ((z_77 9) (Int32.toNatClampNeg (x4_77 + 1))))))]) H := hP
            have hD : va_D A ([(za, .inr (7, [.ref z1, .ref z2, .int (z_77 0 2), .ref z3, .ref z4, .int (z_77 0 5), .ref z5, .int (z_77 0 7), .ref z6, .ref z7, .ref z8, .int (z_77 0 11), .int (z_77 0 12), .int (z_77 0 13), .int (z_77 0 14), .ref z9, .int (z_77 0 16)])), (z1, .inl (cI, 367, .inl (z_77 1))), (z2, .inl (cI, 5872, .inl (z_77 2))), (z3, .inl (cI, 736, .inl (z_77 3))), (z4, .inl (cZ, 2, .inl (z_77 4))), (z5, .inl (cI, 60, .inl (z_77 5))), (z6, .inl (cI, 20, .inl (z_77 6))), (z7, .inl (cI, 20, .inl (z_77 7))), (z8, .inl (cI, 20, .inl (z_77 8))), (z9, .inl (cI, 10, .inl (upd (z_77 9) (Int32.toNatClampNeg x4_77) ((z_77 9) (Int32.toNatClampNeg (x4_77 + 1))))))]) := hD
            refine lv_iinc (v := x4_77 + 1) (lv' := [(4, .int (x4_77 + 1)), (0, .ref za), (1, .int x), (2, .int x2_18), (3, .int ((z 9) (Int32.toNatClampNeg x2_18)))]) hx hb dX7_taken_102 hl (k := 4) rfl rfl (by decide) rfl (fun ls hl => ?_)
            refine lv_goto (tgt := 77) hx hb dX7_taken_105 (by decide) ?_
            exact ih77 (x4_77 + 1) (sA z_77 9 (upd (z_77 9) (Int32.toNatClampNeg x4_77) ((z_77 9) (Int32.toNatClampNeg (x4_77 + 1))))) _ _ _ hf hP hD hS (lv_sub hl [1, 2, 3, 4, 0] rfl)
      exact lh77 10000 x2_18 (sI z 16 ((z 0 16) - 1)) _ _ _ hf hP hD hS (lv_sub hl [2, 3, 4, 1, 0] rfl)
    have lh18 : ∀ (fu18 : Nat) (x2_18 : Int32) (x3_18 : Int32) (H : Heap) (locs : List Loc) (ls : Array Slot), lp_m_taken_18 z x (k_m_taken_18 z) fu18 x2_18 x3_18 = some (r, u) → va_P D vwCl (cModel cI cZ za z1 z2 z3 z4 z5 z6 z7 z8 z9 z) H → va_D A (cModel cI cZ za z1 z2 z3 z4 z5 z6 z7 z8 z9 z) → va_S A s.heap H locs → lv_has ls 5 [(0, .ref za), (1, .int x), (2, .int x2_18), (3, .int x3_18)] → W p l e ({ frames := 0, cells := 0, slots := 0, locals := 0 } : Room) s m ([.ref za, .int x] : List Value).toArray below meth c H locs 0 0 Q (F0 m 18 ls []) := by
      intro fu18
      induction fu18 with
      | zero => intro x2_18 x3_18 H locs ls hf hP hD hS hl; exact no_none hf
      | succ fu18 ih18 =>
        intro x2_18 x3_18 H locs ls hf hP hD hS hl
        rw [lp_m_taken_18] at hf
        refine lv_iload_n hx hb dX7_taken_18 rfl (lv_at hl 3 rfl) ?_
        refine lv_aload_n hx hb dX7_taken_19 rfl (lv_at hl 0 rfl) ?_
        refine va_get (D := D) (ci := 7) (v := .int (z 0 16)) (C := RX7) (T := TX7) (N := 17) hx hb hts inT7 hown hK hP 0 rfl rfl 16 (by decide) (hts _ mT_582) (fun _ h9 => h9) rfl dX7_taken_20 ?_
        refine lv_icmp_ge (tgt := 57) hx hb dX7_taken_23 (by decide) (fun c23 => ?_) (fun c23 => ?_)
        · have hf := ite_t c23 hf
          exact kx18 x2_18 x3_18 _ _ _ hf hP hD hS (lv_sub hl [0, 1, 2, 3] rfl)
        · have hf := ite_f c23 hf
          refine lv_iload_n hx hb dX7_taken_26 rfl (lv_at hl 1 rfl) ?_
          refine lv_if_ne (tgt := 57) hx hb dX7_taken_27 (by decide) (fun c27 => ?_) (fun c27 => ?_)
          · have hf := ite_f c27 hf
            exact kx18 x2_18 x3_18 _ _ _ hf hP hD hS (lv_sub hl [0, 1, 2, 3] rfl)
          · have hf := ite_t c27 hf
            refine lv_aload_n hx hb dX7_taken_30 rfl (lv_at hl 0 rfl) ?_
            refine va_get (D := D) (ci := 7) (v := .ref z9) (C := RX7) (T := TX7) (N := 17) hx hb hts inT7 hown hK hP 0 rfl rfl 15 (by decide) (hts _ mT_581) (fun _ h9 => h9) rfl dX7_taken_31 ?_
            refine lv_iload_n hx hb dX7_taken_34 rfl (lv_at hl 3 rfl) ?_
            obtain ⟨b35, hf⟩ := gd_some hf
            refine va_iald (n := 10) (f := z 9) hx hb hK hP 9 0 rfl rfl (ck_in b35) dX7_taken_35 ?_
            refine lv_aload_n hx hb dX7_taken_36 rfl (lv_at hl 0 rfl) ?_
            refine va_get (D := D) (ci := 7) (v := .ref z9) (C := RX7) (T := TX7) (N := 17) hx hb hts inT7 hown hK hP 0 rfl rfl 15 (by decide) (hts _ mT_581) (fun _ h9 => h9) rfl dX7_taken_37 ?_
            refine lv_iload_n hx hb dX7_taken_40 rfl (lv_at hl 2 rfl) ?_
            obtain ⟨b41, hf⟩ := gd_some hf
            refine va_iald (n := 10) (f := z 9) hx hb hK hP 9 0 rfl rfl (ck_in b41) dX7_taken_41 ?_
            refine lv_icmp_ge (tgt := 49) hx hb dX7_taken_42 (by decide) (fun c42 => ?_) (fun c42 => ?_)
            · have hf := ite_t c42 hf
              refine lv_iload_n hx hb dX7_taken_49 rfl (lv_at hl 2 rfl) ?_
              refine lv_istore_n (lv' := [(2, .int x2_18), (0, .ref za), (1, .int x), (3, .int x3_18)]) hx hb dX7_taken_50 rfl hl (by decide) rfl (fun ls hl => ?_)
              refine lv_iinc (v := x3_18 + 1) (lv' := [(3, .int (x3_18 + 1)), (2, .int x2_18), (0, .ref za), (1, .int x)]) hx hb dX7_taken_51 hl (k := 3) rfl rfl (by decide) rfl (fun ls hl => ?_)
              refine lv_goto (tgt := 18) hx hb dX7_taken_54 (by decide) ?_
              exact ih18 x2_18 (x3_18 + 1) _ _ _ hf hP hD hS (lv_sub hl [2, 3, 1, 0] rfl)
            · have hf := ite_f c42 hf
              refine lv_iload_n hx hb dX7_taken_45 rfl (lv_at hl 3 rfl) ?_
              refine lv_goto (tgt := 50) hx hb dX7_taken_46 (by decide) ?_
              refine lv_istore_n (lv' := [(2, .int x3_18), (0, .ref za), (1, .int x), (3, .int x3_18)]) hx hb dX7_taken_50 rfl hl (by decide) rfl (fun ls hl => ?_)
              refine lv_iinc (v := x3_18 + 1) (lv' := [(3, .int (x3_18 + 1)), (2, .int x3_18), (0, .ref za), (1, .int x)]) hx hb dX7_taken_51 hl (k := 3) rfl rfl (by decide) rfl (fun ls hl => ?_)
              refine lv_goto (tgt := 18) hx hb dX7_taken_54 (by decide) ?_
              exact ih18 x3_18 (x3_18 + 1) _ _ _ hf hP hD hS (lv_sub hl [2, 3, 1, 0] rfl)
    exact lh18 10000 0 0 _ _ _ hf hP hD hS (lv_sub hl [2, 3, 1, 0] rfl)
  · have hf := ite_t c2 hf
    refine lv_aload_n hx hb dX7_taken_5 rfl (lv_at hl 0 rfl) ?_
    refine va_get (D := D) (ci := 7) (v := .int (z 0 16)) (C := RX7) (T := TX7) (N := 17) hx hb hts inT7 hown hK hP 0 rfl rfl 16 (by decide) (hts _ mT_582) (fun _ h9 => h9) rfl dX7_taken_6 ?_
    refine lv_iconst (v := 1) hx hb dX7_taken_9 (by decide) ?_
    refine lv_isub hx hb dX7_taken_10 ?_
    refine lv_goto (tgt := 15) hx hb dX7_taken_11 (by decide) ?_
    refine lv_istore_n (lv' := [(2, .int ((z 0 16) - 1)), (0, .ref za), (1, .int x)]) hx hb dX7_taken_15 rfl hl (by decide) rfl (fun ls hl => ?_)
    refine lv_iconst (v := 0) hx hb dX7_taken_16 (by decide) ?_
    refine lv_istore_n (lv' := [(3, .int 0), (2, .int ((z 0 16) - 1)), (0, .ref za), (1, .int x)]) hx hb dX7_taken_17 rfl hl (by decide) rfl (fun ls hl => ?_)
    have kx18 : ∀ (x2_18 : Int32) (x3_18 : Int32) (H : Heap) (locs : List Loc) (ls : Array Slot), (k_m_taken_18 z) x2_18 x3_18 = some (r, u) → va_P D vwCl (cModel cI cZ za z1 z2 z3 z4 z5 z6 z7 z8 z9 z) H → va_D A (cModel cI cZ za z1 z2 z3 z4 z5 z6 z7 z8 z9 z) → va_S A s.heap H locs → lv_has ls 5 [(0, .ref za), (1, .int x), (2, .int x2_18), (3, .int x3_18)] → W p l e ({ frames := 0, cells := 0, slots := 0, locals := 0 } : Room) s m ([.ref za, .int x] : List Value).toArray below meth c H locs 0 0 Q (F0 m 57 ls []) := by
      intro x2_18 x3_18 H locs ls hf hP hD hS hl
      rw [k_m_taken_18] at hf
      refine lv_aload_n hx hb dX7_taken_57 rfl (lv_at hl 0 rfl) ?_
      refine va_get (D := D) (ci := 7) (v := .ref z9) (C := RX7) (T := TX7) (N := 17) hx hb hts inT7 hown hK hP 0 rfl rfl 15 (by decide) (hts _ mT_581) (fun _ h9 => h9) rfl dX7_taken_58 ?_
      refine lv_iload_n hx hb dX7_taken_61 rfl (lv_at hl 2 rfl) ?_
      obtain ⟨b62, hf⟩ := gd_some hf
      refine va_iald (n := 10) (f := z 9) hx hb hK hP 9 0 rfl rfl (ck_in b62) dX7_taken_62 ?_
      refine lv_istore_n (lv' := [(3, .int ((z 9) (Int32.toNatClampNeg x2_18))), (0, .ref za), (1, .int x), (2, .int x2_18)]) hx hb dX7_taken_63 rfl hl (by decide) rfl (fun ls hl => ?_)
      refine lv_aload_n hx hb dX7_taken_64 rfl (lv_at hl 1 rfl) ?_
      refine lv_dup hx hb dX7_taken_65 rfl ?_
      refine va_get (D := D) (ci := 7) (v := .int (z 0 16)) (C := RX7) (T := TX7) (N := 17) hx hb hts inT7 hown hK hP 0 rfl rfl 16 (by decide) (hts _ mT_582) (fun _ h9 => h9) rfl dX7_taken_66 ?_
      refine lv_iconst (v := 1) hx hb dX7_taken_69 (by decide) ?_
      refine lv_isub hx hb dX7_taken_70 ?_
      refine va_put (D := D) (ci := 7) (v := .int ((z 0 16) - 1)) (ty := .int) (C := RX7) (T := TX7) (N := 17) hx hb hts inT7 tyX7 tyX7_ok nmX7 hown hK hP hD hS 0 rfl rfl 16 (by decide) (hts _ mT_582) (fun _ h9 => h9) rfl (by decide +kernel) rfl rfl (Nat.le_of_ble_eq_true rfl) dX7_taken_71 (fun H locs hP hD hS => ?_)
      have hP : va_P D vwCl ([(za, .inr (7, [.ref z1, .ref z2, .int (z 0 2), .ref z3, .ref z4, .int (z 0 5), .ref z5, .int (z 0 7), .ref z6, .ref z7, .ref z8, .int (z 0 11), .int (z 0 12), .int (z 0 13), .int (z 0 14), .ref z9, .int ((z 0 16) - 1)])), (z1, .inl (cI, 367, .inl (z 1))), (z2, .inl (cI, 5872, .inl (z 2))), (z3, .inl (cI, 736, .inl (z 3))), (z4, .inl (cZ, 2, .inl (z 4))), (z5, .inl (cI, 60, .inl (z 5))), (z6, .inl (cI, 20, .inl (z 6))), (z7, .inl (cI, 20, .inl (z 7))), (z8, .inl (cI, 20, .inl (z 8))), (z9, .inl (cI, 10, .inl (z 9)))]) H := hP
      have hD : va_D A ([(za, .inr (7, [.ref z1, .ref z2, .int (z 0 2), .ref z3, .ref z4, .int (z 0 5), .ref z5, .int (z 0 7), .ref z6, .ref z7, .ref z8, .int (z 0 11), .int (z 0 12), .int (z 0 13), .int (z 0 14), .ref z9, .int ((z 0 16) - 1)])), (z1, .inl (cI, 367, .inl (z 1))), (z2, .inl (cI, 5872, .inl (z 2))), (z3, .inl (cI, 736, .inl (z 3))), (z4, .inl (cZ, 2, .inl (z 4))), (z5, .inl (cI, 60, .inl (z 5))), (z6, .inl (cI, 20, .inl (z 6))), (z7, .inl (cI, 20, .inl (z 7))), (z8, .inl (cI, 20, .inl (z 8))), (z9, .inl (cI, 10, .inl (z 9)))]) := hD
      refine lv_iload_n hx hb dX7_taken_74 rfl (lv_at hl 3 rfl) ?_
      refine lv_istore (lv' := [(4, .int x2_18), (3, .int ((z 9) (Int32.toNatClampNeg x2_18))), (0, .ref za), (1, .int x), (2, .int x2_18)]) hx hb dX7_taken_75 hl (by decide) rfl (fun ls hl => ?_)
      have kx77 : ∀ (x4_77 : Int32) (z_77 : Ob) (H : Heap) (locs : List Loc) (ls : Array Slot), (k_m_taken_77 z x2_18) x4_77 z_77 = some (r, u) → va_P D vwCl (cModel cI cZ za z1 z2 z3 z4 z5 z6 z7 z8 z9 z_77) H → va_D A (cModel cI cZ za z1 z2 z3 z4 z5 z6 z7 z8 z9 z_77) → va_S A s.heap H locs → lv_has ls 5 [(0, .ref za), (1, .int x), (2, .int x2_18), (3, .int ((z 9) (Int32.toNatClampNeg x2_18))), (4, .int x4_77)] → W p l e ({ frames := 0, cells := 0, slots := 0, locals := 0 } : Room) s m ([.ref za, .int x] : List Value).toArray below meth c H locs 0 0 Q (F0 m 108 ls []) := by
        intro x4_77 z_77 H locs ls hf hP hD hS hl
        rw [k_m_taken_77] at hf
        refine lv_iload_n hx hb dX7_taken_108 rfl (lv_at hl 3 rfl) ?_
        exact hret _ _ _ z_77 _ _ hf dX7_taken_109 hP hD hS
      have lh77 : ∀ (fu77 : Nat) (x4_77 : Int32) (z_77 : Ob) (H : Heap) (locs : List Loc) (ls : Array Slot), lp_m_taken_77 (k_m_taken_77 z x2_18) fu77 x4_77 z_77 = some (r, u) → va_P D vwCl (cModel cI cZ za z1 z2 z3 z4 z5 z6 z7 z8 z9 z_77) H → va_D A (cModel cI cZ za z1 z2 z3 z4 z5 z6 z7 z8 z9 z_77) → va_S A s.heap H locs → lv_has ls 5 [(0, .ref za), (1, .int x), (2, .int x2_18), (3, .int ((z 9) (Int32.toNatClampNeg x2_18))), (4, .int x4_77)] → W p l e ({ frames := 0, cells := 0, slots := 0, locals := 0 } : Room) s m ([.ref za, .int x] : List Value).toArray below meth c H locs 0 0 Q (F0 m 77 ls []) := by
        intro fu77
        induction fu77 with
        | zero => intro x4_77 z_77 H locs ls hf hP hD hS hl; exact no_none hf
        | succ fu77 ih77 =>
          intro x4_77 z_77 H locs ls hf hP hD hS hl
          rw [lp_m_taken_77] at hf
          refine lv_iload hx hb dX7_taken_77 (lv_at hl 4 rfl) ?_
          refine lv_aload_n hx hb dX7_taken_79 rfl (lv_at hl 0 rfl) ?_
          refine va_get (D := D) (ci := 7) (v := .int (z_77 0 16)) (C := RX7) (T := TX7) (N := 17) hx hb hts inT7 hown hK hP 0 rfl rfl 16 (by decide) (hts _ mT_582) (fun _ h9 => h9) rfl dX7_taken_80 ?_
          refine lv_icmp_ge (tgt := 108) hx hb dX7_taken_83 (by decide) (fun c83 => ?_) (fun c83 => ?_)
          · have hf := ite_t c83 hf
            exact kx77 x4_77 z_77 _ _ _ hf hP hD hS (lv_sub hl [0, 1, 2, 3, 4] rfl)
          · have hf := ite_f c83 hf
            refine lv_aload_n hx hb dX7_taken_86 rfl (lv_at hl 0 rfl) ?_
            refine va_get (D := D) (ci := 7) (v := .ref z9) (C := RX7) (T := TX7) (N := 17) hx hb hts inT7 hown hK hP 0 rfl rfl 15 (by decide) (hts _ mT_581) (fun _ h9 => h9) rfl dX7_taken_87 ?_
            refine lv_iload hx hb dX7_taken_90 (lv_at hl 4 rfl) ?_
            refine lv_aload_n hx hb dX7_taken_92 rfl (lv_at hl 0 rfl) ?_
            refine va_get (D := D) (ci := 7) (v := .ref z9) (C := RX7) (T := TX7) (N := 17) hx hb hts inT7 hown hK hP 0 rfl rfl 15 (by decide) (hts _ mT_581) (fun _ h9 => h9) rfl dX7_taken_93 ?_
            refine lv_iload hx hb dX7_taken_96 (lv_at hl 4 rfl) ?_
            refine lv_iconst (v := 1) hx hb dX7_taken_98 (by decide) ?_
            refine lv_iadd hx hb dX7_taken_99 ?_
            obtain ⟨b100, hf⟩ := gd_some hf
            refine va_iald (n := 10) (f := z_77 9) hx hb hK hP 9 0 rfl rfl (ck_in b100) dX7_taken_100 ?_
            obtain ⟨b101, hf⟩ := gd_some hf
            refine va_iast (n := 10) (f := z_77 9) hx hb hK hP hD hS 9 0 rfl rfl (ck_in b101) dX7_taken_101 (fun H locs hP hD hS => ?_)
            have hP : va_P D vwCl ([(za, .inr (7, [.ref z1, .ref z2, .int (z_77 0 2), .ref z3, .ref z4, .int (z_77 0 5), .ref z5, .int (z_77 0 7), .ref z6, .ref z7, .ref z8, .int (z_77 0 11), .int (z_77 0 12), .int (z_77 0 13), .int (z_77 0 14), .ref z9, .int (z_77 0 16)])), (z1, .inl (cI, 367, .inl (z_77 1))), (z2, .inl (cI, 5872, .inl (z_77 2))), (z3, .inl (cI, 736, .inl (z_77 3))), (z4, .inl (cZ, 2, .inl (z_77 4))), (z5, .inl (cI, 60, .inl (z_77 5))), (z6, .inl (cI, 20, .inl (z_77 6))), (z7, .inl (cI, 20, .inl (z_77 7))), (z8, .inl (cI, 20, .inl (z_77 8))), (z9, .inl (cI, 10, .inl (upd (z_77 9) (Int32.toNatClampNeg x4_77) ((z_77 9) (Int32.toNatClampNeg (x4_77 + 1))))))]) H := hP
            have hD : va_D A ([(za, .inr (7, [.ref z1, .ref z2, .int (z_77 0 2), .ref z3, .ref z4, .int (z_77 0 5), .ref z5, .int (z_77 0 7), .ref z6, .ref z7, .ref z8, .int (z_77 0 11), .int (z_77 0 12), .int (z_77 0 13), .int (z_77 0 14), .ref z9, .int (z_77 0 16)])), (z1, .inl (cI, 367, .inl (z_77 1))), (z2, .inl (cI, 5872, .inl (z_77 2))), (z3, .inl (cI, 736, .inl (z_77 3))), (z4, .inl (cZ, 2, .inl (z_77 4))), (z5, .inl (cI, 60, .inl (z_77 5))), (z6, .inl (cI, 20, .inl (z_77 6))), (z7, .inl (cI, 20, .inl (z_77 7))), (z8, .inl (cI, 20, .inl (z_77 8))), (z9, .inl (cI, 10, .inl (upd (z_77 9) (Int32.toNatClampNeg x4_77) ((z_77 9) (Int32.toNatClampNeg (x4_77 + 1))))))]) := hD
            refine lv_iinc (v := x4_77 + 1) (lv' := [(4, .int (x4_77 + 1)), (0, .ref za), (1, .int x), (2, .int x2_18), (3, .int ((z 9) (Int32.toNatClampNeg x2_18)))]) hx hb dX7_taken_102 hl (k := 4) rfl rfl (by decide) rfl (fun ls hl => ?_)
            refine lv_goto (tgt := 77) hx hb dX7_taken_105 (by decide) ?_
            exact ih77 (x4_77 + 1) (sA z_77 9 (upd (z_77 9) (Int32.toNatClampNeg x4_77) ((z_77 9) (Int32.toNatClampNeg (x4_77 + 1))))) _ _ _ hf hP hD hS (lv_sub hl [1, 2, 3, 4, 0] rfl)
      exact lh77 10000 x2_18 (sI z 16 ((z 0 16) - 1)) _ _ _ hf hP hD hS (lv_sub hl [2, 3, 4, 1, 0] rfl)
    have lh18 : ∀ (fu18 : Nat) (x2_18 : Int32) (x3_18 : Int32) (H : Heap) (locs : List Loc) (ls : Array Slot), lp_m_taken_18 z x (k_m_taken_18 z) fu18 x2_18 x3_18 = some (r, u) → va_P D vwCl (cModel cI cZ za z1 z2 z3 z4 z5 z6 z7 z8 z9 z) H → va_D A (cModel cI cZ za z1 z2 z3 z4 z5 z6 z7 z8 z9 z) → va_S A s.heap H locs → lv_has ls 5 [(0, .ref za), (1, .int x), (2, .int x2_18), (3, .int x3_18)] → W p l e ({ frames := 0, cells := 0, slots := 0, locals := 0 } : Room) s m ([.ref za, .int x] : List Value).toArray below meth c H locs 0 0 Q (F0 m 18 ls []) := by
      intro fu18
      induction fu18 with
      | zero => intro x2_18 x3_18 H locs ls hf hP hD hS hl; exact no_none hf
      | succ fu18 ih18 =>
        intro x2_18 x3_18 H locs ls hf hP hD hS hl
        rw [lp_m_taken_18] at hf
        refine lv_iload_n hx hb dX7_taken_18 rfl (lv_at hl 3 rfl) ?_
        refine lv_aload_n hx hb dX7_taken_19 rfl (lv_at hl 0 rfl) ?_
        refine va_get (D := D) (ci := 7) (v := .int (z 0 16)) (C := RX7) (T := TX7) (N := 17) hx hb hts inT7 hown hK hP 0 rfl rfl 16 (by decide) (hts _ mT_582) (fun _ h9 => h9) rfl dX7_taken_20 ?_
        refine lv_icmp_ge (tgt := 57) hx hb dX7_taken_23 (by decide) (fun c23 => ?_) (fun c23 => ?_)
        · have hf := ite_t c23 hf
          exact kx18 x2_18 x3_18 _ _ _ hf hP hD hS (lv_sub hl [0, 1, 2, 3] rfl)
        · have hf := ite_f c23 hf
          refine lv_iload_n hx hb dX7_taken_26 rfl (lv_at hl 1 rfl) ?_
          refine lv_if_ne (tgt := 57) hx hb dX7_taken_27 (by decide) (fun c27 => ?_) (fun c27 => ?_)
          · have hf := ite_f c27 hf
            exact kx18 x2_18 x3_18 _ _ _ hf hP hD hS (lv_sub hl [0, 1, 2, 3] rfl)
          · have hf := ite_t c27 hf
            refine lv_aload_n hx hb dX7_taken_30 rfl (lv_at hl 0 rfl) ?_
            refine va_get (D := D) (ci := 7) (v := .ref z9) (C := RX7) (T := TX7) (N := 17) hx hb hts inT7 hown hK hP 0 rfl rfl 15 (by decide) (hts _ mT_581) (fun _ h9 => h9) rfl dX7_taken_31 ?_
            refine lv_iload_n hx hb dX7_taken_34 rfl (lv_at hl 3 rfl) ?_
            obtain ⟨b35, hf⟩ := gd_some hf
            refine va_iald (n := 10) (f := z 9) hx hb hK hP 9 0 rfl rfl (ck_in b35) dX7_taken_35 ?_
            refine lv_aload_n hx hb dX7_taken_36 rfl (lv_at hl 0 rfl) ?_
            refine va_get (D := D) (ci := 7) (v := .ref z9) (C := RX7) (T := TX7) (N := 17) hx hb hts inT7 hown hK hP 0 rfl rfl 15 (by decide) (hts _ mT_581) (fun _ h9 => h9) rfl dX7_taken_37 ?_
            refine lv_iload_n hx hb dX7_taken_40 rfl (lv_at hl 2 rfl) ?_
            obtain ⟨b41, hf⟩ := gd_some hf
            refine va_iald (n := 10) (f := z 9) hx hb hK hP 9 0 rfl rfl (ck_in b41) dX7_taken_41 ?_
            refine lv_icmp_ge (tgt := 49) hx hb dX7_taken_42 (by decide) (fun c42 => ?_) (fun c42 => ?_)
            · have hf := ite_t c42 hf
              refine lv_iload_n hx hb dX7_taken_49 rfl (lv_at hl 2 rfl) ?_
              refine lv_istore_n (lv' := [(2, .int x2_18), (0, .ref za), (1, .int x), (3, .int x3_18)]) hx hb dX7_taken_50 rfl hl (by decide) rfl (fun ls hl => ?_)
              refine lv_iinc (v := x3_18 + 1) (lv' := [(3, .int (x3_18 + 1)), (2, .int x2_18), (0, .ref za), (1, .int x)]) hx hb dX7_taken_51 hl (k := 3) rfl rfl (by decide) rfl (fun ls hl => ?_)
              refine lv_goto (tgt := 18) hx hb dX7_taken_54 (by decide) ?_
              exact ih18 x2_18 (x3_18 + 1) _ _ _ hf hP hD hS (lv_sub hl [2, 3, 1, 0] rfl)
            · have hf := ite_f c42 hf
              refine lv_iload_n hx hb dX7_taken_45 rfl (lv_at hl 3 rfl) ?_
              refine lv_goto (tgt := 50) hx hb dX7_taken_46 (by decide) ?_
              refine lv_istore_n (lv' := [(2, .int x3_18), (0, .ref za), (1, .int x), (3, .int x3_18)]) hx hb dX7_taken_50 rfl hl (by decide) rfl (fun ls hl => ?_)
              refine lv_iinc (v := x3_18 + 1) (lv' := [(3, .int (x3_18 + 1)), (2, .int x3_18), (0, .ref za), (1, .int x)]) hx hb dX7_taken_51 hl (k := 3) rfl rfl (by decide) rfl (fun ls hl => ?_)
              refine lv_goto (tgt := 18) hx hb dX7_taken_54 (by decide) ?_
              exact ih18 x3_18 (x3_18 + 1) _ _ _ hf hP hD hS (lv_sub hl [2, 3, 1, 0] rfl)
    exact lh18 10000 ((z 0 16) - 1) 0 _ _ _ hf hP hD hS (lv_sub hl [2, 3, 1, 0] rfl)
theorem s_yX7_works : kMS yX7_works cX7_works 7 (some .int) 3 := ⟨mT_694, mT_59, by decide +kernel⟩
theorem v_yX7_works : kMV yX7_works := ⟨mT_693, mT_35⟩
def k_m_works_61 (x4_61 : Int32) (z_61 : Ob) : Option (Int32 × Ob) := if (z_61 0 16) ≤ 0 then (some (x4_61, z_61)) else (some ((-1), z_61))
def k_m_works_141 (x4_61 : Int32) (go_L61 : Int32 → Ob → Option (Int32 × Ob)) (x6_141 : Int32) (z_141 : Ob) : Option (Int32 × Ob) := go_L61 (x4_61 + 1) z_141
def lp_m_works_141 (y : Int32) (q78 : (Int32 × Ob)) (kk0 : Int32 → Ob → Option (Int32 × Ob)) : Nat → Int32 → Ob → Option (Int32 × Ob)
  | 0, _, _ => none
  | fu141 + 1, x6_141, z_141 => if ((z_141 1) (Int32.toNatClampNeg 2)) ≤ x6_141 then (kk0 x6_141 z_141) else (if x6_141 = y then ((lp_m_works_141 y q78 kk0 fu141) (x6_141 + 1) z_141) else (bd (f_m_of z_141 x6_141 0) (fun q162 => if q162 = q78.1 then (bd (f_m_of z_141 x6_141 1) (fun q175 => bd (f_m_waits z_141 q175) (fun q178 => if q178 = 0 then (bd (f_m_of z_141 x6_141 1) (fun q196 => gd (ck (z_141 0 16) 10) ((lp_m_works_141 y q78 kk0 fu141) (x6_141 + 1) (sI (sA z_141 9 (upd (z_141 9) (Int32.toNatClampNeg (z_141 0 16)) q196)) 16 ((z_141 0 16) + 1))))) else ((lp_m_works_141 y q78 kk0 fu141) (x6_141 + 1) z_141)))) else ((lp_m_works_141 y q78 kk0 fu141) (x6_141 + 1) z_141))))
def lp_m_works_61 (jj_ : Nat) (x : Int32) (y : Int32) (kk0 : Int32 → Ob → Option (Int32 × Ob)) : Nat → Int32 → Ob → Option (Int32 × Ob)
  | 0, _, _ => none
  | fu61 + 1, x4_61, z_61 => if (z_61 0 16) ≤ 0 then (kk0 x4_61 z_61) else (if 2000 ≤ x4_61 then (kk0 x4_61 z_61) else (bd (f_m_taken z_61 x) (fun q78 => bd (f_m_gathers jj_ q78.2 q78.1 y) (fun q91 => gd (ck q78.1 20) (if (q91 0 13) = ((q91 jj_) (Int32.toNatClampNeg q78.1)) then (gd (ck (10 + q78.1) 20) (if (q91 0 14) = ((q91 jj_) (Int32.toNatClampNeg (10 + q78.1))) then ((lp_m_works_61 jj_ x y kk0 fu61) (x4_61 + 1) q91) else (gd (ck q78.1 20) (gd (ck (10 + q78.1) 20) (lp_m_works_141 y q78 (k_m_works_141 x4_61 ((lp_m_works_61 jj_ x y kk0 fu61))) 10000 0 (sA (sA q91 jj_ (upd (q91 jj_) (Int32.toNatClampNeg q78.1) (q91 0 13))) jj_ (upd (upd (q91 jj_) (Int32.toNatClampNeg q78.1) (q91 0 13)) (Int32.toNatClampNeg (10 + q78.1)) (q91 0 14)))))))) else (gd (ck q78.1 20) (gd (ck (10 + q78.1) 20) (lp_m_works_141 y q78 (k_m_works_141 x4_61 ((lp_m_works_61 jj_ x y kk0 fu61))) 10000 0 (sA (sA q91 jj_ (upd (q91 jj_) (Int32.toNatClampNeg q78.1) (q91 0 13))) jj_ (upd (upd (q91 jj_) (Int32.toNatClampNeg q78.1) (q91 0 13)) (Int32.toNatClampNeg (10 + q78.1)) (q91 0 14)))))))))))
def k_m_works_34 (jj_ : Nat) (x : Int32) (y : Int32) (x4_34 : Int32) (z_34 : Ob) : Option (Int32 × Ob) := lp_m_works_61 jj_ x y k_m_works_61 10000 0 z_34
def lp_m_works_34 (kk0 : Int32 → Ob → Option (Int32 × Ob)) : Nat → Int32 → Ob → Option (Int32 × Ob)
  | 0, _, _ => none
  | fu34 + 1, x4_34, z_34 => if (z_34 0 16) ≤ x4_34 then (kk0 x4_34 z_34) else (gd (ck x4_34 10) ((lp_m_works_34 kk0 fu34) (x4_34 + 1) (sA z_34 9 (upd (z_34 9) (Int32.toNatClampNeg x4_34) x4_34))))
def k_m_works_3 (jj_ : Nat) (x : Int32) (y : Int32) (x4_3 : Int32) (z_3 : Ob) : Option (Int32 × Ob) := lp_m_works_34 (k_m_works_34 jj_ x y) 10000 0 (sI z_3 16 ((z_3 1) (Int32.toNatClampNeg 1)))
def lp_m_works_3 (jj_ : Nat) (kk0 : Int32 → Ob → Option (Int32 × Ob)) : Nat → Int32 → Ob → Option (Int32 × Ob)
  | 0, _, _ => none
  | fu3 + 1, x4_3, z_3 => if 20 ≤ x4_3 then (kk0 x4_3 z_3) else (gd (ck x4_3 20) ((lp_m_works_3 jj_ kk0 fu3) (x4_3 + 1) (sA z_3 jj_ (upd (z_3 jj_) (Int32.toNatClampNeg x4_3) 0))))
def f_m_works (jj_ : Nat) (z : Ob) (x : Int32) (y : Int32) : Option (Int32 × Ob) := lp_m_works_3 jj_ (k_m_works_3 jj_ x y) 10000 0 z
set_option maxHeartbeats 4000000 in
set_option maxRecDepth 100000 in
theorem c_m_works6 (l : Launch) (D : va_G) (cI cZ cR : ClassId) (za z1 z2 z3 z4 z5 z6 z7 z8 z9 : Nat) (z : Ob) (x : Int32) (y : Int32) (sz : Nat) (r : Int32) (u : Ob) (hf : f_m_works 6 z x y = some (r, u)) : kCi l yX7_works cX7_works 7 (some .int) { frames := 4, cells := 0, slots := 0, locals := 92 } [.ref za, .ref z6, .int x, .int y] D cI cZ cR (cModel cI cZ za z1 z2 z3 z4 z5 z6 z7 z8 z9 z) sz (cModel cI cZ za z1 z2 z3 z4 z5 z6 z7 z8 z9 u) r := by
  refine kMwi (wf := (fun u : Ob => cModel cI cZ za z1 z2 z3 z4 z5 z6 z7 z8 z9 u)) (u := u) (by decide) (Nat.le_of_ble_eq_true rfl) ?_
  intro p e s m below meth c Q A hx hb hml hown hts hk hP hD hA hS hret ls hl
  have hS0 := hS
  have hK := hk.1
  have hl : lv_has ls 7 [(0, .ref za), (1, .ref z6), (2, .int x), (3, .int y)] := hl
  rw [f_m_works] at hf
  refine lv_iconst (v := 0) hx hb dX7_works_0 (by decide) ?_
  refine lv_istore (lv' := [(4, .int 0), (0, .ref za), (1, .ref z6), (2, .int x), (3, .int y)]) hx hb dX7_works_1 hl (by decide) rfl (fun ls hl => ?_)
  have kx3 : ∀ (x4_3 : Int32) (z_3 : Ob) (H : Heap) (locs : List Loc) (ls : Array Slot), (k_m_works_3 6 x y) x4_3 z_3 = some (r, u) → va_P D vwCl (cModel cI cZ za z1 z2 z3 z4 z5 z6 z7 z8 z9 z_3) H → va_D A (cModel cI cZ za z1 z2 z3 z4 z5 z6 z7 z8 z9 z_3) → va_S A s.heap H locs → lv_has ls 7 [(0, .ref za), (1, .ref z6), (2, .int x), (3, .int y), (4, .int x4_3)] → W p l e ({ frames := 4, cells := 0, slots := 0, locals := 92 } : Room) s m ([.ref za, .ref z6, .int x, .int y] : List Value).toArray below meth c H locs 0 0 Q (F0 m 21 ls []) := by
    intro x4_3 z_3 H locs ls hf hP hD hS hl
    rw [k_m_works_3] at hf
    refine lv_aload_n hx hb dX7_works_21 rfl (lv_at hl 0 rfl) ?_
    refine lv_aload_n hx hb dX7_works_22 rfl (lv_at hl 0 rfl) ?_
    refine va_get (D := D) (ci := 7) (v := .ref z1) (C := RX7) (T := TX7) (N := 17) hx hb hts inT7 hown hK hP 0 rfl rfl 0 (by decide) (hts _ mT_566) (fun _ h9 => h9) rfl dX7_works_23 ?_
    refine lv_iconst (v := 1) hx hb dX7_works_26 (by decide) ?_
    refine va_iald (n := 367) (f := z_3 1) hx hb hK hP 1 0 rfl rfl (ck_in (by decide)) dX7_works_27 ?_
    refine va_put (D := D) (ci := 7) (v := .int ((z_3 1) (Int32.toNatClampNeg 1))) (ty := .int) (C := RX7) (T := TX7) (N := 17) hx hb hts inT7 tyX7 tyX7_ok nmX7 hown hK hP hD hS 0 rfl rfl 16 (by decide) (hts _ mT_582) (fun _ h9 => h9) rfl (by decide +kernel) rfl rfl (Nat.le_of_ble_eq_true rfl) dX7_works_28 (fun H locs hP hD hS => ?_)
    have hP : va_P D vwCl ([(za, .inr (7, [.ref z1, .ref z2, .int (z_3 0 2), .ref z3, .ref z4, .int (z_3 0 5), .ref z5, .int (z_3 0 7), .ref z6, .ref z7, .ref z8, .int (z_3 0 11), .int (z_3 0 12), .int (z_3 0 13), .int (z_3 0 14), .ref z9, .int ((z_3 1) (Int32.toNatClampNeg 1))])), (z1, .inl (cI, 367, .inl (z_3 1))), (z2, .inl (cI, 5872, .inl (z_3 2))), (z3, .inl (cI, 736, .inl (z_3 3))), (z4, .inl (cZ, 2, .inl (z_3 4))), (z5, .inl (cI, 60, .inl (z_3 5))), (z6, .inl (cI, 20, .inl (z_3 6))), (z7, .inl (cI, 20, .inl (z_3 7))), (z8, .inl (cI, 20, .inl (z_3 8))), (z9, .inl (cI, 10, .inl (z_3 9)))]) H := hP
    have hD : va_D A ([(za, .inr (7, [.ref z1, .ref z2, .int (z_3 0 2), .ref z3, .ref z4, .int (z_3 0 5), .ref z5, .int (z_3 0 7), .ref z6, .ref z7, .ref z8, .int (z_3 0 11), .int (z_3 0 12), .int (z_3 0 13), .int (z_3 0 14), .ref z9, .int ((z_3 1) (Int32.toNatClampNeg 1))])), (z1, .inl (cI, 367, .inl (z_3 1))), (z2, .inl (cI, 5872, .inl (z_3 2))), (z3, .inl (cI, 736, .inl (z_3 3))), (z4, .inl (cZ, 2, .inl (z_3 4))), (z5, .inl (cI, 60, .inl (z_3 5))), (z6, .inl (cI, 20, .inl (z_3 6))), (z7, .inl (cI, 20, .inl (z_3 7))), (z8, .inl (cI, 20, .inl (z_3 8))), (z9, .inl (cI, 10, .inl (z_3 9)))]) := hD
    refine lv_iconst (v := 0) hx hb dX7_works_31 (by decide) ?_
    refine lv_istore (lv' := [(4, .int 0), (0, .ref za), (1, .ref z6), (2, .int x), (3, .int y)]) hx hb dX7_works_32 hl (by decide) rfl (fun ls hl => ?_)
    have kx34 : ∀ (x4_34 : Int32) (z_34 : Ob) (H : Heap) (locs : List Loc) (ls : Array Slot), (k_m_works_34 6 x y) x4_34 z_34 = some (r, u) → va_P D vwCl (cModel cI cZ za z1 z2 z3 z4 z5 z6 z7 z8 z9 z_34) H → va_D A (cModel cI cZ za z1 z2 z3 z4 z5 z6 z7 z8 z9 z_34) → va_S A s.heap H locs → lv_has ls 7 [(0, .ref za), (1, .ref z6), (2, .int x), (3, .int y), (4, .int x4_34)] → W p l e ({ frames := 4, cells := 0, slots := 0, locals := 92 } : Room) s m ([.ref za, .ref z6, .int x, .int y] : List Value).toArray below meth c H locs 0 0 Q (F0 m 58 ls []) := by
      intro x4_34 z_34 H locs ls hf hP hD hS hl
      rw [k_m_works_34] at hf
      refine lv_iconst (v := 0) hx hb dX7_works_58 (by decide) ?_
      refine lv_istore (lv' := [(4, .int 0), (0, .ref za), (1, .ref z6), (2, .int x), (3, .int y)]) hx hb dX7_works_59 hl (by decide) rfl (fun ls hl => ?_)
      have kx61 : ∀ (x4_61 : Int32) (z_61 : Ob) (H : Heap) (locs : List Loc) (ls : Array Slot), k_m_works_61 x4_61 z_61 = some (r, u) → va_P D vwCl (cModel cI cZ za z1 z2 z3 z4 z5 z6 z7 z8 z9 z_61) H → va_D A (cModel cI cZ za z1 z2 z3 z4 z5 z6 z7 z8 z9 z_61) → va_S A s.heap H locs → lv_has ls 7 [(0, .ref za), (1, .ref z6), (2, .int x), (3, .int y), (4, .int x4_61)] → W p l e ({ frames := 4, cells := 0, slots := 0, locals := 92 } : Room) s m ([.ref za, .ref z6, .int x, .int y] : List Value).toArray below meth c H locs 0 0 Q (F0 m 219 ls []) := by
        intro x4_61 z_61 H locs ls hf hP hD hS hl
        rw [k_m_works_61] at hf
        refine lv_aload_n hx hb dX7_works_219 rfl (lv_at hl 0 rfl) ?_
        refine va_get (D := D) (ci := 7) (v := .int (z_61 0 16)) (C := RX7) (T := TX7) (N := 17) hx hb hts inT7 hown hK hP 0 rfl rfl 16 (by decide) (hts _ mT_582) (fun _ h9 => h9) rfl dX7_works_220 ?_
        refine lv_if_le (tgt := 230) hx hb dX7_works_223 (by decide) (fun c223 => ?_) (fun c223 => ?_)
        · have hf := ite_t c223 hf
          refine lv_iload hx hb dX7_works_230 (lv_at hl 4 rfl) ?_
          exact hret _ _ _ z_61 _ _ hf dX7_works_232 hP hD hS
        · have hf := ite_f c223 hf
          refine lv_iconst (v := (-1)) hx hb dX7_works_226 (by decide) ?_
          refine lv_goto (tgt := 232) hx hb dX7_works_227 (by decide) ?_
          exact hret _ _ _ z_61 _ _ hf dX7_works_232 hP hD hS
      have lh61 : ∀ (fu61 : Nat) (x4_61 : Int32) (z_61 : Ob) (H : Heap) (locs : List Loc) (ls : Array Slot), lp_m_works_61 6 x y k_m_works_61 fu61 x4_61 z_61 = some (r, u) → va_P D vwCl (cModel cI cZ za z1 z2 z3 z4 z5 z6 z7 z8 z9 z_61) H → va_D A (cModel cI cZ za z1 z2 z3 z4 z5 z6 z7 z8 z9 z_61) → va_S A s.heap H locs → lv_has ls 7 [(0, .ref za), (1, .ref z6), (2, .int x), (3, .int y), (4, .int x4_61)] → W p l e ({ frames := 4, cells := 0, slots := 0, locals := 92 } : Room) s m ([.ref za, .ref z6, .int x, .int y] : List Value).toArray below meth c H locs 0 0 Q (F0 m 61 ls []) := by
        intro fu61
        induction fu61 with
        | zero => intro x4_61 z_61 H locs ls hf hP hD hS hl; exact no_none hf
        | succ fu61 ih61 =>
          intro x4_61 z_61 H locs ls hf hP hD hS hl
          rw [lp_m_works_61] at hf
          refine lv_aload_n hx hb dX7_works_61 rfl (lv_at hl 0 rfl) ?_
          refine va_get (D := D) (ci := 7) (v := .int (z_61 0 16)) (C := RX7) (T := TX7) (N := 17) hx hb hts inT7 hown hK hP 0 rfl rfl 16 (by decide) (hts _ mT_582) (fun _ h9 => h9) rfl dX7_works_62 ?_
          refine lv_if_le (tgt := 219) hx hb dX7_works_65 (by decide) (fun c65 => ?_) (fun c65 => ?_)
          · have hf := ite_t c65 hf
            exact kx61 x4_61 z_61 _ _ _ hf hP hD hS (lv_sub hl [0, 1, 2, 3, 4] rfl)
          · have hf := ite_f c65 hf
            refine lv_iload hx hb dX7_works_68 (lv_at hl 4 rfl) ?_
            refine lv_sipush (v := 2000) hx hb dX7_works_70 (by decide) ?_
            refine lv_icmp_ge (tgt := 219) hx hb dX7_works_73 (by decide) (fun c73 => ?_) (fun c73 => ?_)
            · have hf := ite_t c73 hf
              exact kx61 x4_61 z_61 _ _ _ hf hP hD hS (lv_sub hl [0, 1, 2, 3, 4] rfl)
            · have hf := ite_f c73 hf
              refine lv_aload_n hx hb dX7_works_76 rfl (lv_at hl 0 rfl) ?_
              refine lv_iload_n hx hb dX7_works_77 rfl (lv_at hl 2 rfl) ?_
              obtain ⟨q78, h78, hf⟩ := bd_some hf
              refine kx_wi (As := [.int x]) (rest := []) (wc := cModel cI cZ za z1 z2 z3 z4 z5 z6 z7 z8 z9 z_61) (wr := []) (wd := cModel cI cZ za z1 z2 z3 z4 z5 z6 z7 z8 z9 q78.2) (wn := cModel cI cZ za z1 z2 z3 z4 z5 z6 z7 z8 z9 q78.2) hx hb hml hown hts hk hP hD hS hA hl.1 s_yX7_taken v_yX7_taken (c_m_taken l D cI cZ cR za z1 z2 z3 z4 z5 z6 z7 z8 z9 z_61 x H.size _ _ h78) mT_695 rfl rfl ⟨Nat.le_of_ble_eq_true rfl, Nat.le_of_ble_eq_true rfl⟩ [0, 1, 2, 3, 4, 5, 6, 7, 8, 9] [] [0, 1, 2, 3, 4, 5, 6, 7, 8, 9] rfl rfl (by decide) (by decide) (by decide) (by decide) rfl (ci := 7) (q0 := 0) rfl rfl rfl (Nat.le_of_ble_eq_true rfl) ⟨Nat.zero_le _, Nat.zero_le _⟩ dX7_works_78 (fun H locs hP hD hS => ?_)
              refine lv_istore (lv' := [(5, .int q78.1), (0, .ref za), (1, .ref z6), (2, .int x), (3, .int y), (4, .int x4_61)]) hx hb dX7_works_81 hl (by decide) rfl (fun ls hl => ?_)
              refine lv_iinc (v := x4_61 + 1) (lv' := [(4, .int (x4_61 + 1)), (5, .int q78.1), (0, .ref za), (1, .ref z6), (2, .int x), (3, .int y)]) hx hb dX7_works_83 hl (k := 5) rfl rfl (by decide) rfl (fun ls hl => ?_)
              refine lv_aload_n hx hb dX7_works_86 rfl (lv_at hl 2 rfl) ?_
              refine lv_aload_n hx hb dX7_works_87 rfl (lv_at hl 3 rfl) ?_
              refine lv_iload hx hb dX7_works_88 (lv_at hl 1 rfl) ?_
              refine lv_iload_n hx hb dX7_works_90 rfl (lv_at hl 5 rfl) ?_
              obtain ⟨q91, h91, hf⟩ := bd_some hf
              refine kx_wv (As := [.ref z6, .int q78.1, .int y]) (rest := []) (wc := cModel cI cZ za z1 z2 z3 z4 z5 z6 z7 z8 z9 q78.2) (wr := []) (wd := cModel cI cZ za z1 z2 z3 z4 z5 z6 z7 z8 z9 q91) (wn := cModel cI cZ za z1 z2 z3 z4 z5 z6 z7 z8 z9 q91) hx hb hml hown hts hk hP hD hS hA hl.1 s_yX7_gathers v_yX7_gathers (c_m_gathers6 l D cI cZ cR za z1 z2 z3 z4 z5 z6 z7 z8 z9 q78.2 q78.1 y H.size _ h91) mT_671 rfl rfl ⟨Nat.le_of_ble_eq_true rfl, Nat.le_of_ble_eq_true rfl⟩ [0, 1, 2, 3, 4, 5, 6, 7, 8, 9] [] [0, 1, 2, 3, 4, 5, 6, 7, 8, 9] rfl rfl (by decide) (by decide) (by decide) (by decide) rfl (ci := 7) (q0 := 0) rfl rfl rfl (Nat.le_of_ble_eq_true rfl) ⟨Nat.zero_le _, Nat.zero_le _⟩ dX7_works_91 (fun H locs hP hD hS => ?_)
              refine lv_aload_n hx hb dX7_works_94 rfl (lv_at hl 2 rfl) ?_
              refine va_get (D := D) (ci := 7) (v := .int (q91 0 13)) (C := RX7) (T := TX7) (N := 17) hx hb hts inT7 hown hK hP 0 rfl rfl 13 (by decide) (hts _ mT_579) (fun _ h9 => h9) rfl dX7_works_95 ?_
              refine lv_aload_n hx hb dX7_works_98 rfl (lv_at hl 3 rfl) ?_
              refine lv_iload hx hb dX7_works_99 (lv_at hl 1 rfl) ?_
              obtain ⟨b101, hf⟩ := gd_some hf
              refine va_iald (n := 20) (f := q91 6) hx hb hK hP 6 0 rfl rfl (ck_in b101) dX7_works_101 ?_
              refine lv_icmp_ne (tgt := 119) hx hb dX7_works_102 (by decide) (fun c102 => ?_) (fun c102 => ?_)
              · have hf := ite_f c102 hf
                refine lv_aload_n hx hb dX7_works_119 rfl (lv_at hl 3 rfl) ?_
                refine lv_iload hx hb dX7_works_120 (lv_at hl 1 rfl) ?_
                refine lv_aload_n hx hb dX7_works_122 rfl (lv_at hl 2 rfl) ?_
                refine va_get (D := D) (ci := 7) (v := .int (q91 0 13)) (C := RX7) (T := TX7) (N := 17) hx hb hts inT7 hown hK hP 0 rfl rfl 13 (by decide) (hts _ mT_579) (fun _ h9 => h9) rfl dX7_works_123 ?_
                obtain ⟨b126, hf⟩ := gd_some hf
                refine va_iast (n := 20) (f := q91 6) hx hb hK hP hD hS 6 0 rfl rfl (ck_in b126) dX7_works_126 (fun H locs hP hD hS => ?_)
                have hP : va_P D vwCl ([(za, .inr (7, [.ref z1, .ref z2, .int (q91 0 2), .ref z3, .ref z4, .int (q91 0 5), .ref z5, .int (q91 0 7), .ref z6, .ref z7, .ref z8, .int (q91 0 11), .int (q91 0 12), .int (q91 0 13), .int (q91 0 14), .ref z9, .int (q91 0 16)])), (z1, .inl (cI, 367, .inl (q91 1))), (z2, .inl (cI, 5872, .inl (q91 2))), (z3, .inl (cI, 736, .inl (q91 3))), (z4, .inl (cZ, 2, .inl (q91 4))), (z5, .inl (cI, 60, .inl (q91 5))), (z6, .inl (cI, 20, .inl (upd (q91 6) (Int32.toNatClampNeg q78.1) (q91 0 13)))), (z7, .inl (cI, 20, .inl (q91 7))), (z8, .inl (cI, 20, .inl (q91 8))), (z9, .inl (cI, 10, .inl (q91 9)))]) H := hP
                have hD : va_D A ([(za, .inr (7, [.ref z1, .ref z2, .int (q91 0 2), .ref z3, .ref z4, .int (q91 0 5), .ref z5, .int (q91 0 7), .ref z6, .ref z7, .ref z8, .int (q91 0 11), .int (q91 0 12), .int (q91 0 13), .int (q91 0 14), .ref z9, .int (q91 0 16)])), (z1, .inl (cI, 367, .inl (q91 1))), (z2, .inl (cI, 5872, .inl (q91 2))), (z3, .inl (cI, 736, .inl (q91 3))), (z4, .inl (cZ, 2, .inl (q91 4))), (z5, .inl (cI, 60, .inl (q91 5))), (z6, .inl (cI, 20, .inl (upd (q91 6) (Int32.toNatClampNeg q78.1) (q91 0 13)))), (z7, .inl (cI, 20, .inl (q91 7))), (z8, .inl (cI, 20, .inl (q91 8))), (z9, .inl (cI, 10, .inl (q91 9)))]) := hD
                refine lv_aload_n hx hb dX7_works_127 rfl (lv_at hl 3 rfl) ?_
                refine lv_bipush (v := 10) hx hb dX7_works_128 (by decide) ?_
                refine lv_iload hx hb dX7_works_130 (lv_at hl 1 rfl) ?_
                refine lv_iadd hx hb dX7_works_132 ?_
                refine lv_aload_n hx hb dX7_works_133 rfl (lv_at hl 2 rfl) ?_
                refine va_get (D := D) (ci := 7) (v := .int (q91 0 14)) (C := RX7) (T := TX7) (N := 17) hx hb hts inT7 hown hK hP 0 rfl rfl 14 (by decide) (hts _ mT_580) (fun _ h9 => h9) rfl dX7_works_134 ?_
                obtain ⟨b137, hf⟩ := gd_some hf
                refine va_iast (n := 20) (f := upd (q91 6) (Int32.toNatClampNeg q78.1) (q91 0 13)) hx hb hK hP hD hS 6 0 rfl rfl (ck_in b137) dX7_works_137 (fun H locs hP hD hS => ?_)
                have hP : va_P D vwCl ([(za, .inr (7, [.ref z1, .ref z2, .int (q91 0 2), .ref z3, .ref z4, .int (q91 0 5), .ref z5, .int (q91 0 7), .ref z6, .ref z7, .ref z8, .int (q91 0 11), .int (q91 0 12), .int (q91 0 13), .int (q91 0 14), .ref z9, .int (q91 0 16)])), (z1, .inl (cI, 367, .inl (q91 1))), (z2, .inl (cI, 5872, .inl (q91 2))), (z3, .inl (cI, 736, .inl (q91 3))), (z4, .inl (cZ, 2, .inl (q91 4))), (z5, .inl (cI, 60, .inl (q91 5))), (z6, .inl (cI, 20, .inl (upd (upd (q91 6) (Int32.toNatClampNeg q78.1) (q91 0 13)) (Int32.toNatClampNeg (10 + q78.1)) (q91 0 14)))), (z7, .inl (cI, 20, .inl (q91 7))), (z8, .inl (cI, 20, .inl (q91 8))), (z9, .inl (cI, 10, .inl (q91 9)))]) H := hP
                have hD : va_D A ([(za, .inr (7, [.ref z1, .ref z2, .int (q91 0 2), .ref z3, .ref z4, .int (q91 0 5), .ref z5, .int (q91 0 7), .ref z6, .ref z7, .ref z8, .int (q91 0 11), .int (q91 0 12), .int (q91 0 13), .int (q91 0 14), .ref z9, .int (q91 0 16)])), (z1, .inl (cI, 367, .inl (q91 1))), (z2, .inl (cI, 5872, .inl (q91 2))), (z3, .inl (cI, 736, .inl (q91 3))), (z4, .inl (cZ, 2, .inl (q91 4))), (z5, .inl (cI, 60, .inl (q91 5))), (z6, .inl (cI, 20, .inl (upd (upd (q91 6) (Int32.toNatClampNeg q78.1) (q91 0 13)) (Int32.toNatClampNeg (10 + q78.1)) (q91 0 14)))), (z7, .inl (cI, 20, .inl (q91 7))), (z8, .inl (cI, 20, .inl (q91 8))), (z9, .inl (cI, 10, .inl (q91 9)))]) := hD
                refine lv_iconst (v := 0) hx hb dX7_works_138 (by decide) ?_
                refine lv_istore (lv' := [(6, .int 0), (4, .int (x4_61 + 1)), (5, .int q78.1), (0, .ref za), (1, .ref z6), (2, .int x), (3, .int y)]) hx hb dX7_works_139 hl (by decide) rfl (fun ls hl => ?_)
                have kx141 : ∀ (x6_141 : Int32) (z_141 : Ob) (H : Heap) (locs : List Loc) (ls : Array Slot), (k_m_works_141 x4_61 ((lp_m_works_61 6 x y k_m_works_61 fu61))) x6_141 z_141 = some (r, u) → va_P D vwCl (cModel cI cZ za z1 z2 z3 z4 z5 z6 z7 z8 z9 z_141) H → va_D A (cModel cI cZ za z1 z2 z3 z4 z5 z6 z7 z8 z9 z_141) → va_S A s.heap H locs → lv_has ls 7 [(0, .ref za), (1, .ref z6), (2, .int x), (3, .int y), (4, .int (x4_61 + 1)), (5, .int q78.1), (6, .int x6_141)] → W p l e ({ frames := 4, cells := 0, slots := 0, locals := 92 } : Room) s m ([.ref za, .ref z6, .int x, .int y] : List Value).toArray below meth c H locs 0 0 Q (F0 m 216 ls []) := by
                  intro x6_141 z_141 H locs ls hf hP hD hS hl
                  rw [k_m_works_141] at hf
                  refine lv_goto (tgt := 61) hx hb dX7_works_216 (by decide) ?_
                  exact ih61 (x4_61 + 1) z_141 _ _ _ hf hP hD hS (lv_sub hl [0, 1, 2, 3, 4] rfl)
                have lh141 : ∀ (fu141 : Nat) (x6_141 : Int32) (z_141 : Ob) (H : Heap) (locs : List Loc) (ls : Array Slot), lp_m_works_141 y q78 (k_m_works_141 x4_61 ((lp_m_works_61 6 x y k_m_works_61 fu61))) fu141 x6_141 z_141 = some (r, u) → va_P D vwCl (cModel cI cZ za z1 z2 z3 z4 z5 z6 z7 z8 z9 z_141) H → va_D A (cModel cI cZ za z1 z2 z3 z4 z5 z6 z7 z8 z9 z_141) → va_S A s.heap H locs → lv_has ls 7 [(0, .ref za), (1, .ref z6), (2, .int x), (3, .int y), (4, .int (x4_61 + 1)), (5, .int q78.1), (6, .int x6_141)] → W p l e ({ frames := 4, cells := 0, slots := 0, locals := 92 } : Room) s m ([.ref za, .ref z6, .int x, .int y] : List Value).toArray below meth c H locs 0 0 Q (F0 m 141 ls []) := by
                  intro fu141
                  induction fu141 with
                  | zero => intro x6_141 z_141 H locs ls hf hP hD hS hl; exact no_none hf
                  | succ fu141 ih141 =>
                    intro x6_141 z_141 H locs ls hf hP hD hS hl
                    rw [lp_m_works_141] at hf
                    refine lv_iload hx hb dX7_works_141 (lv_at hl 6 rfl) ?_
                    refine lv_aload_n hx hb dX7_works_143 rfl (lv_at hl 0 rfl) ?_
                    refine va_get (D := D) (ci := 7) (v := .ref z1) (C := RX7) (T := TX7) (N := 17) hx hb hts inT7 hown hK hP 0 rfl rfl 0 (by decide) (hts _ mT_566) (fun _ h9 => h9) rfl dX7_works_144 ?_
                    refine lv_iconst (v := 2) hx hb dX7_works_147 (by decide) ?_
                    refine va_iald (n := 367) (f := z_141 1) hx hb hK hP 1 0 rfl rfl (ck_in (by decide)) dX7_works_148 ?_
                    refine lv_icmp_ge (tgt := 216) hx hb dX7_works_149 (by decide) (fun c149 => ?_) (fun c149 => ?_)
                    · have hf := ite_t c149 hf
                      exact kx141 x6_141 z_141 _ _ _ hf hP hD hS (lv_sub hl [0, 1, 2, 3, 4, 5, 6] rfl)
                    · have hf := ite_f c149 hf
                      refine lv_iload hx hb dX7_works_152 (lv_at hl 6 rfl) ?_
                      refine lv_iload_n hx hb dX7_works_154 rfl (lv_at hl 3 rfl) ?_
                      refine lv_icmp_eq (tgt := 210) hx hb dX7_works_155 (by decide) (fun c155 => ?_) (fun c155 => ?_)
                      · have hf := ite_t c155 hf
                        refine lv_iinc (v := x6_141 + 1) (lv' := [(6, .int (x6_141 + 1)), (0, .ref za), (1, .ref z6), (2, .int x), (3, .int y), (4, .int (x4_61 + 1)), (5, .int q78.1)]) hx hb dX7_works_210 hl (k := 6) rfl rfl (by decide) rfl (fun ls hl => ?_)
                        refine lv_goto (tgt := 141) hx hb dX7_works_213 (by decide) ?_
                        exact ih141 (x6_141 + 1) z_141 _ _ _ hf hP hD hS (lv_sub hl [1, 2, 3, 4, 5, 6, 0] rfl)
                      · have hf := ite_f c155 hf
                        refine lv_aload_n hx hb dX7_works_158 rfl (lv_at hl 0 rfl) ?_
                        refine lv_iload hx hb dX7_works_159 (lv_at hl 6 rfl) ?_
                        refine lv_iconst (v := 0) hx hb dX7_works_161 (by decide) ?_
                        obtain ⟨q162, h162, hf⟩ := bd_some hf
                        refine kx_rv (As := [.int x6_141, .int 0]) (rest := []) hx hb hml hown hts hk hP hl.1 s_yX7_of v_yX7_of (c_m_of l D cI cZ cR za z1 z2 z3 z4 z5 z6 z7 z8 z9 z_141 x6_141 0 _ h162) mT_647 rfl rfl ⟨Nat.le_of_ble_eq_true rfl, Nat.le_of_ble_eq_true rfl⟩ (ci := 7) (q0 := 0) rfl rfl rfl (Nat.le_of_ble_eq_true rfl) ⟨Nat.zero_le _, Nat.zero_le _⟩ dX7_works_162 ?_
                        refine lv_iload hx hb dX7_works_165 (lv_at hl 5 rfl) ?_
                        refine lv_icmp_ne (tgt := 210) hx hb dX7_works_167 (by decide) (fun c167 => ?_) (fun c167 => ?_)
                        · have hf := ite_f c167 hf
                          refine lv_iinc (v := x6_141 + 1) (lv' := [(6, .int (x6_141 + 1)), (0, .ref za), (1, .ref z6), (2, .int x), (3, .int y), (4, .int (x4_61 + 1)), (5, .int q78.1)]) hx hb dX7_works_210 hl (k := 6) rfl rfl (by decide) rfl (fun ls hl => ?_)
                          refine lv_goto (tgt := 141) hx hb dX7_works_213 (by decide) ?_
                          exact ih141 (x6_141 + 1) z_141 _ _ _ hf hP hD hS (lv_sub hl [1, 2, 3, 4, 5, 6, 0] rfl)
                        · have hf := ite_t c167 hf
                          refine lv_aload_n hx hb dX7_works_170 rfl (lv_at hl 0 rfl) ?_
                          refine lv_aload_n hx hb dX7_works_171 rfl (lv_at hl 0 rfl) ?_
                          refine lv_iload hx hb dX7_works_172 (lv_at hl 6 rfl) ?_
                          refine lv_iconst (v := 1) hx hb dX7_works_174 (by decide) ?_
                          obtain ⟨q175, h175, hf⟩ := bd_some hf
                          refine kx_rv (As := [.int x6_141, .int 1]) (rest := [.ref za]) hx hb hml hown hts hk hP hl.1 s_yX7_of v_yX7_of (c_m_of l D cI cZ cR za z1 z2 z3 z4 z5 z6 z7 z8 z9 z_141 x6_141 1 _ h175) mT_647 rfl rfl ⟨Nat.le_of_ble_eq_true rfl, Nat.le_of_ble_eq_true rfl⟩ (ci := 7) (q0 := 0) rfl rfl rfl (Nat.le_of_ble_eq_true rfl) ⟨Nat.zero_le _, Nat.zero_le _⟩ dX7_works_175 ?_
                          obtain ⟨q178, h178, hf⟩ := bd_some hf
                          refine kx_rv (As := [.int q175]) (rest := []) hx hb hml hown hts hk hP hl.1 s_yX7_waits v_yX7_waits (c_m_waits l D cI cZ cR za z1 z2 z3 z4 z5 z6 z7 z8 z9 z_141 q175 _ h178) mT_699 rfl rfl ⟨Nat.le_of_ble_eq_true rfl, Nat.le_of_ble_eq_true rfl⟩ (ci := 7) (q0 := 0) rfl rfl rfl (Nat.le_of_ble_eq_true rfl) ⟨Nat.zero_le _, Nat.zero_le _⟩ dX7_works_178 ?_
                          refine lv_if_ne (tgt := 210) hx hb dX7_works_181 (by decide) (fun c181 => ?_) (fun c181 => ?_)
                          · have hf := ite_f c181 hf
                            refine lv_iinc (v := x6_141 + 1) (lv' := [(6, .int (x6_141 + 1)), (0, .ref za), (1, .ref z6), (2, .int x), (3, .int y), (4, .int (x4_61 + 1)), (5, .int q78.1)]) hx hb dX7_works_210 hl (k := 6) rfl rfl (by decide) rfl (fun ls hl => ?_)
                            refine lv_goto (tgt := 141) hx hb dX7_works_213 (by decide) ?_
                            exact ih141 (x6_141 + 1) z_141 _ _ _ hf hP hD hS (lv_sub hl [1, 2, 3, 4, 5, 6, 0] rfl)
                          · have hf := ite_t c181 hf
                            refine lv_aload_n hx hb dX7_works_184 rfl (lv_at hl 0 rfl) ?_
                            refine va_get (D := D) (ci := 7) (v := .ref z9) (C := RX7) (T := TX7) (N := 17) hx hb hts inT7 hown hK hP 0 rfl rfl 15 (by decide) (hts _ mT_581) (fun _ h9 => h9) rfl dX7_works_185 ?_
                            refine lv_aload_n hx hb dX7_works_188 rfl (lv_at hl 0 rfl) ?_
                            refine va_get (D := D) (ci := 7) (v := .int (z_141 0 16)) (C := RX7) (T := TX7) (N := 17) hx hb hts inT7 hown hK hP 0 rfl rfl 16 (by decide) (hts _ mT_582) (fun _ h9 => h9) rfl dX7_works_189 ?_
                            refine lv_aload_n hx hb dX7_works_192 rfl (lv_at hl 0 rfl) ?_
                            refine lv_iload hx hb dX7_works_193 (lv_at hl 6 rfl) ?_
                            refine lv_iconst (v := 1) hx hb dX7_works_195 (by decide) ?_
                            obtain ⟨q196, h196, hf⟩ := bd_some hf
                            refine kx_rv (As := [.int x6_141, .int 1]) (rest := [.int (z_141 0 16), .ref z9]) hx hb hml hown hts hk hP hl.1 s_yX7_of v_yX7_of (c_m_of l D cI cZ cR za z1 z2 z3 z4 z5 z6 z7 z8 z9 z_141 x6_141 1 _ h196) mT_647 rfl rfl ⟨Nat.le_of_ble_eq_true rfl, Nat.le_of_ble_eq_true rfl⟩ (ci := 7) (q0 := 0) rfl rfl rfl (Nat.le_of_ble_eq_true rfl) ⟨Nat.zero_le _, Nat.zero_le _⟩ dX7_works_196 ?_
                            obtain ⟨b199, hf⟩ := gd_some hf
                            refine va_iast (n := 10) (f := z_141 9) hx hb hK hP hD hS 9 0 rfl rfl (ck_in b199) dX7_works_199 (fun H locs hP hD hS => ?_)
                            have hP : va_P D vwCl ([(za, .inr (7, [.ref z1, .ref z2, .int (z_141 0 2), .ref z3, .ref z4, .int (z_141 0 5), .ref z5, .int (z_141 0 7), .ref z6, .ref z7, .ref z8, .int (z_141 0 11), .int (z_141 0 12), .int (z_141 0 13), .int (z_141 0 14), .ref z9, .int (z_141 0 16)])), (z1, .inl (cI, 367, .inl (z_141 1))), (z2, .inl (cI, 5872, .inl (z_141 2))), (z3, .inl (cI, 736, .inl (z_141 3))), (z4, .inl (cZ, 2, .inl (z_141 4))), (z5, .inl (cI, 60, .inl (z_141 5))), (z6, .inl (cI, 20, .inl (z_141 6))), (z7, .inl (cI, 20, .inl (z_141 7))), (z8, .inl (cI, 20, .inl (z_141 8))), (z9, .inl (cI, 10, .inl (upd (z_141 9) (Int32.toNatClampNeg (z_141 0 16)) q196)))]) H := hP
                            have hD : va_D A ([(za, .inr (7, [.ref z1, .ref z2, .int (z_141 0 2), .ref z3, .ref z4, .int (z_141 0 5), .ref z5, .int (z_141 0 7), .ref z6, .ref z7, .ref z8, .int (z_141 0 11), .int (z_141 0 12), .int (z_141 0 13), .int (z_141 0 14), .ref z9, .int (z_141 0 16)])), (z1, .inl (cI, 367, .inl (z_141 1))), (z2, .inl (cI, 5872, .inl (z_141 2))), (z3, .inl (cI, 736, .inl (z_141 3))), (z4, .inl (cZ, 2, .inl (z_141 4))), (z5, .inl (cI, 60, .inl (z_141 5))), (z6, .inl (cI, 20, .inl (z_141 6))), (z7, .inl (cI, 20, .inl (z_141 7))), (z8, .inl (cI, 20, .inl (z_141 8))), (z9, .inl (cI, 10, .inl (upd (z_141 9) (Int32.toNatClampNeg (z_141 0 16)) q196)))]) := hD
                            refine lv_aload_n hx hb dX7_works_200 rfl (lv_at hl 0 rfl) ?_
                            refine lv_dup hx hb dX7_works_201 rfl ?_
                            refine va_get (D := D) (ci := 7) (v := .int (z_141 0 16)) (C := RX7) (T := TX7) (N := 17) hx hb hts inT7 hown hK hP 0 rfl rfl 16 (by decide) (hts _ mT_582) (fun _ h9 => h9) rfl dX7_works_202 ?_
                            refine lv_iconst (v := 1) hx hb dX7_works_205 (by decide) ?_
                            refine lv_iadd hx hb dX7_works_206 ?_
                            refine va_put (D := D) (ci := 7) (v := .int ((z_141 0 16) + 1)) (ty := .int) (C := RX7) (T := TX7) (N := 17) hx hb hts inT7 tyX7 tyX7_ok nmX7 hown hK hP hD hS 0 rfl rfl 16 (by decide) (hts _ mT_582) (fun _ h9 => h9) rfl (by decide +kernel) rfl rfl (Nat.le_of_ble_eq_true rfl) dX7_works_207 (fun H locs hP hD hS => ?_)
                            have hP : va_P D vwCl ([(za, .inr (7, [.ref z1, .ref z2, .int (z_141 0 2), .ref z3, .ref z4, .int (z_141 0 5), .ref z5, .int (z_141 0 7), .ref z6, .ref z7, .ref z8, .int (z_141 0 11), .int (z_141 0 12), .int (z_141 0 13), .int (z_141 0 14), .ref z9, .int ((z_141 0 16) + 1)])), (z1, .inl (cI, 367, .inl (z_141 1))), (z2, .inl (cI, 5872, .inl (z_141 2))), (z3, .inl (cI, 736, .inl (z_141 3))), (z4, .inl (cZ, 2, .inl (z_141 4))), (z5, .inl (cI, 60, .inl (z_141 5))), (z6, .inl (cI, 20, .inl (z_141 6))), (z7, .inl (cI, 20, .inl (z_141 7))), (z8, .inl (cI, 20, .inl (z_141 8))), (z9, .inl (cI, 10, .inl (upd (z_141 9) (Int32.toNatClampNeg (z_141 0 16)) q196)))]) H := hP
                            have hD : va_D A ([(za, .inr (7, [.ref z1, .ref z2, .int (z_141 0 2), .ref z3, .ref z4, .int (z_141 0 5), .ref z5, .int (z_141 0 7), .ref z6, .ref z7, .ref z8, .int (z_141 0 11), .int (z_141 0 12), .int (z_141 0 13), .int (z_141 0 14), .ref z9, .int ((z_141 0 16) + 1)])), (z1, .inl (cI, 367, .inl (z_141 1))), (z2, .inl (cI, 5872, .inl (z_141 2))), (z3, .inl (cI, 736, .inl (z_141 3))), (z4, .inl (cZ, 2, .inl (z_141 4))), (z5, .inl (cI, 60, .inl (z_141 5))), (z6, .inl (cI, 20, .inl (z_141 6))), (z7, .inl (cI, 20, .inl (z_141 7))), (z8, .inl (cI, 20, .inl (z_141 8))), (z9, .inl (cI, 10, .inl (upd (z_141 9) (Int32.toNatClampNeg (z_141 0 16)) q196)))]) := hD
                            refine lv_iinc (v := x6_141 + 1) (lv' := [(6, .int (x6_141 + 1)), (0, .ref za), (1, .ref z6), (2, .int x), (3, .int y), (4, .int (x4_61 + 1)), (5, .int q78.1)]) hx hb dX7_works_210 hl (k := 6) rfl rfl (by decide) rfl (fun ls hl => ?_)
                            refine lv_goto (tgt := 141) hx hb dX7_works_213 (by decide) ?_
                            exact ih141 (x6_141 + 1) (sI (sA z_141 9 (upd (z_141 9) (Int32.toNatClampNeg (z_141 0 16)) q196)) 16 ((z_141 0 16) + 1)) _ _ _ hf hP hD hS (lv_sub hl [1, 2, 3, 4, 5, 6, 0] rfl)
                exact lh141 10000 0 (sA (sA q91 6 (upd (q91 6) (Int32.toNatClampNeg q78.1) (q91 0 13))) 6 (upd (upd (q91 6) (Int32.toNatClampNeg q78.1) (q91 0 13)) (Int32.toNatClampNeg (10 + q78.1)) (q91 0 14))) _ _ _ hf hP hD hS (lv_sub hl [3, 4, 5, 6, 1, 2, 0] rfl)
              · have hf := ite_t c102 hf
                refine lv_aload_n hx hb dX7_works_105 rfl (lv_at hl 2 rfl) ?_
                refine va_get (D := D) (ci := 7) (v := .int (q91 0 14)) (C := RX7) (T := TX7) (N := 17) hx hb hts inT7 hown hK hP 0 rfl rfl 14 (by decide) (hts _ mT_580) (fun _ h9 => h9) rfl dX7_works_106 ?_
                refine lv_aload_n hx hb dX7_works_109 rfl (lv_at hl 3 rfl) ?_
                refine lv_bipush (v := 10) hx hb dX7_works_110 (by decide) ?_
                refine lv_iload hx hb dX7_works_112 (lv_at hl 1 rfl) ?_
                refine lv_iadd hx hb dX7_works_114 ?_
                obtain ⟨b115, hf⟩ := gd_some hf
                refine va_iald (n := 20) (f := q91 6) hx hb hK hP 6 0 rfl rfl (ck_in b115) dX7_works_115 ?_
                refine lv_icmp_eq (tgt := 216) hx hb dX7_works_116 (by decide) (fun c116 => ?_) (fun c116 => ?_)
                · have hf := ite_t c116 hf
                  refine lv_goto (tgt := 61) hx hb dX7_works_216 (by decide) ?_
                  exact ih61 (x4_61 + 1) q91 _ _ _ hf hP hD hS (lv_sub hl [2, 3, 4, 5, 0] rfl)
                · have hf := ite_f c116 hf
                  refine lv_aload_n hx hb dX7_works_119 rfl (lv_at hl 3 rfl) ?_
                  refine lv_iload hx hb dX7_works_120 (lv_at hl 1 rfl) ?_
                  refine lv_aload_n hx hb dX7_works_122 rfl (lv_at hl 2 rfl) ?_
                  refine va_get (D := D) (ci := 7) (v := .int (q91 0 13)) (C := RX7) (T := TX7) (N := 17) hx hb hts inT7 hown hK hP 0 rfl rfl 13 (by decide) (hts _ mT_579) (fun _ h9 => h9) rfl dX7_works_123 ?_
                  obtain ⟨b126, hf⟩ := gd_some hf
                  refine va_iast (n := 20) (f := q91 6) hx hb hK hP hD hS 6 0 rfl rfl (ck_in b126) dX7_works_126 (fun H locs hP hD hS => ?_)
                  have hP : va_P D vwCl ([(za, .inr (7, [.ref z1, .ref z2, .int (q91 0 2), .ref z3, .ref z4, .int (q91 0 5), .ref z5, .int (q91 0 7), .ref z6, .ref z7, .ref z8, .int (q91 0 11), .int (q91 0 12), .int (q91 0 13), .int (q91 0 14), .ref z9, .int (q91 0 16)])), (z1, .inl (cI, 367, .inl (q91 1))), (z2, .inl (cI, 5872, .inl (q91 2))), (z3, .inl (cI, 736, .inl (q91 3))), (z4, .inl (cZ, 2, .inl (q91 4))), (z5, .inl (cI, 60, .inl (q91 5))), (z6, .inl (cI, 20, .inl (upd (q91 6) (Int32.toNatClampNeg q78.1) (q91 0 13)))), (z7, .inl (cI, 20, .inl (q91 7))), (z8, .inl (cI, 20, .inl (q91 8))), (z9, .inl (cI, 10, .inl (q91 9)))]) H := hP
                  have hD : va_D A ([(za, .inr (7, [.ref z1, .ref z2, .int (q91 0 2), .ref z3, .ref z4, .int (q91 0 5), .ref z5, .int (q91 0 7), .ref z6, .ref z7, .ref z8, .int (q91 0 11), .int (q91 0 12), .int (q91 0 13), .int (q91 0 14), .ref z9, .int (q91 0 16)])), (z1, .inl (cI, 367, .inl (q91 1))), (z2, .inl (cI, 5872, .inl (q91 2))), (z3, .inl (cI, 736, .inl (q91 3))), (z4, .inl (cZ, 2, .inl (q91 4))), (z5, .inl (cI, 60, .inl (q91 5))), (z6, .inl (cI, 20, .inl (upd (q91 6) (Int32.toNatClampNeg q78.1) (q91 0 13)))), (z7, .inl (cI, 20, .inl (q91 7))), (z8, .inl (cI, 20, .inl (q91 8))), (z9, .inl (cI, 10, .inl (q91 9)))]) := hD
                  refine lv_aload_n hx hb dX7_works_127 rfl (lv_at hl 3 rfl) ?_
                  refine lv_bipush (v := 10) hx hb dX7_works_128 (by decide) ?_
                  refine lv_iload hx hb dX7_works_130 (lv_at hl 1 rfl) ?_
                  refine lv_iadd hx hb dX7_works_132 ?_
                  refine lv_aload_n hx hb dX7_works_133 rfl (lv_at hl 2 rfl) ?_
                  refine va_get (D := D) (ci := 7) (v := .int (q91 0 14)) (C := RX7) (T := TX7) (N := 17) hx hb hts inT7 hown hK hP 0 rfl rfl 14 (by decide) (hts _ mT_580) (fun _ h9 => h9) rfl dX7_works_134 ?_
                  obtain ⟨b137, hf⟩ := gd_some hf
                  refine va_iast (n := 20) (f := upd (q91 6) (Int32.toNatClampNeg q78.1) (q91 0 13)) hx hb hK hP hD hS 6 0 rfl rfl (ck_in b137) dX7_works_137 (fun H locs hP hD hS => ?_)
                  have hP : va_P D vwCl ([(za, .inr (7, [.ref z1, .ref z2, .int (q91 0 2), .ref z3, .ref z4, .int (q91 0 5), .ref z5, .int (q91 0 7), .ref z6, .ref z7, .ref z8, .int (q91 0 11), .int (q91 0 12), .int (q91 0 13), .int (q91 0 14), .ref z9, .int (q91 0 16)])), (z1, .inl (cI, 367, .inl (q91 1))), (z2, .inl (cI, 5872, .inl (q91 2))), (z3, .inl (cI, 736, .inl (q91 3))), (z4, .inl (cZ, 2, .inl (q91 4))), (z5, .inl (cI, 60, .inl (q91 5))), (z6, .inl (cI, 20, .inl (upd (upd (q91 6) (Int32.toNatClampNeg q78.1) (q91 0 13)) (Int32.toNatClampNeg (10 + q78.1)) (q91 0 14)))), (z7, .inl (cI, 20, .inl (q91 7))), (z8, .inl (cI, 20, .inl (q91 8))), (z9, .inl (cI, 10, .inl (q91 9)))]) H := hP
                  have hD : va_D A ([(za, .inr (7, [.ref z1, .ref z2, .int (q91 0 2), .ref z3, .ref z4, .int (q91 0 5), .ref z5, .int (q91 0 7), .ref z6, .ref z7, .ref z8, .int (q91 0 11), .int (q91 0 12), .int (q91 0 13), .int (q91 0 14), .ref z9, .int (q91 0 16)])), (z1, .inl (cI, 367, .inl (q91 1))), (z2, .inl (cI, 5872, .inl (q91 2))), (z3, .inl (cI, 736, .inl (q91 3))), (z4, .inl (cZ, 2, .inl (q91 4))), (z5, .inl (cI, 60, .inl (q91 5))), (z6, .inl (cI, 20, .inl (upd (upd (q91 6) (Int32.toNatClampNeg q78.1) (q91 0 13)) (Int32.toNatClampNeg (10 + q78.1)) (q91 0 14)))), (z7, .inl (cI, 20, .inl (q91 7))), (z8, .inl (cI, 20, .inl (q91 8))), (z9, .inl (cI, 10, .inl (q91 9)))]) := hD
                  refine lv_iconst (v := 0) hx hb dX7_works_138 (by decide) ?_
                  refine lv_istore (lv' := [(6, .int 0), (4, .int (x4_61 + 1)), (5, .int q78.1), (0, .ref za), (1, .ref z6), (2, .int x), (3, .int y)]) hx hb dX7_works_139 hl (by decide) rfl (fun ls hl => ?_)
                  have kx141 : ∀ (x6_141 : Int32) (z_141 : Ob) (H : Heap) (locs : List Loc) (ls : Array Slot), (k_m_works_141 x4_61 ((lp_m_works_61 6 x y k_m_works_61 fu61))) x6_141 z_141 = some (r, u) → va_P D vwCl (cModel cI cZ za z1 z2 z3 z4 z5 z6 z7 z8 z9 z_141) H → va_D A (cModel cI cZ za z1 z2 z3 z4 z5 z6 z7 z8 z9 z_141) → va_S A s.heap H locs → lv_has ls 7 [(0, .ref za), (1, .ref z6), (2, .int x), (3, .int y), (4, .int (x4_61 + 1)), (5, .int q78.1), (6, .int x6_141)] → W p l e ({ frames := 4, cells := 0, slots := 0, locals := 92 } : Room) s m ([.ref za, .ref z6, .int x, .int y] : List Value).toArray below meth c H locs 0 0 Q (F0 m 216 ls []) := by
                    intro x6_141 z_141 H locs ls hf hP hD hS hl
                    rw [k_m_works_141] at hf
                    refine lv_goto (tgt := 61) hx hb dX7_works_216 (by decide) ?_
                    exact ih61 (x4_61 + 1) z_141 _ _ _ hf hP hD hS (lv_sub hl [0, 1, 2, 3, 4] rfl)
                  have lh141 : ∀ (fu141 : Nat) (x6_141 : Int32) (z_141 : Ob) (H : Heap) (locs : List Loc) (ls : Array Slot), lp_m_works_141 y q78 (k_m_works_141 x4_61 ((lp_m_works_61 6 x y k_m_works_61 fu61))) fu141 x6_141 z_141 = some (r, u) → va_P D vwCl (cModel cI cZ za z1 z2 z3 z4 z5 z6 z7 z8 z9 z_141) H → va_D A (cModel cI cZ za z1 z2 z3 z4 z5 z6 z7 z8 z9 z_141) → va_S A s.heap H locs → lv_has ls 7 [(0, .ref za), (1, .ref z6), (2, .int x), (3, .int y), (4, .int (x4_61 + 1)), (5, .int q78.1), (6, .int x6_141)] → W p l e ({ frames := 4, cells := 0, slots := 0, locals := 92 } : Room) s m ([.ref za, .ref z6, .int x, .int y] : List Value).toArray below meth c H locs 0 0 Q (F0 m 141 ls []) := by
                    intro fu141
                    induction fu141 with
                    | zero => intro x6_141 z_141 H locs ls hf hP hD hS hl; exact no_none hf
                    | succ fu141 ih141 =>
                      intro x6_141 z_141 H locs ls hf hP hD hS hl
                      rw [lp_m_works_141] at hf
                      refine lv_iload hx hb dX7_works_141 (lv_at hl 6 rfl) ?_
                      refine lv_aload_n hx hb dX7_works_143 rfl (lv_at hl 0 rfl) ?_
                      refine va_get (D := D) (ci := 7) (v := .ref z1) (C := RX7) (T := TX7) (N := 17) hx hb hts inT7 hown hK hP 0 rfl rfl 0 (by decide) (hts _ mT_566) (fun _ h9 => h9) rfl dX7_works_144 ?_
                      refine lv_iconst (v := 2) hx hb dX7_works_147 (by decide) ?_
                      refine va_iald (n := 367) (f := z_141 1) hx hb hK hP 1 0 rfl rfl (ck_in (by decide)) dX7_works_148 ?_
                      refine lv_icmp_ge (tgt := 216) hx hb dX7_works_149 (by decide) (fun c149 => ?_) (fun c149 => ?_)
                      · have hf := ite_t c149 hf
                        exact kx141 x6_141 z_141 _ _ _ hf hP hD hS (lv_sub hl [0, 1, 2, 3, 4, 5, 6] rfl)
                      · have hf := ite_f c149 hf
                        refine lv_iload hx hb dX7_works_152 (lv_at hl 6 rfl) ?_
                        refine lv_iload_n hx hb dX7_works_154 rfl (lv_at hl 3 rfl) ?_
                        refine lv_icmp_eq (tgt := 210) hx hb dX7_works_155 (by decide) (fun c155 => ?_) (fun c155 => ?_)
                        · have hf := ite_t c155 hf
                          refine lv_iinc (v := x6_141 + 1) (lv' := [(6, .int (x6_141 + 1)), (0, .ref za), (1, .ref z6), (2, .int x), (3, .int y), (4, .int (x4_61 + 1)), (5, .int q78.1)]) hx hb dX7_works_210 hl (k := 6) rfl rfl (by decide) rfl (fun ls hl => ?_)
                          refine lv_goto (tgt := 141) hx hb dX7_works_213 (by decide) ?_
                          exact ih141 (x6_141 + 1) z_141 _ _ _ hf hP hD hS (lv_sub hl [1, 2, 3, 4, 5, 6, 0] rfl)
                        · have hf := ite_f c155 hf
                          refine lv_aload_n hx hb dX7_works_158 rfl (lv_at hl 0 rfl) ?_
                          refine lv_iload hx hb dX7_works_159 (lv_at hl 6 rfl) ?_
                          refine lv_iconst (v := 0) hx hb dX7_works_161 (by decide) ?_
                          obtain ⟨q162, h162, hf⟩ := bd_some hf
                          refine kx_rv (As := [.int x6_141, .int 0]) (rest := []) hx hb hml hown hts hk hP hl.1 s_yX7_of v_yX7_of (c_m_of l D cI cZ cR za z1 z2 z3 z4 z5 z6 z7 z8 z9 z_141 x6_141 0 _ h162) mT_647 rfl rfl ⟨Nat.le_of_ble_eq_true rfl, Nat.le_of_ble_eq_true rfl⟩ (ci := 7) (q0 := 0) rfl rfl rfl (Nat.le_of_ble_eq_true rfl) ⟨Nat.zero_le _, Nat.zero_le _⟩ dX7_works_162 ?_
                          refine lv_iload hx hb dX7_works_165 (lv_at hl 5 rfl) ?_
                          refine lv_icmp_ne (tgt := 210) hx hb dX7_works_167 (by decide) (fun c167 => ?_) (fun c167 => ?_)
                          · have hf := ite_f c167 hf
                            refine lv_iinc (v := x6_141 + 1) (lv' := [(6, .int (x6_141 + 1)), (0, .ref za), (1, .ref z6), (2, .int x), (3, .int y), (4, .int (x4_61 + 1)), (5, .int q78.1)]) hx hb dX7_works_210 hl (k := 6) rfl rfl (by decide) rfl (fun ls hl => ?_)
                            refine lv_goto (tgt := 141) hx hb dX7_works_213 (by decide) ?_
                            exact ih141 (x6_141 + 1) z_141 _ _ _ hf hP hD hS (lv_sub hl [1, 2, 3, 4, 5, 6, 0] rfl)
                          · have hf := ite_t c167 hf
                            refine lv_aload_n hx hb dX7_works_170 rfl (lv_at hl 0 rfl) ?_
                            refine lv_aload_n hx hb dX7_works_171 rfl (lv_at hl 0 rfl) ?_
                            refine lv_iload hx hb dX7_works_172 (lv_at hl 6 rfl) ?_
                            refine lv_iconst (v := 1) hx hb dX7_works_174 (by decide) ?_
                            obtain ⟨q175, h175, hf⟩ := bd_some hf
                            refine kx_rv (As := [.int x6_141, .int 1]) (rest := [.ref za]) hx hb hml hown hts hk hP hl.1 s_yX7_of v_yX7_of (c_m_of l D cI cZ cR za z1 z2 z3 z4 z5 z6 z7 z8 z9 z_141 x6_141 1 _ h175) mT_647 rfl rfl ⟨Nat.le_of_ble_eq_true rfl, Nat.le_of_ble_eq_true rfl⟩ (ci := 7) (q0 := 0) rfl rfl rfl (Nat.le_of_ble_eq_true rfl) ⟨Nat.zero_le _, Nat.zero_le _⟩ dX7_works_175 ?_
                            obtain ⟨q178, h178, hf⟩ := bd_some hf
                            refine kx_rv (As := [.int q175]) (rest := []) hx hb hml hown hts hk hP hl.1 s_yX7_waits v_yX7_waits (c_m_waits l D cI cZ cR za z1 z2 z3 z4 z5 z6 z7 z8 z9 z_141 q175 _ h178) mT_699 rfl rfl ⟨Nat.le_of_ble_eq_true rfl, Nat.le_of_ble_eq_true rfl⟩ (ci := 7) (q0 := 0) rfl rfl rfl (Nat.le_of_ble_eq_true rfl) ⟨Nat.zero_le _, Nat.zero_le _⟩ dX7_works_178 ?_
                            refine lv_if_ne (tgt := 210) hx hb dX7_works_181 (by decide) (fun c181 => ?_) (fun c181 => ?_)
                            · have hf := ite_f c181 hf
                              refine lv_iinc (v := x6_141 + 1) (lv' := [(6, .int (x6_141 + 1)), (0, .ref za), (1, .ref z6), (2, .int x), (3, .int y), (4, .int (x4_61 + 1)), (5, .int q78.1)]) hx hb dX7_works_210 hl (k := 6) rfl rfl (by decide) rfl (fun ls hl => ?_)
                              refine lv_goto (tgt := 141) hx hb dX7_works_213 (by decide) ?_
                              exact ih141 (x6_141 + 1) z_141 _ _ _ hf hP hD hS (lv_sub hl [1, 2, 3, 4, 5, 6, 0] rfl)
                            · have hf := ite_t c181 hf
                              refine lv_aload_n hx hb dX7_works_184 rfl (lv_at hl 0 rfl) ?_
                              refine va_get (D := D) (ci := 7) (v := .ref z9) (C := RX7) (T := TX7) (N := 17) hx hb hts inT7 hown hK hP 0 rfl rfl 15 (by decide) (hts _ mT_581) (fun _ h9 => h9) rfl dX7_works_185 ?_
                              refine lv_aload_n hx hb dX7_works_188 rfl (lv_at hl 0 rfl) ?_
                              refine va_get (D := D) (ci := 7) (v := .int (z_141 0 16)) (C := RX7) (T := TX7) (N := 17) hx hb hts inT7 hown hK hP 0 rfl rfl 16 (by decide) (hts _ mT_582) (fun _ h9 => h9) rfl dX7_works_189 ?_
                              refine lv_aload_n hx hb dX7_works_192 rfl (lv_at hl 0 rfl) ?_
                              refine lv_iload hx hb dX7_works_193 (lv_at hl 6 rfl) ?_
                              refine lv_iconst (v := 1) hx hb dX7_works_195 (by decide) ?_
                              obtain ⟨q196, h196, hf⟩ := bd_some hf
                              refine kx_rv (As := [.int x6_141, .int 1]) (rest := [.int (z_141 0 16), .ref z9]) hx hb hml hown hts hk hP hl.1 s_yX7_of v_yX7_of (c_m_of l D cI cZ cR za z1 z2 z3 z4 z5 z6 z7 z8 z9 z_141 x6_141 1 _ h196) mT_647 rfl rfl ⟨Nat.le_of_ble_eq_true rfl, Nat.le_of_ble_eq_true rfl⟩ (ci := 7) (q0 := 0) rfl rfl rfl (Nat.le_of_ble_eq_true rfl) ⟨Nat.zero_le _, Nat.zero_le _⟩ dX7_works_196 ?_
                              obtain ⟨b199, hf⟩ := gd_some hf
                              refine va_iast (n := 10) (f := z_141 9) hx hb hK hP hD hS 9 0 rfl rfl (ck_in b199) dX7_works_199 (fun H locs hP hD hS => ?_)
                              have hP : va_P D vwCl ([(za, .inr (7, [.ref z1, .ref z2, .int (z_141 0 2), .ref z3, .ref z4, .int (z_141 0 5), .ref z5, .int (z_141 0 7), .ref z6, .ref z7, .ref z8, .int (z_141 0 11), .int (z_141 0 12), .int (z_141 0 13), .int (z_141 0 14), .ref z9, .int (z_141 0 16)])), (z1, .inl (cI, 367, .inl (z_141 1))), (z2, .inl (cI, 5872, .inl (z_141 2))), (z3, .inl (cI, 736, .inl (z_141 3))), (z4, .inl (cZ, 2, .inl (z_141 4))), (z5, .inl (cI, 60, .inl (z_141 5))), (z6, .inl (cI, 20, .inl (z_141 6))), (z7, .inl (cI, 20, .inl (z_141 7))), (z8, .inl (cI, 20, .inl (z_141 8))), (z9, .inl (cI, 10, .inl (upd (z_141 9) (Int32.toNatClampNeg (z_141 0 16)) q196)))]) H := hP
                              have hD : va_D A ([(za, .inr (7, [.ref z1, .ref z2, .int (z_141 0 2), .ref z3, .ref z4, .int (z_141 0 5), .ref z5, .int (z_141 0 7), .ref z6, .ref z7, .ref z8, .int (z_141 0 11), .int (z_141 0 12), .int (z_141 0 13), .int (z_141 0 14), .ref z9, .int (z_141 0 16)])), (z1, .inl (cI, 367, .inl (z_141 1))), (z2, .inl (cI, 5872, .inl (z_141 2))), (z3, .inl (cI, 736, .inl (z_141 3))), (z4, .inl (cZ, 2, .inl (z_141 4))), (z5, .inl (cI, 60, .inl (z_141 5))), (z6, .inl (cI, 20, .inl (z_141 6))), (z7, .inl (cI, 20, .inl (z_141 7))), (z8, .inl (cI, 20, .inl (z_141 8))), (z9, .inl (cI, 10, .inl (upd (z_141 9) (Int32.toNatClampNeg (z_141 0 16)) q196)))]) := hD
                              refine lv_aload_n hx hb dX7_works_200 rfl (lv_at hl 0 rfl) ?_
                              refine lv_dup hx hb dX7_works_201 rfl ?_
                              refine va_get (D := D) (ci := 7) (v := .int (z_141 0 16)) (C := RX7) (T := TX7) (N := 17) hx hb hts inT7 hown hK hP 0 rfl rfl 16 (by decide) (hts _ mT_582) (fun _ h9 => h9) rfl dX7_works_202 ?_
                              refine lv_iconst (v := 1) hx hb dX7_works_205 (by decide) ?_
                              refine lv_iadd hx hb dX7_works_206 ?_
                              refine va_put (D := D) (ci := 7) (v := .int ((z_141 0 16) + 1)) (ty := .int) (C := RX7) (T := TX7) (N := 17) hx hb hts inT7 tyX7 tyX7_ok nmX7 hown hK hP hD hS 0 rfl rfl 16 (by decide) (hts _ mT_582) (fun _ h9 => h9) rfl (by decide +kernel) rfl rfl (Nat.le_of_ble_eq_true rfl) dX7_works_207 (fun H locs hP hD hS => ?_)
                              have hP : va_P D vwCl ([(za, .inr (7, [.ref z1, .ref z2, .int (z_141 0 2), .ref z3, .ref z4, .int (z_141 0 5), .ref z5, .int (z_141 0 7), .ref z6, .ref z7, .ref z8, .int (z_141 0 11), .int (z_141 0 12), .int (z_141 0 13), .int (z_141 0 14), .ref z9, .int ((z_141 0 16) + 1)])), (z1, .inl (cI, 367, .inl (z_141 1))), (z2, .inl (cI, 5872, .inl (z_141 2))), (z3, .inl (cI, 736, .inl (z_141 3))), (z4, .inl (cZ, 2, .inl (z_141 4))), (z5, .inl (cI, 60, .inl (z_141 5))), (z6, .inl (cI, 20, .inl (z_141 6))), (z7, .inl (cI, 20, .inl (z_141 7))), (z8, .inl (cI, 20, .inl (z_141 8))), (z9, .inl (cI, 10, .inl (upd (z_141 9) (Int32.toNatClampNeg (z_141 0 16)) q196)))]) H := hP
                              have hD : va_D A ([(za, .inr (7, [.ref z1, .ref z2, .int (z_141 0 2), .ref z3, .ref z4, .int (z_141 0 5), .ref z5, .int (z_141 0 7), .ref z6, .ref z7, .ref z8, .int (z_141 0 11), .int (z_141 0 12), .int (z_141 0 13), .int (z_141 0 14), .ref z9, .int ((z_141 0 16) + 1)])), (z1, .inl (cI, 367, .inl (z_141 1))), (z2, .inl (cI, 5872, .inl (z_141 2))), (z3, .inl (cI, 736, .inl (z_141 3))), (z4, .inl (cZ, 2, .inl (z_141 4))), (z5, .inl (cI, 60, .inl (z_141 5))), (z6, .inl (cI, 20, .inl (z_141 6))), (z7, .inl (cI, 20, .inl (z_141 7))), (z8, .inl (cI, 20, .inl (z_141 8))), (z9, .inl (cI, 10, .inl (upd (z_141 9) (Int32.toNatClampNeg (z_141 0 16)) q196)))]) := hD
                              refine lv_iinc (v := x6_141 + 1) (lv' := [(6, .int (x6_141 + 1)), (0, .ref za), (1, .ref z6), (2, .int x), (3, .int y), (4, .int (x4_61 + 1)), (5, .int q78.1)]) hx hb dX7_works_210 hl (k := 6) rfl rfl (by decide) rfl (fun ls hl => ?_)
                              refine lv_goto (tgt := 141) hx hb dX7_works_213 (by decide) ?_
                              exact ih141 (x6_141 + 1) (sI (sA z_141 9 (upd (z_141 9) (Int32.toNatClampNeg (z_141 0 16)) q196)) 16 ((z_141 0 16) + 1)) _ _ _ hf hP hD hS (lv_sub hl [1, 2, 3, 4, 5, 6, 0] rfl)
                  exact lh141 10000 0 (sA (sA q91 6 (upd (q91 6) (Int32.toNatClampNeg q78.1) (q91 0 13))) 6 (upd (upd (q91 6) (Int32.toNatClampNeg q78.1) (q91 0 13)) (Int32.toNatClampNeg (10 + q78.1)) (q91 0 14))) _ _ _ hf hP hD hS (lv_sub hl [3, 4, 5, 6, 1, 2, 0] rfl)
      exact lh61 10000 0 z_34 _ _ _ hf hP hD hS (lv_sub hl [1, 2, 3, 4, 0] rfl)
    have lh34 : ∀ (fu34 : Nat) (x4_34 : Int32) (z_34 : Ob) (H : Heap) (locs : List Loc) (ls : Array Slot), lp_m_works_34 (k_m_works_34 6 x y) fu34 x4_34 z_34 = some (r, u) → va_P D vwCl (cModel cI cZ za z1 z2 z3 z4 z5 z6 z7 z8 z9 z_34) H → va_D A (cModel cI cZ za z1 z2 z3 z4 z5 z6 z7 z8 z9 z_34) → va_S A s.heap H locs → lv_has ls 7 [(0, .ref za), (1, .ref z6), (2, .int x), (3, .int y), (4, .int x4_34)] → W p l e ({ frames := 4, cells := 0, slots := 0, locals := 92 } : Room) s m ([.ref za, .ref z6, .int x, .int y] : List Value).toArray below meth c H locs 0 0 Q (F0 m 34 ls []) := by
      intro fu34
      induction fu34 with
      | zero => intro x4_34 z_34 H locs ls hf hP hD hS hl; exact no_none hf
      | succ fu34 ih34 =>
        intro x4_34 z_34 H locs ls hf hP hD hS hl
        rw [lp_m_works_34] at hf
        refine lv_iload hx hb dX7_works_34 (lv_at hl 4 rfl) ?_
        refine lv_aload_n hx hb dX7_works_36 rfl (lv_at hl 0 rfl) ?_
        refine va_get (D := D) (ci := 7) (v := .int (z_34 0 16)) (C := RX7) (T := TX7) (N := 17) hx hb hts inT7 hown hK hP 0 rfl rfl 16 (by decide) (hts _ mT_582) (fun _ h9 => h9) rfl dX7_works_37 ?_
        refine lv_icmp_ge (tgt := 58) hx hb dX7_works_40 (by decide) (fun c40 => ?_) (fun c40 => ?_)
        · have hf := ite_t c40 hf
          exact kx34 x4_34 z_34 _ _ _ hf hP hD hS (lv_sub hl [0, 1, 2, 3, 4] rfl)
        · have hf := ite_f c40 hf
          refine lv_aload_n hx hb dX7_works_43 rfl (lv_at hl 0 rfl) ?_
          refine va_get (D := D) (ci := 7) (v := .ref z9) (C := RX7) (T := TX7) (N := 17) hx hb hts inT7 hown hK hP 0 rfl rfl 15 (by decide) (hts _ mT_581) (fun _ h9 => h9) rfl dX7_works_44 ?_
          refine lv_iload hx hb dX7_works_47 (lv_at hl 4 rfl) ?_
          refine lv_iload hx hb dX7_works_49 (lv_at hl 4 rfl) ?_
          obtain ⟨b51, hf⟩ := gd_some hf
          refine va_iast (n := 10) (f := z_34 9) hx hb hK hP hD hS 9 0 rfl rfl (ck_in b51) dX7_works_51 (fun H locs hP hD hS => ?_)
          have hP : va_P D vwCl ([(za, .inr (7, [.ref z1, .ref z2, .int (z_34 0 2), .ref z3, .ref z4, .int (z_34 0 5), .ref z5, .int (z_34 0 7), .ref z6, .ref z7, .ref z8, .int (z_34 0 11), .int (z_34 0 12), .int (z_34 0 13), .int (z_34 0 14), .ref z9, .int (z_34 0 16)])), (z1, .inl (cI, 367, .inl (z_34 1))), (z2, .inl (cI, 5872, .inl (z_34 2))), (z3, .inl (cI, 736, .inl (z_34 3))), (z4, .inl (cZ, 2, .inl (z_34 4))), (z5, .inl (cI, 60, .inl (z_34 5))), (z6, .inl (cI, 20, .inl (z_34 6))), (z7, .inl (cI, 20, .inl (z_34 7))), (z8, .inl (cI, 20, .inl (z_34 8))), (z9, .inl (cI, 10, .inl (upd (z_34 9) (Int32.toNatClampNeg x4_34) x4_34)))]) H := hP
          have hD : va_D A ([(za, .inr (7, [.ref z1, .ref z2, .int (z_34 0 2), .ref z3, .ref z4, .int (z_34 0 5), .ref z5, .int (z_34 0 7), .ref z6, .ref z7, .ref z8, .int (z_34 0 11), .int (z_34 0 12), .int (z_34 0 13), .int (z_34 0 14), .ref z9, .int (z_34 0 16)])), (z1, .inl (cI, 367, .inl (z_34 1))), (z2, .inl (cI, 5872, .inl (z_34 2))), (z3, .inl (cI, 736, .inl (z_34 3))), (z4, .inl (cZ, 2, .inl (z_34 4))), (z5, .inl (cI, 60, .inl (z_34 5))), (z6, .inl (cI, 20, .inl (z_34 6))), (z7, .inl (cI, 20, .inl (z_34 7))), (z8, .inl (cI, 20, .inl (z_34 8))), (z9, .inl (cI, 10, .inl (upd (z_34 9) (Int32.toNatClampNeg x4_34) x4_34)))]) := hD
          refine lv_iinc (v := x4_34 + 1) (lv' := [(4, .int (x4_34 + 1)), (0, .ref za), (1, .ref z6), (2, .int x), (3, .int y)]) hx hb dX7_works_52 hl (k := 4) rfl rfl (by decide) rfl (fun ls hl => ?_)
          refine lv_goto (tgt := 34) hx hb dX7_works_55 (by decide) ?_
          exact ih34 (x4_34 + 1) (sA z_34 9 (upd (z_34 9) (Int32.toNatClampNeg x4_34) x4_34)) _ _ _ hf hP hD hS (lv_sub hl [1, 2, 3, 4, 0] rfl)
    exact lh34 10000 0 (sI z_3 16 ((z_3 1) (Int32.toNatClampNeg 1))) _ _ _ hf hP hD hS (lv_sub hl [1, 2, 3, 4, 0] rfl)
  have lh3 : ∀ (fu3 : Nat) (x4_3 : Int32) (z_3 : Ob) (H : Heap) (locs : List Loc) (ls : Array Slot), lp_m_works_3 6 (k_m_works_3 6 x y) fu3 x4_3 z_3 = some (r, u) → va_P D vwCl (cModel cI cZ za z1 z2 z3 z4 z5 z6 z7 z8 z9 z_3) H → va_D A (cModel cI cZ za z1 z2 z3 z4 z5 z6 z7 z8 z9 z_3) → va_S A s.heap H locs → lv_has ls 7 [(0, .ref za), (1, .ref z6), (2, .int x), (3, .int y), (4, .int x4_3)] → W p l e ({ frames := 4, cells := 0, slots := 0, locals := 92 } : Room) s m ([.ref za, .ref z6, .int x, .int y] : List Value).toArray below meth c H locs 0 0 Q (F0 m 3 ls []) := by
    intro fu3
    induction fu3 with
    | zero => intro x4_3 z_3 H locs ls hf hP hD hS hl; exact no_none hf
    | succ fu3 ih3 =>
      intro x4_3 z_3 H locs ls hf hP hD hS hl
      rw [lp_m_works_3] at hf
      refine lv_iload hx hb dX7_works_3 (lv_at hl 4 rfl) ?_
      refine lv_bipush (v := 20) hx hb dX7_works_5 (by decide) ?_
      refine lv_icmp_ge (tgt := 21) hx hb dX7_works_7 (by decide) (fun c7 => ?_) (fun c7 => ?_)
      · have hf := ite_t c7 hf
        exact kx3 x4_3 z_3 _ _ _ hf hP hD hS (lv_sub hl [0, 1, 2, 3, 4] rfl)
      · have hf := ite_f c7 hf
        refine lv_aload_n hx hb dX7_works_10 rfl (lv_at hl 1 rfl) ?_
        refine lv_iload hx hb dX7_works_11 (lv_at hl 4 rfl) ?_
        refine lv_iconst (v := 0) hx hb dX7_works_13 (by decide) ?_
        obtain ⟨b14, hf⟩ := gd_some hf
        refine va_iast (n := 20) (f := z_3 6) hx hb hK hP hD hS 6 0 rfl rfl (ck_in b14) dX7_works_14 (fun H locs hP hD hS => ?_)
        have hP : va_P D vwCl ([(za, .inr (7, [.ref z1, .ref z2, .int (z_3 0 2), .ref z3, .ref z4, .int (z_3 0 5), .ref z5, .int (z_3 0 7), .ref z6, .ref z7, .ref z8, .int (z_3 0 11), .int (z_3 0 12), .int (z_3 0 13), .int (z_3 0 14), .ref z9, .int (z_3 0 16)])), (z1, .inl (cI, 367, .inl (z_3 1))), (z2, .inl (cI, 5872, .inl (z_3 2))), (z3, .inl (cI, 736, .inl (z_3 3))), (z4, .inl (cZ, 2, .inl (z_3 4))), (z5, .inl (cI, 60, .inl (z_3 5))), (z6, .inl (cI, 20, .inl (upd (z_3 6) (Int32.toNatClampNeg x4_3) 0))), (z7, .inl (cI, 20, .inl (z_3 7))), (z8, .inl (cI, 20, .inl (z_3 8))), (z9, .inl (cI, 10, .inl (z_3 9)))]) H := hP
        have hD : va_D A ([(za, .inr (7, [.ref z1, .ref z2, .int (z_3 0 2), .ref z3, .ref z4, .int (z_3 0 5), .ref z5, .int (z_3 0 7), .ref z6, .ref z7, .ref z8, .int (z_3 0 11), .int (z_3 0 12), .int (z_3 0 13), .int (z_3 0 14), .ref z9, .int (z_3 0 16)])), (z1, .inl (cI, 367, .inl (z_3 1))), (z2, .inl (cI, 5872, .inl (z_3 2))), (z3, .inl (cI, 736, .inl (z_3 3))), (z4, .inl (cZ, 2, .inl (z_3 4))), (z5, .inl (cI, 60, .inl (z_3 5))), (z6, .inl (cI, 20, .inl (upd (z_3 6) (Int32.toNatClampNeg x4_3) 0))), (z7, .inl (cI, 20, .inl (z_3 7))), (z8, .inl (cI, 20, .inl (z_3 8))), (z9, .inl (cI, 10, .inl (z_3 9)))]) := hD
        refine lv_iinc (v := x4_3 + 1) (lv' := [(4, .int (x4_3 + 1)), (0, .ref za), (1, .ref z6), (2, .int x), (3, .int y)]) hx hb dX7_works_15 hl (k := 4) rfl rfl (by decide) rfl (fun ls hl => ?_)
        refine lv_goto (tgt := 3) hx hb dX7_works_18 (by decide) ?_
        exact ih3 (x4_3 + 1) (sA z_3 6 (upd (z_3 6) (Int32.toNatClampNeg x4_3) 0)) _ _ _ hf hP hD hS (lv_sub hl [1, 2, 3, 4, 0] rfl)
  exact lh3 10000 0 z _ _ _ hf hP hD hS (lv_sub hl [1, 2, 3, 4, 0] rfl)
set_option maxHeartbeats 4000000 in
set_option maxRecDepth 100000 in
theorem c_m_works7 (l : Launch) (D : va_G) (cI cZ cR : ClassId) (za z1 z2 z3 z4 z5 z6 z7 z8 z9 : Nat) (z : Ob) (x : Int32) (y : Int32) (sz : Nat) (r : Int32) (u : Ob) (hf : f_m_works 7 z x y = some (r, u)) : kCi l yX7_works cX7_works 7 (some .int) { frames := 4, cells := 0, slots := 0, locals := 92 } [.ref za, .ref z7, .int x, .int y] D cI cZ cR (cModel cI cZ za z1 z2 z3 z4 z5 z6 z7 z8 z9 z) sz (cModel cI cZ za z1 z2 z3 z4 z5 z6 z7 z8 z9 u) r := by
  refine kMwi (wf := (fun u : Ob => cModel cI cZ za z1 z2 z3 z4 z5 z6 z7 z8 z9 u)) (u := u) (by decide) (Nat.le_of_ble_eq_true rfl) ?_
  intro p e s m below meth c Q A hx hb hml hown hts hk hP hD hA hS hret ls hl
  have hS0 := hS
  have hK := hk.1
  have hl : lv_has ls 7 [(0, .ref za), (1, .ref z7), (2, .int x), (3, .int y)] := hl
  rw [f_m_works] at hf
  refine lv_iconst (v := 0) hx hb dX7_works_0 (by decide) ?_
  refine lv_istore (lv' := [(4, .int 0), (0, .ref za), (1, .ref z7), (2, .int x), (3, .int y)]) hx hb dX7_works_1 hl (by decide) rfl (fun ls hl => ?_)
  have kx3 : ∀ (x4_3 : Int32) (z_3 : Ob) (H : Heap) (locs : List Loc) (ls : Array Slot), (k_m_works_3 7 x y) x4_3 z_3 = some (r, u) → va_P D vwCl (cModel cI cZ za z1 z2 z3 z4 z5 z6 z7 z8 z9 z_3) H → va_D A (cModel cI cZ za z1 z2 z3 z4 z5 z6 z7 z8 z9 z_3) → va_S A s.heap H locs → lv_has ls 7 [(0, .ref za), (1, .ref z7), (2, .int x), (3, .int y), (4, .int x4_3)] → W p l e ({ frames := 4, cells := 0, slots := 0, locals := 92 } : Room) s m ([.ref za, .ref z7, .int x, .int y] : List Value).toArray below meth c H locs 0 0 Q (F0 m 21 ls []) := by
    intro x4_3 z_3 H locs ls hf hP hD hS hl
    rw [k_m_works_3] at hf
    refine lv_aload_n hx hb dX7_works_21 rfl (lv_at hl 0 rfl) ?_
    refine lv_aload_n hx hb dX7_works_22 rfl (lv_at hl 0 rfl) ?_
    refine va_get (D := D) (ci := 7) (v := .ref z1) (C := RX7) (T := TX7) (N := 17) hx hb hts inT7 hown hK hP 0 rfl rfl 0 (by decide) (hts _ mT_566) (fun _ h9 => h9) rfl dX7_works_23 ?_
    refine lv_iconst (v := 1) hx hb dX7_works_26 (by decide) ?_
    refine va_iald (n := 367) (f := z_3 1) hx hb hK hP 1 0 rfl rfl (ck_in (by decide)) dX7_works_27 ?_
    refine va_put (D := D) (ci := 7) (v := .int ((z_3 1) (Int32.toNatClampNeg 1))) (ty := .int) (C := RX7) (T := TX7) (N := 17) hx hb hts inT7 tyX7 tyX7_ok nmX7 hown hK hP hD hS 0 rfl rfl 16 (by decide) (hts _ mT_582) (fun _ h9 => h9) rfl (by decide +kernel) rfl rfl (Nat.le_of_ble_eq_true rfl) dX7_works_28 (fun H locs hP hD hS => ?_)
    have hP : va_P D vwCl ([(za, .inr (7, [.ref z1, .ref z2, .int (z_3 0 2), .ref z3, .ref z4, .int (z_3 0 5), .ref z5, .int (z_3 0 7), .ref z6, .ref z7, .ref z8, .int (z_3 0 11), .int (z_3 0 12), .int (z_3 0 13), .int (z_3 0 14), .ref z9, .int ((z_3 1) (Int32.toNatClampNeg 1))])), (z1, .inl (cI, 367, .inl (z_3 1))), (z2, .inl (cI, 5872, .inl (z_3 2))), (z3, .inl (cI, 736, .inl (z_3 3))), (z4, .inl (cZ, 2, .inl (z_3 4))), (z5, .inl (cI, 60, .inl (z_3 5))), (z6, .inl (cI, 20, .inl (z_3 6))), (z7, .inl (cI, 20, .inl (z_3 7))), (z8, .inl (cI, 20, .inl (z_3 8))), (z9, .inl (cI, 10, .inl (z_3 9)))]) H := hP
    have hD : va_D A ([(za, .inr (7, [.ref z1, .ref z2, .int (z_3 0 2), .ref z3, .ref z4, .int (z_3 0 5), .ref z5, .int (z_3 0 7), .ref z6, .ref z7, .ref z8, .int (z_3 0 11), .int (z_3 0 12), .int (z_3 0 13), .int (z_3 0 14), .ref z9, .int ((z_3 1) (Int32.toNatClampNeg 1))])), (z1, .inl (cI, 367, .inl (z_3 1))), (z2, .inl (cI, 5872, .inl (z_3 2))), (z3, .inl (cI, 736, .inl (z_3 3))), (z4, .inl (cZ, 2, .inl (z_3 4))), (z5, .inl (cI, 60, .inl (z_3 5))), (z6, .inl (cI, 20, .inl (z_3 6))), (z7, .inl (cI, 20, .inl (z_3 7))), (z8, .inl (cI, 20, .inl (z_3 8))), (z9, .inl (cI, 10, .inl (z_3 9)))]) := hD
    refine lv_iconst (v := 0) hx hb dX7_works_31 (by decide) ?_
    refine lv_istore (lv' := [(4, .int 0), (0, .ref za), (1, .ref z7), (2, .int x), (3, .int y)]) hx hb dX7_works_32 hl (by decide) rfl (fun ls hl => ?_)
    have kx34 : ∀ (x4_34 : Int32) (z_34 : Ob) (H : Heap) (locs : List Loc) (ls : Array Slot), (k_m_works_34 7 x y) x4_34 z_34 = some (r, u) → va_P D vwCl (cModel cI cZ za z1 z2 z3 z4 z5 z6 z7 z8 z9 z_34) H → va_D A (cModel cI cZ za z1 z2 z3 z4 z5 z6 z7 z8 z9 z_34) → va_S A s.heap H locs → lv_has ls 7 [(0, .ref za), (1, .ref z7), (2, .int x), (3, .int y), (4, .int x4_34)] → W p l e ({ frames := 4, cells := 0, slots := 0, locals := 92 } : Room) s m ([.ref za, .ref z7, .int x, .int y] : List Value).toArray below meth c H locs 0 0 Q (F0 m 58 ls []) := by
      intro x4_34 z_34 H locs ls hf hP hD hS hl
      rw [k_m_works_34] at hf
      refine lv_iconst (v := 0) hx hb dX7_works_58 (by decide) ?_
      refine lv_istore (lv' := [(4, .int 0), (0, .ref za), (1, .ref z7), (2, .int x), (3, .int y)]) hx hb dX7_works_59 hl (by decide) rfl (fun ls hl => ?_)
      have kx61 : ∀ (x4_61 : Int32) (z_61 : Ob) (H : Heap) (locs : List Loc) (ls : Array Slot), k_m_works_61 x4_61 z_61 = some (r, u) → va_P D vwCl (cModel cI cZ za z1 z2 z3 z4 z5 z6 z7 z8 z9 z_61) H → va_D A (cModel cI cZ za z1 z2 z3 z4 z5 z6 z7 z8 z9 z_61) → va_S A s.heap H locs → lv_has ls 7 [(0, .ref za), (1, .ref z7), (2, .int x), (3, .int y), (4, .int x4_61)] → W p l e ({ frames := 4, cells := 0, slots := 0, locals := 92 } : Room) s m ([.ref za, .ref z7, .int x, .int y] : List Value).toArray below meth c H locs 0 0 Q (F0 m 219 ls []) := by
        intro x4_61 z_61 H locs ls hf hP hD hS hl
        rw [k_m_works_61] at hf
        refine lv_aload_n hx hb dX7_works_219 rfl (lv_at hl 0 rfl) ?_
        refine va_get (D := D) (ci := 7) (v := .int (z_61 0 16)) (C := RX7) (T := TX7) (N := 17) hx hb hts inT7 hown hK hP 0 rfl rfl 16 (by decide) (hts _ mT_582) (fun _ h9 => h9) rfl dX7_works_220 ?_
        refine lv_if_le (tgt := 230) hx hb dX7_works_223 (by decide) (fun c223 => ?_) (fun c223 => ?_)
        · have hf := ite_t c223 hf
          refine lv_iload hx hb dX7_works_230 (lv_at hl 4 rfl) ?_
          exact hret _ _ _ z_61 _ _ hf dX7_works_232 hP hD hS
        · have hf := ite_f c223 hf
          refine lv_iconst (v := (-1)) hx hb dX7_works_226 (by decide) ?_
          refine lv_goto (tgt := 232) hx hb dX7_works_227 (by decide) ?_
          exact hret _ _ _ z_61 _ _ hf dX7_works_232 hP hD hS
      have lh61 : ∀ (fu61 : Nat) (x4_61 : Int32) (z_61 : Ob) (H : Heap) (locs : List Loc) (ls : Array Slot), lp_m_works_61 7 x y k_m_works_61 fu61 x4_61 z_61 = some (r, u) → va_P D vwCl (cModel cI cZ za z1 z2 z3 z4 z5 z6 z7 z8 z9 z_61) H → va_D A (cModel cI cZ za z1 z2 z3 z4 z5 z6 z7 z8 z9 z_61) → va_S A s.heap H locs → lv_has ls 7 [(0, .ref za), (1, .ref z7), (2, .int x), (3, .int y), (4, .int x4_61)] → W p l e ({ frames := 4, cells := 0, slots := 0, locals := 92 } : Room) s m ([.ref za, .ref z7, .int x, .int y] : List Value).toArray below meth c H locs 0 0 Q (F0 m 61 ls []) := by
        intro fu61
        induction fu61 with
        | zero => intro x4_61 z_61 H locs ls hf hP hD hS hl; exact no_none hf
        | succ fu61 ih61 =>
          intro x4_61 z_61 H locs ls hf hP hD hS hl
          rw [lp_m_works_61] at hf
          refine lv_aload_n hx hb dX7_works_61 rfl (lv_at hl 0 rfl) ?_
          refine va_get (D := D) (ci := 7) (v := .int (z_61 0 16)) (C := RX7) (T := TX7) (N := 17) hx hb hts inT7 hown hK hP 0 rfl rfl 16 (by decide) (hts _ mT_582) (fun _ h9 => h9) rfl dX7_works_62 ?_
          refine lv_if_le (tgt := 219) hx hb dX7_works_65 (by decide) (fun c65 => ?_) (fun c65 => ?_)
          · have hf := ite_t c65 hf
            exact kx61 x4_61 z_61 _ _ _ hf hP hD hS (lv_sub hl [0, 1, 2, 3, 4] rfl)
          · have hf := ite_f c65 hf
            refine lv_iload hx hb dX7_works_68 (lv_at hl 4 rfl) ?_
            refine lv_sipush (v := 2000) hx hb dX7_works_70 (by decide) ?_
            refine lv_icmp_ge (tgt := 219) hx hb dX7_works_73 (by decide) (fun c73 => ?_) (fun c73 => ?_)
            · have hf := ite_t c73 hf
              exact kx61 x4_61 z_61 _ _ _ hf hP hD hS (lv_sub hl [0, 1, 2, 3, 4] rfl)
            · have hf := ite_f c73 hf
              refine lv_aload_n hx hb dX7_works_76 rfl (lv_at hl 0 rfl) ?_
              refine lv_iload_n hx hb dX7_works_77 rfl (lv_at hl 2 rfl) ?_
              obtain ⟨q78, h78, hf⟩ := bd_some hf
              refine kx_wi (As := [.int x]) (rest := []) (wc := cModel cI cZ za z1 z2 z3 z4 z5 z6 z7 z8 z9 z_61) (wr := []) (wd := cModel cI cZ za z1 z2 z3 z4 z5 z6 z7 z8 z9 q78.2) (wn := cModel cI cZ za z1 z2 z3 z4 z5 z6 z7 z8 z9 q78.2) hx hb hml hown hts hk hP hD hS hA hl.1 s_yX7_taken v_yX7_taken (c_m_taken l D cI cZ cR za z1 z2 z3 z4 z5 z6 z7 z8 z9 z_61 x H.size _ _ h78) mT_695 rfl rfl ⟨Nat.le_of_ble_eq_true rfl, Nat.le_of_ble_eq_true rfl⟩ [0, 1, 2, 3, 4, 5, 6, 7, 8, 9] [] [0, 1, 2, 3, 4, 5, 6, 7, 8, 9] rfl rfl (by decide) (by decide) (by decide) (by decide) rfl (ci := 7) (q0 := 0) rfl rfl rfl (Nat.le_of_ble_eq_true rfl) ⟨Nat.zero_le _, Nat.zero_le _⟩ dX7_works_78 (fun H locs hP hD hS => ?_)
              refine lv_istore (lv' := [(5, .int q78.1), (0, .ref za), (1, .ref z7), (2, .int x), (3, .int y), (4, .int x4_61)]) hx hb dX7_works_81 hl (by decide) rfl (fun ls hl => ?_)
              refine lv_iinc (v := x4_61 + 1) (lv' := [(4, .int (x4_61 + 1)), (5, .int q78.1), (0, .ref za), (1, .ref z7), (2, .int x), (3, .int y)]) hx hb dX7_works_83 hl (k := 5) rfl rfl (by decide) rfl (fun ls hl => ?_)
              refine lv_aload_n hx hb dX7_works_86 rfl (lv_at hl 2 rfl) ?_
              refine lv_aload_n hx hb dX7_works_87 rfl (lv_at hl 3 rfl) ?_
              refine lv_iload hx hb dX7_works_88 (lv_at hl 1 rfl) ?_
              refine lv_iload_n hx hb dX7_works_90 rfl (lv_at hl 5 rfl) ?_
              obtain ⟨q91, h91, hf⟩ := bd_some hf
              refine kx_wv (As := [.ref z7, .int q78.1, .int y]) (rest := []) (wc := cModel cI cZ za z1 z2 z3 z4 z5 z6 z7 z8 z9 q78.2) (wr := []) (wd := cModel cI cZ za z1 z2 z3 z4 z5 z6 z7 z8 z9 q91) (wn := cModel cI cZ za z1 z2 z3 z4 z5 z6 z7 z8 z9 q91) hx hb hml hown hts hk hP hD hS hA hl.1 s_yX7_gathers v_yX7_gathers (c_m_gathers7 l D cI cZ cR za z1 z2 z3 z4 z5 z6 z7 z8 z9 q78.2 q78.1 y H.size _ h91) mT_671 rfl rfl ⟨Nat.le_of_ble_eq_true rfl, Nat.le_of_ble_eq_true rfl⟩ [0, 1, 2, 3, 4, 5, 6, 7, 8, 9] [] [0, 1, 2, 3, 4, 5, 6, 7, 8, 9] rfl rfl (by decide) (by decide) (by decide) (by decide) rfl (ci := 7) (q0 := 0) rfl rfl rfl (Nat.le_of_ble_eq_true rfl) ⟨Nat.zero_le _, Nat.zero_le _⟩ dX7_works_91 (fun H locs hP hD hS => ?_)
              refine lv_aload_n hx hb dX7_works_94 rfl (lv_at hl 2 rfl) ?_
              refine va_get (D := D) (ci := 7) (v := .int (q91 0 13)) (C := RX7) (T := TX7) (N := 17) hx hb hts inT7 hown hK hP 0 rfl rfl 13 (by decide) (hts _ mT_579) (fun _ h9 => h9) rfl dX7_works_95 ?_
              refine lv_aload_n hx hb dX7_works_98 rfl (lv_at hl 3 rfl) ?_
              refine lv_iload hx hb dX7_works_99 (lv_at hl 1 rfl) ?_
              obtain ⟨b101, hf⟩ := gd_some hf
              refine va_iald (n := 20) (f := q91 7) hx hb hK hP 7 0 rfl rfl (ck_in b101) dX7_works_101 ?_
              refine lv_icmp_ne (tgt := 119) hx hb dX7_works_102 (by decide) (fun c102 => ?_) (fun c102 => ?_)
              · have hf := ite_f c102 hf
                refine lv_aload_n hx hb dX7_works_119 rfl (lv_at hl 3 rfl) ?_
                refine lv_iload hx hb dX7_works_120 (lv_at hl 1 rfl) ?_
                refine lv_aload_n hx hb dX7_works_122 rfl (lv_at hl 2 rfl) ?_
                refine va_get (D := D) (ci := 7) (v := .int (q91 0 13)) (C := RX7) (T := TX7) (N := 17) hx hb hts inT7 hown hK hP 0 rfl rfl 13 (by decide) (hts _ mT_579) (fun _ h9 => h9) rfl dX7_works_123 ?_
                obtain ⟨b126, hf⟩ := gd_some hf
                refine va_iast (n := 20) (f := q91 7) hx hb hK hP hD hS 7 0 rfl rfl (ck_in b126) dX7_works_126 (fun H locs hP hD hS => ?_)
                have hP : va_P D vwCl ([(za, .inr (7, [.ref z1, .ref z2, .int (q91 0 2), .ref z3, .ref z4, .int (q91 0 5), .ref z5, .int (q91 0 7), .ref z6, .ref z7, .ref z8, .int (q91 0 11), .int (q91 0 12), .int (q91 0 13), .int (q91 0 14), .ref z9, .int (q91 0 16)])), (z1, .inl (cI, 367, .inl (q91 1))), (z2, .inl (cI, 5872, .inl (q91 2))), (z3, .inl (cI, 736, .inl (q91 3))), (z4, .inl (cZ, 2, .inl (q91 4))), (z5, .inl (cI, 60, .inl (q91 5))), (z6, .inl (cI, 20, .inl (q91 6))), (z7, .inl (cI, 20, .inl (upd (q91 7) (Int32.toNatClampNeg q78.1) (q91 0 13)))), (z8, .inl (cI, 20, .inl (q91 8))), (z9, .inl (cI, 10, .inl (q91 9)))]) H := hP
                have hD : va_D A ([(za, .inr (7, [.ref z1, .ref z2, .int (q91 0 2), .ref z3, .ref z4, .int (q91 0 5), .ref z5, .int (q91 0 7), .ref z6, .ref z7, .ref z8, .int (q91 0 11), .int (q91 0 12), .int (q91 0 13), .int (q91 0 14), .ref z9, .int (q91 0 16)])), (z1, .inl (cI, 367, .inl (q91 1))), (z2, .inl (cI, 5872, .inl (q91 2))), (z3, .inl (cI, 736, .inl (q91 3))), (z4, .inl (cZ, 2, .inl (q91 4))), (z5, .inl (cI, 60, .inl (q91 5))), (z6, .inl (cI, 20, .inl (q91 6))), (z7, .inl (cI, 20, .inl (upd (q91 7) (Int32.toNatClampNeg q78.1) (q91 0 13)))), (z8, .inl (cI, 20, .inl (q91 8))), (z9, .inl (cI, 10, .inl (q91 9)))]) := hD
                refine lv_aload_n hx hb dX7_works_127 rfl (lv_at hl 3 rfl) ?_
                refine lv_bipush (v := 10) hx hb dX7_works_128 (by decide) ?_
                refine lv_iload hx hb dX7_works_130 (lv_at hl 1 rfl) ?_
                refine lv_iadd hx hb dX7_works_132 ?_
                refine lv_aload_n hx hb dX7_works_133 rfl (lv_at hl 2 rfl) ?_
                refine va_get (D := D) (ci := 7) (v := .int (q91 0 14)) (C := RX7) (T := TX7) (N := 17) hx hb hts inT7 hown hK hP 0 rfl rfl 14 (by decide) (hts _ mT_580) (fun _ h9 => h9) rfl dX7_works_134 ?_
                obtain ⟨b137, hf⟩ := gd_some hf
                refine va_iast (n := 20) (f := upd (q91 7) (Int32.toNatClampNeg q78.1) (q91 0 13)) hx hb hK hP hD hS 7 0 rfl rfl (ck_in b137) dX7_works_137 (fun H locs hP hD hS => ?_)
                have hP : va_P D vwCl ([(za, .inr (7, [.ref z1, .ref z2, .int (q91 0 2), .ref z3, .ref z4, .int (q91 0 5), .ref z5, .int (q91 0 7), .ref z6, .ref z7, .ref z8, .int (q91 0 11), .int (q91 0 12), .int (q91 0 13), .int (q91 0 14), .ref z9, .int (q91 0 16)])), (z1, .inl (cI, 367, .inl (q91 1))), (z2, .inl (cI, 5872, .inl (q91 2))), (z3, .inl (cI, 736, .inl (q91 3))), (z4, .inl (cZ, 2, .inl (q91 4))), (z5, .inl (cI, 60, .inl (q91 5))), (z6, .inl (cI, 20, .inl (q91 6))), (z7, .inl (cI, 20, .inl (upd (upd (q91 7) (Int32.toNatClampNeg q78.1) (q91 0 13)) (Int32.toNatClampNeg (10 + q78.1)) (q91 0 14)))), (z8, .inl (cI, 20, .inl (q91 8))), (z9, .inl (cI, 10, .inl (q91 9)))]) H := hP
                have hD : va_D A ([(za, .inr (7, [.ref z1, .ref z2, .int (q91 0 2), .ref z3, .ref z4, .int (q91 0 5), .ref z5, .int (q91 0 7), .ref z6, .ref z7, .ref z8, .int (q91 0 11), .int (q91 0 12), .int (q91 0 13), .int (q91 0 14), .ref z9, .int (q91 0 16)])), (z1, .inl (cI, 367, .inl (q91 1))), (z2, .inl (cI, 5872, .inl (q91 2))), (z3, .inl (cI, 736, .inl (q91 3))), (z4, .inl (cZ, 2, .inl (q91 4))), (z5, .inl (cI, 60, .inl (q91 5))), (z6, .inl (cI, 20, .inl (q91 6))), (z7, .inl (cI, 20, .inl (upd (upd (q91 7) (Int32.toNatClampNeg q78.1) (q91 0 13)) (Int32.toNatClampNeg (10 + q78.1)) (q91 0 14)))), (z8, .inl (cI, 20, .inl (q91 8))), (z9, .inl (cI, 10, .inl (q91 9)))]) := hD
                refine lv_iconst (v := 0) hx hb dX7_works_138 (by decide) ?_
                refine lv_istore (lv' := [(6, .int 0), (4, .int (x4_61 + 1)), (5, .int q78.1), (0, .ref za), (1, .ref z7), (2, .int x), (3, .int y)]) hx hb dX7_works_139 hl (by decide) rfl (fun ls hl => ?_)
                have kx141 : ∀ (x6_141 : Int32) (z_141 : Ob) (H : Heap) (locs : List Loc) (ls : Array Slot), (k_m_works_141 x4_61 ((lp_m_works_61 7 x y k_m_works_61 fu61))) x6_141 z_141 = some (r, u) → va_P D vwCl (cModel cI cZ za z1 z2 z3 z4 z5 z6 z7 z8 z9 z_141) H → va_D A (cModel cI cZ za z1 z2 z3 z4 z5 z6 z7 z8 z9 z_141) → va_S A s.heap H locs → lv_has ls 7 [(0, .ref za), (1, .ref z7), (2, .int x), (3, .int y), (4, .int (x4_61 + 1)), (5, .int q78.1), (6, .int x6_141)] → W p l e ({ frames := 4, cells := 0, slots := 0, locals := 92 } : Room) s m ([.ref za, .ref z7, .int x, .int y] : List Value).toArray below meth c H locs 0 0 Q (F0 m 216 ls []) := by
                  intro x6_141 z_141 H locs ls hf hP hD hS hl
                  rw [k_m_works_141] at hf
                  refine lv_goto (tgt := 61) hx hb dX7_works_216 (by decide) ?_
                  exact ih61 (x4_61 + 1) z_141 _ _ _ hf hP hD hS (lv_sub hl [0, 1, 2, 3, 4] rfl)
                have lh141 : ∀ (fu141 : Nat) (x6_141 : Int32) (z_141 : Ob) (H : Heap) (locs : List Loc) (ls : Array Slot), lp_m_works_141 y q78 (k_m_works_141 x4_61 ((lp_m_works_61 7 x y k_m_works_61 fu61))) fu141 x6_141 z_141 = some (r, u) → va_P D vwCl (cModel cI cZ za z1 z2 z3 z4 z5 z6 z7 z8 z9 z_141) H → va_D A (cModel cI cZ za z1 z2 z3 z4 z5 z6 z7 z8 z9 z_141) → va_S A s.heap H locs → lv_has ls 7 [(0, .ref za), (1, .ref z7), (2, .int x), (3, .int y), (4, .int (x4_61 + 1)), (5, .int q78.1), (6, .int x6_141)] → W p l e ({ frames := 4, cells := 0, slots := 0, locals := 92 } : Room) s m ([.ref za, .ref z7, .int x, .int y] : List Value).toArray below meth c H locs 0 0 Q (F0 m 141 ls []) := by
                  intro fu141
                  induction fu141 with
                  | zero => intro x6_141 z_141 H locs ls hf hP hD hS hl; exact no_none hf
                  | succ fu141 ih141 =>
                    intro x6_141 z_141 H locs ls hf hP hD hS hl
                    rw [lp_m_works_141] at hf
                    refine lv_iload hx hb dX7_works_141 (lv_at hl 6 rfl) ?_
                    refine lv_aload_n hx hb dX7_works_143 rfl (lv_at hl 0 rfl) ?_
                    refine va_get (D := D) (ci := 7) (v := .ref z1) (C := RX7) (T := TX7) (N := 17) hx hb hts inT7 hown hK hP 0 rfl rfl 0 (by decide) (hts _ mT_566) (fun _ h9 => h9) rfl dX7_works_144 ?_
                    refine lv_iconst (v := 2) hx hb dX7_works_147 (by decide) ?_
                    refine va_iald (n := 367) (f := z_141 1) hx hb hK hP 1 0 rfl rfl (ck_in (by decide)) dX7_works_148 ?_
                    refine lv_icmp_ge (tgt := 216) hx hb dX7_works_149 (by decide) (fun c149 => ?_) (fun c149 => ?_)
                    · have hf := ite_t c149 hf
                      exact kx141 x6_141 z_141 _ _ _ hf hP hD hS (lv_sub hl [0, 1, 2, 3, 4, 5, 6] rfl)
                    · have hf := ite_f c149 hf
                      refine lv_iload hx hb dX7_works_152 (lv_at hl 6 rfl) ?_
                      refine lv_iload_n hx hb dX7_works_154 rfl (lv_at hl 3 rfl) ?_
                      refine lv_icmp_eq (tgt := 210) hx hb dX7_works_155 (by decide) (fun c155 => ?_) (fun c155 => ?_)
                      · have hf := ite_t c155 hf
                        refine lv_iinc (v := x6_141 + 1) (lv' := [(6, .int (x6_141 + 1)), (0, .ref za), (1, .ref z7), (2, .int x), (3, .int y), (4, .int (x4_61 + 1)), (5, .int q78.1)]) hx hb dX7_works_210 hl (k := 6) rfl rfl (by decide) rfl (fun ls hl => ?_)
                        refine lv_goto (tgt := 141) hx hb dX7_works_213 (by decide) ?_
                        exact ih141 (x6_141 + 1) z_141 _ _ _ hf hP hD hS (lv_sub hl [1, 2, 3, 4, 5, 6, 0] rfl)
                      · have hf := ite_f c155 hf
                        refine lv_aload_n hx hb dX7_works_158 rfl (lv_at hl 0 rfl) ?_
                        refine lv_iload hx hb dX7_works_159 (lv_at hl 6 rfl) ?_
                        refine lv_iconst (v := 0) hx hb dX7_works_161 (by decide) ?_
                        obtain ⟨q162, h162, hf⟩ := bd_some hf
                        refine kx_rv (As := [.int x6_141, .int 0]) (rest := []) hx hb hml hown hts hk hP hl.1 s_yX7_of v_yX7_of (c_m_of l D cI cZ cR za z1 z2 z3 z4 z5 z6 z7 z8 z9 z_141 x6_141 0 _ h162) mT_647 rfl rfl ⟨Nat.le_of_ble_eq_true rfl, Nat.le_of_ble_eq_true rfl⟩ (ci := 7) (q0 := 0) rfl rfl rfl (Nat.le_of_ble_eq_true rfl) ⟨Nat.zero_le _, Nat.zero_le _⟩ dX7_works_162 ?_
                        refine lv_iload hx hb dX7_works_165 (lv_at hl 5 rfl) ?_
                        refine lv_icmp_ne (tgt := 210) hx hb dX7_works_167 (by decide) (fun c167 => ?_) (fun c167 => ?_)
                        · have hf := ite_f c167 hf
                          refine lv_iinc (v := x6_141 + 1) (lv' := [(6, .int (x6_141 + 1)), (0, .ref za), (1, .ref z7), (2, .int x), (3, .int y), (4, .int (x4_61 + 1)), (5, .int q78.1)]) hx hb dX7_works_210 hl (k := 6) rfl rfl (by decide) rfl (fun ls hl => ?_)
                          refine lv_goto (tgt := 141) hx hb dX7_works_213 (by decide) ?_
                          exact ih141 (x6_141 + 1) z_141 _ _ _ hf hP hD hS (lv_sub hl [1, 2, 3, 4, 5, 6, 0] rfl)
                        · have hf := ite_t c167 hf
                          refine lv_aload_n hx hb dX7_works_170 rfl (lv_at hl 0 rfl) ?_
                          refine lv_aload_n hx hb dX7_works_171 rfl (lv_at hl 0 rfl) ?_
                          refine lv_iload hx hb dX7_works_172 (lv_at hl 6 rfl) ?_
                          refine lv_iconst (v := 1) hx hb dX7_works_174 (by decide) ?_
                          obtain ⟨q175, h175, hf⟩ := bd_some hf
                          refine kx_rv (As := [.int x6_141, .int 1]) (rest := [.ref za]) hx hb hml hown hts hk hP hl.1 s_yX7_of v_yX7_of (c_m_of l D cI cZ cR za z1 z2 z3 z4 z5 z6 z7 z8 z9 z_141 x6_141 1 _ h175) mT_647 rfl rfl ⟨Nat.le_of_ble_eq_true rfl, Nat.le_of_ble_eq_true rfl⟩ (ci := 7) (q0 := 0) rfl rfl rfl (Nat.le_of_ble_eq_true rfl) ⟨Nat.zero_le _, Nat.zero_le _⟩ dX7_works_175 ?_
                          obtain ⟨q178, h178, hf⟩ := bd_some hf
                          refine kx_rv (As := [.int q175]) (rest := []) hx hb hml hown hts hk hP hl.1 s_yX7_waits v_yX7_waits (c_m_waits l D cI cZ cR za z1 z2 z3 z4 z5 z6 z7 z8 z9 z_141 q175 _ h178) mT_699 rfl rfl ⟨Nat.le_of_ble_eq_true rfl, Nat.le_of_ble_eq_true rfl⟩ (ci := 7) (q0 := 0) rfl rfl rfl (Nat.le_of_ble_eq_true rfl) ⟨Nat.zero_le _, Nat.zero_le _⟩ dX7_works_178 ?_
                          refine lv_if_ne (tgt := 210) hx hb dX7_works_181 (by decide) (fun c181 => ?_) (fun c181 => ?_)
                          · have hf := ite_f c181 hf
                            refine lv_iinc (v := x6_141 + 1) (lv' := [(6, .int (x6_141 + 1)), (0, .ref za), (1, .ref z7), (2, .int x), (3, .int y), (4, .int (x4_61 + 1)), (5, .int q78.1)]) hx hb dX7_works_210 hl (k := 6) rfl rfl (by decide) rfl (fun ls hl => ?_)
                            refine lv_goto (tgt := 141) hx hb dX7_works_213 (by decide) ?_
                            exact ih141 (x6_141 + 1) z_141 _ _ _ hf hP hD hS (lv_sub hl [1, 2, 3, 4, 5, 6, 0] rfl)
                          · have hf := ite_t c181 hf
                            refine lv_aload_n hx hb dX7_works_184 rfl (lv_at hl 0 rfl) ?_
                            refine va_get (D := D) (ci := 7) (v := .ref z9) (C := RX7) (T := TX7) (N := 17) hx hb hts inT7 hown hK hP 0 rfl rfl 15 (by decide) (hts _ mT_581) (fun _ h9 => h9) rfl dX7_works_185 ?_
                            refine lv_aload_n hx hb dX7_works_188 rfl (lv_at hl 0 rfl) ?_
                            refine va_get (D := D) (ci := 7) (v := .int (z_141 0 16)) (C := RX7) (T := TX7) (N := 17) hx hb hts inT7 hown hK hP 0 rfl rfl 16 (by decide) (hts _ mT_582) (fun _ h9 => h9) rfl dX7_works_189 ?_
                            refine lv_aload_n hx hb dX7_works_192 rfl (lv_at hl 0 rfl) ?_
                            refine lv_iload hx hb dX7_works_193 (lv_at hl 6 rfl) ?_
                            refine lv_iconst (v := 1) hx hb dX7_works_195 (by decide) ?_
                            obtain ⟨q196, h196, hf⟩ := bd_some hf
                            refine kx_rv (As := [.int x6_141, .int 1]) (rest := [.int (z_141 0 16), .ref z9]) hx hb hml hown hts hk hP hl.1 s_yX7_of v_yX7_of (c_m_of l D cI cZ cR za z1 z2 z3 z4 z5 z6 z7 z8 z9 z_141 x6_141 1 _ h196) mT_647 rfl rfl ⟨Nat.le_of_ble_eq_true rfl, Nat.le_of_ble_eq_true rfl⟩ (ci := 7) (q0 := 0) rfl rfl rfl (Nat.le_of_ble_eq_true rfl) ⟨Nat.zero_le _, Nat.zero_le _⟩ dX7_works_196 ?_
                            obtain ⟨b199, hf⟩ := gd_some hf
                            refine va_iast (n := 10) (f := z_141 9) hx hb hK hP hD hS 9 0 rfl rfl (ck_in b199) dX7_works_199 (fun H locs hP hD hS => ?_)
                            have hP : va_P D vwCl ([(za, .inr (7, [.ref z1, .ref z2, .int (z_141 0 2), .ref z3, .ref z4, .int (z_141 0 5), .ref z5, .int (z_141 0 7), .ref z6, .ref z7, .ref z8, .int (z_141 0 11), .int (z_141 0 12), .int (z_141 0 13), .int (z_141 0 14), .ref z9, .int (z_141 0 16)])), (z1, .inl (cI, 367, .inl (z_141 1))), (z2, .inl (cI, 5872, .inl (z_141 2))), (z3, .inl (cI, 736, .inl (z_141 3))), (z4, .inl (cZ, 2, .inl (z_141 4))), (z5, .inl (cI, 60, .inl (z_141 5))), (z6, .inl (cI, 20, .inl (z_141 6))), (z7, .inl (cI, 20, .inl (z_141 7))), (z8, .inl (cI, 20, .inl (z_141 8))), (z9, .inl (cI, 10, .inl (upd (z_141 9) (Int32.toNatClampNeg (z_141 0 16)) q196)))]) H := hP
                            have hD : va_D A ([(za, .inr (7, [.ref z1, .ref z2, .int (z_141 0 2), .ref z3, .ref z4, .int (z_141 0 5), .ref z5, .int (z_141 0 7), .ref z6, .ref z7, .ref z8, .int (z_141 0 11), .int (z_141 0 12), .int (z_141 0 13), .int (z_141 0 14), .ref z9, .int (z_141 0 16)])), (z1, .inl (cI, 367, .inl (z_141 1))), (z2, .inl (cI, 5872, .inl (z_141 2))), (z3, .inl (cI, 736, .inl (z_141 3))), (z4, .inl (cZ, 2, .inl (z_141 4))), (z5, .inl (cI, 60, .inl (z_141 5))), (z6, .inl (cI, 20, .inl (z_141 6))), (z7, .inl (cI, 20, .inl (z_141 7))), (z8, .inl (cI, 20, .inl (z_141 8))), (z9, .inl (cI, 10, .inl (upd (z_141 9) (Int32.toNatClampNeg (z_141 0 16)) q196)))]) := hD
                            refine lv_aload_n hx hb dX7_works_200 rfl (lv_at hl 0 rfl) ?_
                            refine lv_dup hx hb dX7_works_201 rfl ?_
                            refine va_get (D := D) (ci := 7) (v := .int (z_141 0 16)) (C := RX7) (T := TX7) (N := 17) hx hb hts inT7 hown hK hP 0 rfl rfl 16 (by decide) (hts _ mT_582) (fun _ h9 => h9) rfl dX7_works_202 ?_
                            refine lv_iconst (v := 1) hx hb dX7_works_205 (by decide) ?_
                            refine lv_iadd hx hb dX7_works_206 ?_
                            refine va_put (D := D) (ci := 7) (v := .int ((z_141 0 16) + 1)) (ty := .int) (C := RX7) (T := TX7) (N := 17) hx hb hts inT7 tyX7 tyX7_ok nmX7 hown hK hP hD hS 0 rfl rfl 16 (by decide) (hts _ mT_582) (fun _ h9 => h9) rfl (by decide +kernel) rfl rfl (Nat.le_of_ble_eq_true rfl) dX7_works_207 (fun H locs hP hD hS => ?_)
                            have hP : va_P D vwCl ([(za, .inr (7, [.ref z1, .ref z2, .int (z_141 0 2), .ref z3, .ref z4, .int (z_141 0 5), .ref z5, .int (z_141 0 7), .ref z6, .ref z7, .ref z8, .int (z_141 0 11), .int (z_141 0 12), .int (z_141 0 13), .int (z_141 0 14), .ref z9, .int ((z_141 0 16) + 1)])), (z1, .inl (cI, 367, .inl (z_141 1))), (z2, .inl (cI, 5872, .inl (z_141 2))), (z3, .inl (cI, 736, .inl (z_141 3))), (z4, .inl (cZ, 2, .inl (z_141 4))), (z5, .inl (cI, 60, .inl (z_141 5))), (z6, .inl (cI, 20, .inl (z_141 6))), (z7, .inl (cI, 20, .inl (z_141 7))), (z8, .inl (cI, 20, .inl (z_141 8))), (z9, .inl (cI, 10, .inl (upd (z_141 9) (Int32.toNatClampNeg (z_141 0 16)) q196)))]) H := hP
                            have hD : va_D A ([(za, .inr (7, [.ref z1, .ref z2, .int (z_141 0 2), .ref z3, .ref z4, .int (z_141 0 5), .ref z5, .int (z_141 0 7), .ref z6, .ref z7, .ref z8, .int (z_141 0 11), .int (z_141 0 12), .int (z_141 0 13), .int (z_141 0 14), .ref z9, .int ((z_141 0 16) + 1)])), (z1, .inl (cI, 367, .inl (z_141 1))), (z2, .inl (cI, 5872, .inl (z_141 2))), (z3, .inl (cI, 736, .inl (z_141 3))), (z4, .inl (cZ, 2, .inl (z_141 4))), (z5, .inl (cI, 60, .inl (z_141 5))), (z6, .inl (cI, 20, .inl (z_141 6))), (z7, .inl (cI, 20, .inl (z_141 7))), (z8, .inl (cI, 20, .inl (z_141 8))), (z9, .inl (cI, 10, .inl (upd (z_141 9) (Int32.toNatClampNeg (z_141 0 16)) q196)))]) := hD
                            refine lv_iinc (v := x6_141 + 1) (lv' := [(6, .int (x6_141 + 1)), (0, .ref za), (1, .ref z7), (2, .int x), (3, .int y), (4, .int (x4_61 + 1)), (5, .int q78.1)]) hx hb dX7_works_210 hl (k := 6) rfl rfl (by decide) rfl (fun ls hl => ?_)
                            refine lv_goto (tgt := 141) hx hb dX7_works_213 (by decide) ?_
                            exact ih141 (x6_141 + 1) (sI (sA z_141 9 (upd (z_141 9) (Int32.toNatClampNeg (z_141 0 16)) q196)) 16 ((z_141 0 16) + 1)) _ _ _ hf hP hD hS (lv_sub hl [1, 2, 3, 4, 5, 6, 0] rfl)
                exact lh141 10000 0 (sA (sA q91 7 (upd (q91 7) (Int32.toNatClampNeg q78.1) (q91 0 13))) 7 (upd (upd (q91 7) (Int32.toNatClampNeg q78.1) (q91 0 13)) (Int32.toNatClampNeg (10 + q78.1)) (q91 0 14))) _ _ _ hf hP hD hS (lv_sub hl [3, 4, 5, 6, 1, 2, 0] rfl)
              · have hf := ite_t c102 hf
                refine lv_aload_n hx hb dX7_works_105 rfl (lv_at hl 2 rfl) ?_
                refine va_get (D := D) (ci := 7) (v := .int (q91 0 14)) (C := RX7) (T := TX7) (N := 17) hx hb hts inT7 hown hK hP 0 rfl rfl 14 (by decide) (hts _ mT_580) (fun _ h9 => h9) rfl dX7_works_106 ?_
                refine lv_aload_n hx hb dX7_works_109 rfl (lv_at hl 3 rfl) ?_
                refine lv_bipush (v := 10) hx hb dX7_works_110 (by decide) ?_
                refine lv_iload hx hb dX7_works_112 (lv_at hl 1 rfl) ?_
                refine lv_iadd hx hb dX7_works_114 ?_
                obtain ⟨b115, hf⟩ := gd_some hf
                refine va_iald (n := 20) (f := q91 7) hx hb hK hP 7 0 rfl rfl (ck_in b115) dX7_works_115 ?_
                refine lv_icmp_eq (tgt := 216) hx hb dX7_works_116 (by decide) (fun c116 => ?_) (fun c116 => ?_)
                · have hf := ite_t c116 hf
                  refine lv_goto (tgt := 61) hx hb dX7_works_216 (by decide) ?_
                  exact ih61 (x4_61 + 1) q91 _ _ _ hf hP hD hS (lv_sub hl [2, 3, 4, 5, 0] rfl)
                · have hf := ite_f c116 hf
                  refine lv_aload_n hx hb dX7_works_119 rfl (lv_at hl 3 rfl) ?_
                  refine lv_iload hx hb dX7_works_120 (lv_at hl 1 rfl) ?_
                  refine lv_aload_n hx hb dX7_works_122 rfl (lv_at hl 2 rfl) ?_
                  refine va_get (D := D) (ci := 7) (v := .int (q91 0 13)) (C := RX7) (T := TX7) (N := 17) hx hb hts inT7 hown hK hP 0 rfl rfl 13 (by decide) (hts _ mT_579) (fun _ h9 => h9) rfl dX7_works_123 ?_
                  obtain ⟨b126, hf⟩ := gd_some hf
                  refine va_iast (n := 20) (f := q91 7) hx hb hK hP hD hS 7 0 rfl rfl (ck_in b126) dX7_works_126 (fun H locs hP hD hS => ?_)
                  have hP : va_P D vwCl ([(za, .inr (7, [.ref z1, .ref z2, .int (q91 0 2), .ref z3, .ref z4, .int (q91 0 5), .ref z5, .int (q91 0 7), .ref z6, .ref z7, .ref z8, .int (q91 0 11), .int (q91 0 12), .int (q91 0 13), .int (q91 0 14), .ref z9, .int (q91 0 16)])), (z1, .inl (cI, 367, .inl (q91 1))), (z2, .inl (cI, 5872, .inl (q91 2))), (z3, .inl (cI, 736, .inl (q91 3))), (z4, .inl (cZ, 2, .inl (q91 4))), (z5, .inl (cI, 60, .inl (q91 5))), (z6, .inl (cI, 20, .inl (q91 6))), (z7, .inl (cI, 20, .inl (upd (q91 7) (Int32.toNatClampNeg q78.1) (q91 0 13)))), (z8, .inl (cI, 20, .inl (q91 8))), (z9, .inl (cI, 10, .inl (q91 9)))]) H := hP
                  have hD : va_D A ([(za, .inr (7, [.ref z1, .ref z2, .int (q91 0 2), .ref z3, .ref z4, .int (q91 0 5), .ref z5, .int (q91 0 7), .ref z6, .ref z7, .ref z8, .int (q91 0 11), .int (q91 0 12), .int (q91 0 13), .int (q91 0 14), .ref z9, .int (q91 0 16)])), (z1, .inl (cI, 367, .inl (q91 1))), (z2, .inl (cI, 5872, .inl (q91 2))), (z3, .inl (cI, 736, .inl (q91 3))), (z4, .inl (cZ, 2, .inl (q91 4))), (z5, .inl (cI, 60, .inl (q91 5))), (z6, .inl (cI, 20, .inl (q91 6))), (z7, .inl (cI, 20, .inl (upd (q91 7) (Int32.toNatClampNeg q78.1) (q91 0 13)))), (z8, .inl (cI, 20, .inl (q91 8))), (z9, .inl (cI, 10, .inl (q91 9)))]) := hD
                  refine lv_aload_n hx hb dX7_works_127 rfl (lv_at hl 3 rfl) ?_
                  refine lv_bipush (v := 10) hx hb dX7_works_128 (by decide) ?_
                  refine lv_iload hx hb dX7_works_130 (lv_at hl 1 rfl) ?_
                  refine lv_iadd hx hb dX7_works_132 ?_
                  refine lv_aload_n hx hb dX7_works_133 rfl (lv_at hl 2 rfl) ?_
                  refine va_get (D := D) (ci := 7) (v := .int (q91 0 14)) (C := RX7) (T := TX7) (N := 17) hx hb hts inT7 hown hK hP 0 rfl rfl 14 (by decide) (hts _ mT_580) (fun _ h9 => h9) rfl dX7_works_134 ?_
                  obtain ⟨b137, hf⟩ := gd_some hf
                  refine va_iast (n := 20) (f := upd (q91 7) (Int32.toNatClampNeg q78.1) (q91 0 13)) hx hb hK hP hD hS 7 0 rfl rfl (ck_in b137) dX7_works_137 (fun H locs hP hD hS => ?_)
                  have hP : va_P D vwCl ([(za, .inr (7, [.ref z1, .ref z2, .int (q91 0 2), .ref z3, .ref z4, .int (q91 0 5), .ref z5, .int (q91 0 7), .ref z6, .ref z7, .ref z8, .int (q91 0 11), .int (q91 0 12), .int (q91 0 13), .int (q91 0 14), .ref z9, .int (q91 0 16)])), (z1, .inl (cI, 367, .inl (q91 1))), (z2, .inl (cI, 5872, .inl (q91 2))), (z3, .inl (cI, 736, .inl (q91 3))), (z4, .inl (cZ, 2, .inl (q91 4))), (z5, .inl (cI, 60, .inl (q91 5))), (z6, .inl (cI, 20, .inl (q91 6))), (z7, .inl (cI, 20, .inl (upd (upd (q91 7) (Int32.toNatClampNeg q78.1) (q91 0 13)) (Int32.toNatClampNeg (10 + q78.1)) (q91 0 14)))), (z8, .inl (cI, 20, .inl (q91 8))), (z9, .inl (cI, 10, .inl (q91 9)))]) H := hP
                  have hD : va_D A ([(za, .inr (7, [.ref z1, .ref z2, .int (q91 0 2), .ref z3, .ref z4, .int (q91 0 5), .ref z5, .int (q91 0 7), .ref z6, .ref z7, .ref z8, .int (q91 0 11), .int (q91 0 12), .int (q91 0 13), .int (q91 0 14), .ref z9, .int (q91 0 16)])), (z1, .inl (cI, 367, .inl (q91 1))), (z2, .inl (cI, 5872, .inl (q91 2))), (z3, .inl (cI, 736, .inl (q91 3))), (z4, .inl (cZ, 2, .inl (q91 4))), (z5, .inl (cI, 60, .inl (q91 5))), (z6, .inl (cI, 20, .inl (q91 6))), (z7, .inl (cI, 20, .inl (upd (upd (q91 7) (Int32.toNatClampNeg q78.1) (q91 0 13)) (Int32.toNatClampNeg (10 + q78.1)) (q91 0 14)))), (z8, .inl (cI, 20, .inl (q91 8))), (z9, .inl (cI, 10, .inl (q91 9)))]) := hD
                  refine lv_iconst (v := 0) hx hb dX7_works_138 (by decide) ?_
                  refine lv_istore (lv' := [(6, .int 0), (4, .int (x4_61 + 1)), (5, .int q78.1), (0, .ref za), (1, .ref z7), (2, .int x), (3, .int y)]) hx hb dX7_works_139 hl (by decide) rfl (fun ls hl => ?_)
                  have kx141 : ∀ (x6_141 : Int32) (z_141 : Ob) (H : Heap) (locs : List Loc) (ls : Array Slot), (k_m_works_141 x4_61 ((lp_m_works_61 7 x y k_m_works_61 fu61))) x6_141 z_141 = some (r, u) → va_P D vwCl (cModel cI cZ za z1 z2 z3 z4 z5 z6 z7 z8 z9 z_141) H → va_D A (cModel cI cZ za z1 z2 z3 z4 z5 z6 z7 z8 z9 z_141) → va_S A s.heap H locs → lv_has ls 7 [(0, .ref za), (1, .ref z7), (2, .int x), (3, .int y), (4, .int (x4_61 + 1)), (5, .int q78.1), (6, .int x6_141)] → W p l e ({ frames := 4, cells := 0, slots := 0, locals := 92 } : Room) s m ([.ref za, .ref z7, .int x, .int y] : List Value).toArray below meth c H locs 0 0 Q (F0 m 216 ls []) := by
                    intro x6_141 z_141 H locs ls hf hP hD hS hl
                    rw [k_m_works_141] at hf
                    refine lv_goto (tgt := 61) hx hb dX7_works_216 (by decide) ?_
                    exact ih61 (x4_61 + 1) z_141 _ _ _ hf hP hD hS (lv_sub hl [0, 1, 2, 3, 4] rfl)
                  have lh141 : ∀ (fu141 : Nat) (x6_141 : Int32) (z_141 : Ob) (H : Heap) (locs : List Loc) (ls : Array Slot), lp_m_works_141 y q78 (k_m_works_141 x4_61 ((lp_m_works_61 7 x y k_m_works_61 fu61))) fu141 x6_141 z_141 = some (r, u) → va_P D vwCl (cModel cI cZ za z1 z2 z3 z4 z5 z6 z7 z8 z9 z_141) H → va_D A (cModel cI cZ za z1 z2 z3 z4 z5 z6 z7 z8 z9 z_141) → va_S A s.heap H locs → lv_has ls 7 [(0, .ref za), (1, .ref z7), (2, .int x), (3, .int y), (4, .int (x4_61 + 1)), (5, .int q78.1), (6, .int x6_141)] → W p l e ({ frames := 4, cells := 0, slots := 0, locals := 92 } : Room) s m ([.ref za, .ref z7, .int x, .int y] : List Value).toArray below meth c H locs 0 0 Q (F0 m 141 ls []) := by
                    intro fu141
                    induction fu141 with
                    | zero => intro x6_141 z_141 H locs ls hf hP hD hS hl; exact no_none hf
                    | succ fu141 ih141 =>
                      intro x6_141 z_141 H locs ls hf hP hD hS hl
                      rw [lp_m_works_141] at hf
                      refine lv_iload hx hb dX7_works_141 (lv_at hl 6 rfl) ?_
                      refine lv_aload_n hx hb dX7_works_143 rfl (lv_at hl 0 rfl) ?_
                      refine va_get (D := D) (ci := 7) (v := .ref z1) (C := RX7) (T := TX7) (N := 17) hx hb hts inT7 hown hK hP 0 rfl rfl 0 (by decide) (hts _ mT_566) (fun _ h9 => h9) rfl dX7_works_144 ?_
                      refine lv_iconst (v := 2) hx hb dX7_works_147 (by decide) ?_
                      refine va_iald (n := 367) (f := z_141 1) hx hb hK hP 1 0 rfl rfl (ck_in (by decide)) dX7_works_148 ?_
                      refine lv_icmp_ge (tgt := 216) hx hb dX7_works_149 (by decide) (fun c149 => ?_) (fun c149 => ?_)
                      · have hf := ite_t c149 hf
                        exact kx141 x6_141 z_141 _ _ _ hf hP hD hS (lv_sub hl [0, 1, 2, 3, 4, 5, 6] rfl)
                      · have hf := ite_f c149 hf
                        refine lv_iload hx hb dX7_works_152 (lv_at hl 6 rfl) ?_
                        refine lv_iload_n hx hb dX7_works_154 rfl (lv_at hl 3 rfl) ?_
                        refine lv_icmp_eq (tgt := 210) hx hb dX7_works_155 (by decide) (fun c155 => ?_) (fun c155 => ?_)
                        · have hf := ite_t c155 hf
                          refine lv_iinc (v := x6_141 + 1) (lv' := [(6, .int (x6_141 + 1)), (0, .ref za), (1, .ref z7), (2, .int x), (3, .int y), (4, .int (x4_61 + 1)), (5, .int q78.1)]) hx hb dX7_works_210 hl (k := 6) rfl rfl (by decide) rfl (fun ls hl => ?_)
                          refine lv_goto (tgt := 141) hx hb dX7_works_213 (by decide) ?_
                          exact ih141 (x6_141 + 1) z_141 _ _ _ hf hP hD hS (lv_sub hl [1, 2, 3, 4, 5, 6, 0] rfl)
                        · have hf := ite_f c155 hf
                          refine lv_aload_n hx hb dX7_works_158 rfl (lv_at hl 0 rfl) ?_
                          refine lv_iload hx hb dX7_works_159 (lv_at hl 6 rfl) ?_
                          refine lv_iconst (v := 0) hx hb dX7_works_161 (by decide) ?_
                          obtain ⟨q162, h162, hf⟩ := bd_some hf
                          refine kx_rv (As := [.int x6_141, .int 0]) (rest := []) hx hb hml hown hts hk hP hl.1 s_yX7_of v_yX7_of (c_m_of l D cI cZ cR za z1 z2 z3 z4 z5 z6 z7 z8 z9 z_141 x6_141 0 _ h162) mT_647 rfl rfl ⟨Nat.le_of_ble_eq_true rfl, Nat.le_of_ble_eq_true rfl⟩ (ci := 7) (q0 := 0) rfl rfl rfl (Nat.le_of_ble_eq_true rfl) ⟨Nat.zero_le _, Nat.zero_le _⟩ dX7_works_162 ?_
                          refine lv_iload hx hb dX7_works_165 (lv_at hl 5 rfl) ?_
                          refine lv_icmp_ne (tgt := 210) hx hb dX7_works_167 (by decide) (fun c167 => ?_) (fun c167 => ?_)
                          · have hf := ite_f c167 hf
                            refine lv_iinc (v := x6_141 + 1) (lv' := [(6, .int (x6_141 + 1)), (0, .ref za), (1, .ref z7), (2, .int x), (3, .int y), (4, .int (x4_61 + 1)), (5, .int q78.1)]) hx hb dX7_works_210 hl (k := 6) rfl rfl (by decide) rfl (fun ls hl => ?_)
                            refine lv_goto (tgt := 141) hx hb dX7_works_213 (by decide) ?_
                            exact ih141 (x6_141 + 1) z_141 _ _ _ hf hP hD hS (lv_sub hl [1, 2, 3, 4, 5, 6, 0] rfl)
                          · have hf := ite_t c167 hf
                            refine lv_aload_n hx hb dX7_works_170 rfl (lv_at hl 0 rfl) ?_
                            refine lv_aload_n hx hb dX7_works_171 rfl (lv_at hl 0 rfl) ?_
                            refine lv_iload hx hb dX7_works_172 (lv_at hl 6 rfl) ?_
                            refine lv_iconst (v := 1) hx hb dX7_works_174 (by decide) ?_
                            obtain ⟨q175, h175, hf⟩ := bd_some hf
                            refine kx_rv (As := [.int x6_141, .int 1]) (rest := [.ref za]) hx hb hml hown hts hk hP hl.1 s_yX7_of v_yX7_of (c_m_of l D cI cZ cR za z1 z2 z3 z4 z5 z6 z7 z8 z9 z_141 x6_141 1 _ h175) mT_647 rfl rfl ⟨Nat.le_of_ble_eq_true rfl, Nat.le_of_ble_eq_true rfl⟩ (ci := 7) (q0 := 0) rfl rfl rfl (Nat.le_of_ble_eq_true rfl) ⟨Nat.zero_le _, Nat.zero_le _⟩ dX7_works_175 ?_
                            obtain ⟨q178, h178, hf⟩ := bd_some hf
                            refine kx_rv (As := [.int q175]) (rest := []) hx hb hml hown hts hk hP hl.1 s_yX7_waits v_yX7_waits (c_m_waits l D cI cZ cR za z1 z2 z3 z4 z5 z6 z7 z8 z9 z_141 q175 _ h178) mT_699 rfl rfl ⟨Nat.le_of_ble_eq_true rfl, Nat.le_of_ble_eq_true rfl⟩ (ci := 7) (q0 := 0) rfl rfl rfl (Nat.le_of_ble_eq_true rfl) ⟨Nat.zero_le _, Nat.zero_le _⟩ dX7_works_178 ?_
                            refine lv_if_ne (tgt := 210) hx hb dX7_works_181 (by decide) (fun c181 => ?_) (fun c181 => ?_)
                            · have hf := ite_f c181 hf
                              refine lv_iinc (v := x6_141 + 1) (lv' := [(6, .int (x6_141 + 1)), (0, .ref za), (1, .ref z7), (2, .int x), (3, .int y), (4, .int (x4_61 + 1)), (5, .int q78.1)]) hx hb dX7_works_210 hl (k := 6) rfl rfl (by decide) rfl (fun ls hl => ?_)
                              refine lv_goto (tgt := 141) hx hb dX7_works_213 (by decide) ?_
                              exact ih141 (x6_141 + 1) z_141 _ _ _ hf hP hD hS (lv_sub hl [1, 2, 3, 4, 5, 6, 0] rfl)
                            · have hf := ite_t c181 hf
                              refine lv_aload_n hx hb dX7_works_184 rfl (lv_at hl 0 rfl) ?_
                              refine va_get (D := D) (ci := 7) (v := .ref z9) (C := RX7) (T := TX7) (N := 17) hx hb hts inT7 hown hK hP 0 rfl rfl 15 (by decide) (hts _ mT_581) (fun _ h9 => h9) rfl dX7_works_185 ?_
                              refine lv_aload_n hx hb dX7_works_188 rfl (lv_at hl 0 rfl) ?_
                              refine va_get (D := D) (ci := 7) (v := .int (z_141 0 16)) (C := RX7) (T := TX7) (N := 17) hx hb hts inT7 hown hK hP 0 rfl rfl 16 (by decide) (hts _ mT_582) (fun _ h9 => h9) rfl dX7_works_189 ?_
                              refine lv_aload_n hx hb dX7_works_192 rfl (lv_at hl 0 rfl) ?_
                              refine lv_iload hx hb dX7_works_193 (lv_at hl 6 rfl) ?_
                              refine lv_iconst (v := 1) hx hb dX7_works_195 (by decide) ?_
                              obtain ⟨q196, h196, hf⟩ := bd_some hf
                              refine kx_rv (As := [.int x6_141, .int 1]) (rest := [.int (z_141 0 16), .ref z9]) hx hb hml hown hts hk hP hl.1 s_yX7_of v_yX7_of (c_m_of l D cI cZ cR za z1 z2 z3 z4 z5 z6 z7 z8 z9 z_141 x6_141 1 _ h196) mT_647 rfl rfl ⟨Nat.le_of_ble_eq_true rfl, Nat.le_of_ble_eq_true rfl⟩ (ci := 7) (q0 := 0) rfl rfl rfl (Nat.le_of_ble_eq_true rfl) ⟨Nat.zero_le _, Nat.zero_le _⟩ dX7_works_196 ?_
                              obtain ⟨b199, hf⟩ := gd_some hf
                              refine va_iast (n := 10) (f := z_141 9) hx hb hK hP hD hS 9 0 rfl rfl (ck_in b199) dX7_works_199 (fun H locs hP hD hS => ?_)
                              have hP : va_P D vwCl ([(za, .inr (7, [.ref z1, .ref z2, .int (z_141 0 2), .ref z3, .ref z4, .int (z_141 0 5), .ref z5, .int (z_141 0 7), .ref z6, .ref z7, .ref z8, .int (z_141 0 11), .int (z_141 0 12), .int (z_141 0 13), .int (z_141 0 14), .ref z9, .int (z_141 0 16)])), (z1, .inl (cI, 367, .inl (z_141 1))), (z2, .inl (cI, 5872, .inl (z_141 2))), (z3, .inl (cI, 736, .inl (z_141 3))), (z4, .inl (cZ, 2, .inl (z_141 4))), (z5, .inl (cI, 60, .inl (z_141 5))), (z6, .inl (cI, 20, .inl (z_141 6))), (z7, .inl (cI, 20, .inl (z_141 7))), (z8, .inl (cI, 20, .inl (z_141 8))), (z9, .inl (cI, 10, .inl (upd (z_141 9) (Int32.toNatClampNeg (z_141 0 16)) q196)))]) H := hP
                              have hD : va_D A ([(za, .inr (7, [.ref z1, .ref z2, .int (z_141 0 2), .ref z3, .ref z4, .int (z_141 0 5), .ref z5, .int (z_141 0 7), .ref z6, .ref z7, .ref z8, .int (z_141 0 11), .int (z_141 0 12), .int (z_141 0 13), .int (z_141 0 14), .ref z9, .int (z_141 0 16)])), (z1, .inl (cI, 367, .inl (z_141 1))), (z2, .inl (cI, 5872, .inl (z_141 2))), (z3, .inl (cI, 736, .inl (z_141 3))), (z4, .inl (cZ, 2, .inl (z_141 4))), (z5, .inl (cI, 60, .inl (z_141 5))), (z6, .inl (cI, 20, .inl (z_141 6))), (z7, .inl (cI, 20, .inl (z_141 7))), (z8, .inl (cI, 20, .inl (z_141 8))), (z9, .inl (cI, 10, .inl (upd (z_141 9) (Int32.toNatClampNeg (z_141 0 16)) q196)))]) := hD
                              refine lv_aload_n hx hb dX7_works_200 rfl (lv_at hl 0 rfl) ?_
                              refine lv_dup hx hb dX7_works_201 rfl ?_
                              refine va_get (D := D) (ci := 7) (v := .int (z_141 0 16)) (C := RX7) (T := TX7) (N := 17) hx hb hts inT7 hown hK hP 0 rfl rfl 16 (by decide) (hts _ mT_582) (fun _ h9 => h9) rfl dX7_works_202 ?_
                              refine lv_iconst (v := 1) hx hb dX7_works_205 (by decide) ?_
                              refine lv_iadd hx hb dX7_works_206 ?_
                              refine va_put (D := D) (ci := 7) (v := .int ((z_141 0 16) + 1)) (ty := .int) (C := RX7) (T := TX7) (N := 17) hx hb hts inT7 tyX7 tyX7_ok nmX7 hown hK hP hD hS 0 rfl rfl 16 (by decide) (hts _ mT_582) (fun _ h9 => h9) rfl (by decide +kernel) rfl rfl (Nat.le_of_ble_eq_true rfl) dX7_works_207 (fun H locs hP hD hS => ?_)
                              have hP : va_P D vwCl ([(za, .inr (7, [.ref z1, .ref z2, .int (z_141 0 2), .ref z3, .ref z4, .int (z_141 0 5), .ref z5, .int (z_141 0 7), .ref z6, .ref z7, .ref z8, .int (z_141 0 11), .int (z_141 0 12), .int (z_141 0 13), .int (z_141 0 14), .ref z9, .int ((z_141 0 16) + 1)])), (z1, .inl (cI, 367, .inl (z_141 1))), (z2, .inl (cI, 5872, .inl (z_141 2))), (z3, .inl (cI, 736, .inl (z_141 3))), (z4, .inl (cZ, 2, .inl (z_141 4))), (z5, .inl (cI, 60, .inl (z_141 5))), (z6, .inl (cI, 20, .inl (z_141 6))), (z7, .inl (cI, 20, .inl (z_141 7))), (z8, .inl (cI, 20, .inl (z_141 8))), (z9, .inl (cI, 10, .inl (upd (z_141 9) (Int32.toNatClampNeg (z_141 0 16)) q196)))]) H := hP
                              have hD : va_D A ([(za, .inr (7, [.ref z1, .ref z2, .int (z_141 0 2), .ref z3, .ref z4, .int (z_141 0 5), .ref z5, .int (z_141 0 7), .ref z6, .ref z7, .ref z8, .int (z_141 0 11), .int (z_141 0 12), .int (z_141 0 13), .int (z_141 0 14), .ref z9, .int ((z_141 0 16) + 1)])), (z1, .inl (cI, 367, .inl (z_141 1))), (z2, .inl (cI, 5872, .inl (z_141 2))), (z3, .inl (cI, 736, .inl (z_141 3))), (z4, .inl (cZ, 2, .inl (z_141 4))), (z5, .inl (cI, 60, .inl (z_141 5))), (z6, .inl (cI, 20, .inl (z_141 6))), (z7, .inl (cI, 20, .inl (z_141 7))), (z8, .inl (cI, 20, .inl (z_141 8))), (z9, .inl (cI, 10, .inl (upd (z_141 9) (Int32.toNatClampNeg (z_141 0 16)) q196)))]) := hD
                              refine lv_iinc (v := x6_141 + 1) (lv' := [(6, .int (x6_141 + 1)), (0, .ref za), (1, .ref z7), (2, .int x), (3, .int y), (4, .int (x4_61 + 1)), (5, .int q78.1)]) hx hb dX7_works_210 hl (k := 6) rfl rfl (by decide) rfl (fun ls hl => ?_)
                              refine lv_goto (tgt := 141) hx hb dX7_works_213 (by decide) ?_
                              exact ih141 (x6_141 + 1) (sI (sA z_141 9 (upd (z_141 9) (Int32.toNatClampNeg (z_141 0 16)) q196)) 16 ((z_141 0 16) + 1)) _ _ _ hf hP hD hS (lv_sub hl [1, 2, 3, 4, 5, 6, 0] rfl)
                  exact lh141 10000 0 (sA (sA q91 7 (upd (q91 7) (Int32.toNatClampNeg q78.1) (q91 0 13))) 7 (upd (upd (q91 7) (Int32.toNatClampNeg q78.1) (q91 0 13)) (Int32.toNatClampNeg (10 + q78.1)) (q91 0 14))) _ _ _ hf hP hD hS (lv_sub hl [3, 4, 5, 6, 1, 2, 0] rfl)
      exact lh61 10000 0 z_34 _ _ _ hf hP hD hS (lv_sub hl [1, 2, 3, 4, 0] rfl)
    have lh34 : ∀ (fu34 : Nat) (x4_34 : Int32) (z_34 : Ob) (H : Heap) (locs : List Loc) (ls : Array Slot), lp_m_works_34 (k_m_works_34 7 x y) fu34 x4_34 z_34 = some (r, u) → va_P D vwCl (cModel cI cZ za z1 z2 z3 z4 z5 z6 z7 z8 z9 z_34) H → va_D A (cModel cI cZ za z1 z2 z3 z4 z5 z6 z7 z8 z9 z_34) → va_S A s.heap H locs → lv_has ls 7 [(0, .ref za), (1, .ref z7), (2, .int x), (3, .int y), (4, .int x4_34)] → W p l e ({ frames := 4, cells := 0, slots := 0, locals := 92 } : Room) s m ([.ref za, .ref z7, .int x, .int y] : List Value).toArray below meth c H locs 0 0 Q (F0 m 34 ls []) := by
      intro fu34
      induction fu34 with
      | zero => intro x4_34 z_34 H locs ls hf hP hD hS hl; exact no_none hf
      | succ fu34 ih34 =>
        intro x4_34 z_34 H locs ls hf hP hD hS hl
        rw [lp_m_works_34] at hf
        refine lv_iload hx hb dX7_works_34 (lv_at hl 4 rfl) ?_
        refine lv_aload_n hx hb dX7_works_36 rfl (lv_at hl 0 rfl) ?_
        refine va_get (D := D) (ci := 7) (v := .int (z_34 0 16)) (C := RX7) (T := TX7) (N := 17) hx hb hts inT7 hown hK hP 0 rfl rfl 16 (by decide) (hts _ mT_582) (fun _ h9 => h9) rfl dX7_works_37 ?_
        refine lv_icmp_ge (tgt := 58) hx hb dX7_works_40 (by decide) (fun c40 => ?_) (fun c40 => ?_)
        · have hf := ite_t c40 hf
          exact kx34 x4_34 z_34 _ _ _ hf hP hD hS (lv_sub hl [0, 1, 2, 3, 4] rfl)
        · have hf := ite_f c40 hf
          refine lv_aload_n hx hb dX7_works_43 rfl (lv_at hl 0 rfl) ?_
          refine va_get (D := D) (ci := 7) (v := .ref z9) (C := RX7) (T := TX7) (N := 17) hx hb hts inT7 hown hK hP 0 rfl rfl 15 (by decide) (hts _ mT_581) (fun _ h9 => h9) rfl dX7_works_44 ?_
          refine lv_iload hx hb dX7_works_47 (lv_at hl 4 rfl) ?_
          refine lv_iload hx hb dX7_works_49 (lv_at hl 4 rfl) ?_
          obtain ⟨b51, hf⟩ := gd_some hf
          refine va_iast (n := 10) (f := z_34 9) hx hb hK hP hD hS 9 0 rfl rfl (ck_in b51) dX7_works_51 (fun H locs hP hD hS => ?_)
          have hP : va_P D vwCl ([(za, .inr (7, [.ref z1, .ref z2, .int (z_34 0 2), .ref z3, .ref z4, .int (z_34 0 5), .ref z5, .int (z_34 0 7), .ref z6, .ref z7, .ref z8, .int (z_34 0 11), .int (z_34 0 12), .int (z_34 0 13), .int (z_34 0 14), .ref z9, .int (z_34 0 16)])), (z1, .inl (cI, 367, .inl (z_34 1))), (z2, .inl (cI, 5872, .inl (z_34 2))), (z3, .inl (cI, 736, .inl (z_34 3))), (z4, .inl (cZ, 2, .inl (z_34 4))), (z5, .inl (cI, 60, .inl (z_34 5))), (z6, .inl (cI, 20, .inl (z_34 6))), (z7, .inl (cI, 20, .inl (z_34 7))), (z8, .inl (cI, 20, .inl (z_34 8))), (z9, .inl (cI, 10, .inl (upd (z_34 9) (Int32.toNatClampNeg x4_34) x4_34)))]) H := hP
          have hD : va_D A ([(za, .inr (7, [.ref z1, .ref z2, .int (z_34 0 2), .ref z3, .ref z4, .int (z_34 0 5), .ref z5, .int (z_34 0 7), .ref z6, .ref z7, .ref z8, .int (z_34 0 11), .int (z_34 0 12), .int (z_34 0 13), .int (z_34 0 14), .ref z9, .int (z_34 0 16)])), (z1, .inl (cI, 367, .inl (z_34 1))), (z2, .inl (cI, 5872, .inl (z_34 2))), (z3, .inl (cI, 736, .inl (z_34 3))), (z4, .inl (cZ, 2, .inl (z_34 4))), (z5, .inl (cI, 60, .inl (z_34 5))), (z6, .inl (cI, 20, .inl (z_34 6))), (z7, .inl (cI, 20, .inl (z_34 7))), (z8, .inl (cI, 20, .inl (z_34 8))), (z9, .inl (cI, 10, .inl (upd (z_34 9) (Int32.toNatClampNeg x4_34) x4_34)))]) := hD
          refine lv_iinc (v := x4_34 + 1) (lv' := [(4, .int (x4_34 + 1)), (0, .ref za), (1, .ref z7), (2, .int x), (3, .int y)]) hx hb dX7_works_52 hl (k := 4) rfl rfl (by decide) rfl (fun ls hl => ?_)
          refine lv_goto (tgt := 34) hx hb dX7_works_55 (by decide) ?_
          exact ih34 (x4_34 + 1) (sA z_34 9 (upd (z_34 9) (Int32.toNatClampNeg x4_34) x4_34)) _ _ _ hf hP hD hS (lv_sub hl [1, 2, 3, 4, 0] rfl)
    exact lh34 10000 0 (sI z_3 16 ((z_3 1) (Int32.toNatClampNeg 1))) _ _ _ hf hP hD hS (lv_sub hl [1, 2, 3, 4, 0] rfl)
  have lh3 : ∀ (fu3 : Nat) (x4_3 : Int32) (z_3 : Ob) (H : Heap) (locs : List Loc) (ls : Array Slot), lp_m_works_3 7 (k_m_works_3 7 x y) fu3 x4_3 z_3 = some (r, u) → va_P D vwCl (cModel cI cZ za z1 z2 z3 z4 z5 z6 z7 z8 z9 z_3) H → va_D A (cModel cI cZ za z1 z2 z3 z4 z5 z6 z7 z8 z9 z_3) → va_S A s.heap H locs → lv_has ls 7 [(0, .ref za), (1, .ref z7), (2, .int x), (3, .int y), (4, .int x4_3)] → W p l e ({ frames := 4, cells := 0, slots := 0, locals := 92 } : Room) s m ([.ref za, .ref z7, .int x, .int y] : List Value).toArray below meth c H locs 0 0 Q (F0 m 3 ls []) := by
    intro fu3
    induction fu3 with
    | zero => intro x4_3 z_3 H locs ls hf hP hD hS hl; exact no_none hf
    | succ fu3 ih3 =>
      intro x4_3 z_3 H locs ls hf hP hD hS hl
      rw [lp_m_works_3] at hf
      refine lv_iload hx hb dX7_works_3 (lv_at hl 4 rfl) ?_
      refine lv_bipush (v := 20) hx hb dX7_works_5 (by decide) ?_
      refine lv_icmp_ge (tgt := 21) hx hb dX7_works_7 (by decide) (fun c7 => ?_) (fun c7 => ?_)
      · have hf := ite_t c7 hf
        exact kx3 x4_3 z_3 _ _ _ hf hP hD hS (lv_sub hl [0, 1, 2, 3, 4] rfl)
      · have hf := ite_f c7 hf
        refine lv_aload_n hx hb dX7_works_10 rfl (lv_at hl 1 rfl) ?_
        refine lv_iload hx hb dX7_works_11 (lv_at hl 4 rfl) ?_
        refine lv_iconst (v := 0) hx hb dX7_works_13 (by decide) ?_
        obtain ⟨b14, hf⟩ := gd_some hf
        refine va_iast (n := 20) (f := z_3 7) hx hb hK hP hD hS 7 0 rfl rfl (ck_in b14) dX7_works_14 (fun H locs hP hD hS => ?_)
        have hP : va_P D vwCl ([(za, .inr (7, [.ref z1, .ref z2, .int (z_3 0 2), .ref z3, .ref z4, .int (z_3 0 5), .ref z5, .int (z_3 0 7), .ref z6, .ref z7, .ref z8, .int (z_3 0 11), .int (z_3 0 12), .int (z_3 0 13), .int (z_3 0 14), .ref z9, .int (z_3 0 16)])), (z1, .inl (cI, 367, .inl (z_3 1))), (z2, .inl (cI, 5872, .inl (z_3 2))), (z3, .inl (cI, 736, .inl (z_3 3))), (z4, .inl (cZ, 2, .inl (z_3 4))), (z5, .inl (cI, 60, .inl (z_3 5))), (z6, .inl (cI, 20, .inl (z_3 6))), (z7, .inl (cI, 20, .inl (upd (z_3 7) (Int32.toNatClampNeg x4_3) 0))), (z8, .inl (cI, 20, .inl (z_3 8))), (z9, .inl (cI, 10, .inl (z_3 9)))]) H := hP
        have hD : va_D A ([(za, .inr (7, [.ref z1, .ref z2, .int (z_3 0 2), .ref z3, .ref z4, .int (z_3 0 5), .ref z5, .int (z_3 0 7), .ref z6, .ref z7, .ref z8, .int (z_3 0 11), .int (z_3 0 12), .int (z_3 0 13), .int (z_3 0 14), .ref z9, .int (z_3 0 16)])), (z1, .inl (cI, 367, .inl (z_3 1))), (z2, .inl (cI, 5872, .inl (z_3 2))), (z3, .inl (cI, 736, .inl (z_3 3))), (z4, .inl (cZ, 2, .inl (z_3 4))), (z5, .inl (cI, 60, .inl (z_3 5))), (z6, .inl (cI, 20, .inl (z_3 6))), (z7, .inl (cI, 20, .inl (upd (z_3 7) (Int32.toNatClampNeg x4_3) 0))), (z8, .inl (cI, 20, .inl (z_3 8))), (z9, .inl (cI, 10, .inl (z_3 9)))]) := hD
        refine lv_iinc (v := x4_3 + 1) (lv' := [(4, .int (x4_3 + 1)), (0, .ref za), (1, .ref z7), (2, .int x), (3, .int y)]) hx hb dX7_works_15 hl (k := 4) rfl rfl (by decide) rfl (fun ls hl => ?_)
        refine lv_goto (tgt := 3) hx hb dX7_works_18 (by decide) ?_
        exact ih3 (x4_3 + 1) (sA z_3 7 (upd (z_3 7) (Int32.toNatClampNeg x4_3) 0)) _ _ _ hf hP hD hS (lv_sub hl [1, 2, 3, 4, 0] rfl)
  exact lh3 10000 0 z _ _ _ hf hP hD hS (lv_sub hl [1, 2, 3, 4, 0] rfl)
theorem s_yX7_without : kMS yX7_without cX7_without 6 (some .int) 1 := ⟨mT_710, mT_59, by decide +kernel⟩
theorem v_yX7_without : kMV yX7_without := ⟨mT_709, mT_39⟩
def k_m_without_28 (z : Ob) (q7 : (Int32 × Ob)) (q18 : (Int32 × Ob)) (x4_28 : Int32) (x5_28 : Int32) : Option (Int32 × Ob) := if q7.1 < 0 then (some ((-1), z)) else (if 0 ≤ q18.1 then (some (x4_28, z)) else (some ((-1), z)))
def lp_m_without_28 (z : Ob) (kk0 : Int32 → Int32 → Option (Int32 × Ob)) : Nat → Int32 → Int32 → Option (Int32 × Ob)
  | 0, _, _ => none
  | fu28 + 1, x4_28, x5_28 => if ((z 1) (Int32.toNatClampNeg 1)) ≤ x5_28 then (kk0 x4_28 x5_28) else (gd (ck x5_28 20) (gd (ck x5_28 20) (if ((z 6) (Int32.toNatClampNeg x5_28)) = ((z 7) (Int32.toNatClampNeg x5_28)) then (gd (ck (10 + x5_28) 20) (gd (ck (10 + x5_28) 20) (if ((z 6) (Int32.toNatClampNeg (10 + x5_28))) = ((z 7) (Int32.toNatClampNeg (10 + x5_28))) then ((lp_m_without_28 z kk0 fu28) (x4_28 + 0) (x5_28 + 1)) else ((lp_m_without_28 z kk0 fu28) (x4_28 + 1) (x5_28 + 1))))) else ((lp_m_without_28 z kk0 fu28) (x4_28 + 1) (x5_28 + 1)))))
def f_m_without (z : Ob) (x : Int32) : Option (Int32 × Ob) := bd (f_m_works 6 z 0 (-1)) (fun q7 => bd (f_m_works 7 q7.2 0 x) (fun q18 => lp_m_without_28 q18.2 (k_m_without_28 q18.2 q7 q18) 10000 0 0))
set_option maxHeartbeats 4000000 in
set_option maxRecDepth 100000 in
theorem c_m_without (l : Launch) (D : va_G) (cI cZ cR : ClassId) (za z1 z2 z3 z4 z5 z6 z7 z8 z9 : Nat) (z : Ob) (x : Int32) (sz : Nat) (r : Int32) (u : Ob) (hf : f_m_without z x = some (r, u)) : kCi l yX7_without cX7_without 6 (some .int) { frames := 5, cells := 0, slots := 0, locals := 118 } [.ref za, .int x] D cI cZ cR (cModel cI cZ za z1 z2 z3 z4 z5 z6 z7 z8 z9 z) sz (cModel cI cZ za z1 z2 z3 z4 z5 z6 z7 z8 z9 u) r := by
  refine kMwi (wf := (fun u : Ob => cModel cI cZ za z1 z2 z3 z4 z5 z6 z7 z8 z9 u)) (u := u) (by decide) (Nat.le_of_ble_eq_true rfl) ?_
  intro p e s m below meth c Q A hx hb hml hown hts hk hP hD hA hS hret ls hl
  have hS0 := hS
  have hK := hk.1
  have hl : lv_has ls 6 [(0, .ref za), (1, .int x)] := hl
  rw [f_m_without] at hf
  refine lv_aload_n hx hb dX7_without_0 rfl (lv_at hl 0 rfl) ?_
  refine lv_aload_n hx hb dX7_without_1 rfl (lv_at hl 0 rfl) ?_
  refine va_get (D := D) (ci := 7) (v := .ref z6) (C := RX7) (T := TX7) (N := 17) hx hb hts inT7 hown hK hP 0 rfl rfl 8 (by decide) (hts _ mT_574) (fun _ h9 => h9) rfl dX7_without_2 ?_
  refine lv_iconst (v := 0) hx hb dX7_without_5 (by decide) ?_
  refine lv_iconst (v := (-1)) hx hb dX7_without_6 (by decide) ?_
  obtain ⟨q7, h7, hf⟩ := bd_some hf
  refine kx_wi (As := [.ref z6, .int 0, .int (-1)]) (rest := []) (wc := cModel cI cZ za z1 z2 z3 z4 z5 z6 z7 z8 z9 z) (wr := []) (wd := cModel cI cZ za z1 z2 z3 z4 z5 z6 z7 z8 z9 q7.2) (wn := cModel cI cZ za z1 z2 z3 z4 z5 z6 z7 z8 z9 q7.2) hx hb hml hown hts hk hP hD hS hA hl.1 s_yX7_works v_yX7_works (c_m_works6 l D cI cZ cR za z1 z2 z3 z4 z5 z6 z7 z8 z9 z 0 (-1) s.heap.size _ _ h7) mT_691 rfl rfl ⟨Nat.le_of_ble_eq_true rfl, Nat.le_of_ble_eq_true rfl⟩ [0, 1, 2, 3, 4, 5, 6, 7, 8, 9] [] [0, 1, 2, 3, 4, 5, 6, 7, 8, 9] rfl rfl (by decide) (by decide) (by decide) (by decide) rfl (ci := 7) (q0 := 0) rfl rfl rfl (Nat.le_of_ble_eq_true rfl) ⟨Nat.zero_le _, Nat.zero_le _⟩ dX7_without_7 (fun H locs hP hD hS => ?_)
  refine lv_istore_n (lv' := [(2, .int q7.1), (0, .ref za), (1, .int x)]) hx hb dX7_without_10 rfl hl (by decide) rfl (fun ls hl => ?_)
  refine lv_aload_n hx hb dX7_without_11 rfl (lv_at hl 1 rfl) ?_
  refine lv_aload_n hx hb dX7_without_12 rfl (lv_at hl 1 rfl) ?_
  refine va_get (D := D) (ci := 7) (v := .ref z7) (C := RX7) (T := TX7) (N := 17) hx hb hts inT7 hown hK hP 0 rfl rfl 9 (by decide) (hts _ mT_575) (fun _ h9 => h9) rfl dX7_without_13 ?_
  refine lv_iconst (v := 0) hx hb dX7_without_16 (by decide) ?_
  refine lv_iload_n hx hb dX7_without_17 rfl (lv_at hl 2 rfl) ?_
  obtain ⟨q18, h18, hf⟩ := bd_some hf
  refine kx_wi (As := [.ref z7, .int 0, .int x]) (rest := []) (wc := cModel cI cZ za z1 z2 z3 z4 z5 z6 z7 z8 z9 q7.2) (wr := []) (wd := cModel cI cZ za z1 z2 z3 z4 z5 z6 z7 z8 z9 q18.2) (wn := cModel cI cZ za z1 z2 z3 z4 z5 z6 z7 z8 z9 q18.2) hx hb hml hown hts hk hP hD hS hA hl.1 s_yX7_works v_yX7_works (c_m_works7 l D cI cZ cR za z1 z2 z3 z4 z5 z6 z7 z8 z9 q7.2 0 x H.size _ _ h18) mT_691 rfl rfl ⟨Nat.le_of_ble_eq_true rfl, Nat.le_of_ble_eq_true rfl⟩ [0, 1, 2, 3, 4, 5, 6, 7, 8, 9] [] [0, 1, 2, 3, 4, 5, 6, 7, 8, 9] rfl rfl (by decide) (by decide) (by decide) (by decide) rfl (ci := 7) (q0 := 0) rfl rfl rfl (Nat.le_of_ble_eq_true rfl) ⟨Nat.zero_le _, Nat.zero_le _⟩ dX7_without_18 (fun H locs hP hD hS => ?_)
  refine lv_istore_n (lv' := [(3, .int q18.1), (2, .int q7.1), (0, .ref za), (1, .int x)]) hx hb dX7_without_21 rfl hl (by decide) rfl (fun ls hl => ?_)
  refine lv_iconst (v := 0) hx hb dX7_without_22 (by decide) ?_
  refine lv_istore (lv' := [(4, .int 0), (3, .int q18.1), (2, .int q7.1), (0, .ref za), (1, .int x)]) hx hb dX7_without_23 hl (by decide) rfl (fun ls hl => ?_)
  refine lv_iconst (v := 0) hx hb dX7_without_25 (by decide) ?_
  refine lv_istore (lv' := [(5, .int 0), (4, .int 0), (3, .int q18.1), (2, .int q7.1), (0, .ref za), (1, .int x)]) hx hb dX7_without_26 hl (by decide) rfl (fun ls hl => ?_)
  have kx28 : ∀ (x4_28 : Int32) (x5_28 : Int32) (H : Heap) (locs : List Loc) (ls : Array Slot), (k_m_without_28 q18.2 q7 q18) x4_28 x5_28 = some (r, u) → va_P D vwCl (cModel cI cZ za z1 z2 z3 z4 z5 z6 z7 z8 z9 q18.2) H → va_D A (cModel cI cZ za z1 z2 z3 z4 z5 z6 z7 z8 z9 q18.2) → va_S A s.heap H locs → lv_has ls 6 [(0, .ref za), (1, .int x), (2, .int q7.1), (3, .int q18.1), (4, .int x4_28), (5, .int x5_28)] → W p l e ({ frames := 5, cells := 0, slots := 0, locals := 118 } : Room) s m ([.ref za, .int x] : List Value).toArray below meth c H locs 0 0 Q (F0 m 95 ls []) := by
    intro x4_28 x5_28 H locs ls hf hP hD hS hl
    rw [k_m_without_28] at hf
    refine lv_iload_n hx hb dX7_without_95 rfl (lv_at hl 2 rfl) ?_
    refine lv_if_lt (tgt := 103) hx hb dX7_without_96 (by decide) (fun c96 => ?_) (fun c96 => ?_)
    · have hf := ite_t c96 hf
      refine lv_iconst (v := (-1)) hx hb dX7_without_103 (by decide) ?_
      refine lv_goto (tgt := 109) hx hb dX7_without_104 (by decide) ?_
      exact hret _ _ _ q18.2 _ _ hf dX7_without_109 hP hD hS
    · have hf := ite_f c96 hf
      refine lv_iload_n hx hb dX7_without_99 rfl (lv_at hl 3 rfl) ?_
      refine lv_if_ge (tgt := 107) hx hb dX7_without_100 (by decide) (fun c100 => ?_) (fun c100 => ?_)
      · have hf := ite_t c100 hf
        refine lv_iload hx hb dX7_without_107 (lv_at hl 4 rfl) ?_
        exact hret _ _ _ q18.2 _ _ hf dX7_without_109 hP hD hS
      · have hf := ite_f c100 hf
        refine lv_iconst (v := (-1)) hx hb dX7_without_103 (by decide) ?_
        refine lv_goto (tgt := 109) hx hb dX7_without_104 (by decide) ?_
        exact hret _ _ _ q18.2 _ _ hf dX7_without_109 hP hD hS
  have lh28 : ∀ (fu28 : Nat) (x4_28 : Int32) (x5_28 : Int32) (H : Heap) (locs : List Loc) (ls : Array Slot), lp_m_without_28 q18.2 (k_m_without_28 q18.2 q7 q18) fu28 x4_28 x5_28 = some (r, u) → va_P D vwCl (cModel cI cZ za z1 z2 z3 z4 z5 z6 z7 z8 z9 q18.2) H → va_D A (cModel cI cZ za z1 z2 z3 z4 z5 z6 z7 z8 z9 q18.2) → va_S A s.heap H locs → lv_has ls 6 [(0, .ref za), (1, .int x), (2, .int q7.1), (3, .int q18.1), (4, .int x4_28), (5, .int x5_28)] → W p l e ({ frames := 5, cells := 0, slots := 0, locals := 118 } : Room) s m ([.ref za, .int x] : List Value).toArray below meth c H locs 0 0 Q (F0 m 28 ls []) := by
    intro fu28
    induction fu28 with
    | zero => intro x4_28 x5_28 H locs ls hf hP hD hS hl; exact no_none hf
    | succ fu28 ih28 =>
      intro x4_28 x5_28 H locs ls hf hP hD hS hl
      rw [lp_m_without_28] at hf
      refine lv_iload hx hb dX7_without_28 (lv_at hl 5 rfl) ?_
      refine lv_aload_n hx hb dX7_without_30 rfl (lv_at hl 0 rfl) ?_
      refine va_get (D := D) (ci := 7) (v := .ref z1) (C := RX7) (T := TX7) (N := 17) hx hb hts inT7 hown hK hP 0 rfl rfl 0 (by decide) (hts _ mT_566) (fun _ h9 => h9) rfl dX7_without_31 ?_
      refine lv_iconst (v := 1) hx hb dX7_without_34 (by decide) ?_
      refine va_iald (n := 367) (f := q18.2 1) hx hb hK hP 1 0 rfl rfl (ck_in (by decide)) dX7_without_35 ?_
      refine lv_icmp_ge (tgt := 95) hx hb dX7_without_36 (by decide) (fun c36 => ?_) (fun c36 => ?_)
      · have hf := ite_t c36 hf
        exact kx28 x4_28 x5_28 _ _ _ hf hP hD hS (lv_sub hl [0, 1, 2, 3, 4, 5] rfl)
      · have hf := ite_f c36 hf
        refine lv_iload hx hb dX7_without_39 (lv_at hl 4 rfl) ?_
        refine lv_aload_n hx hb dX7_without_41 rfl (lv_at hl 0 rfl) ?_
        refine va_get (D := D) (ci := 7) (v := .ref z6) (C := RX7) (T := TX7) (N := 17) hx hb hts inT7 hown hK hP 0 rfl rfl 8 (by decide) (hts _ mT_574) (fun _ h9 => h9) rfl dX7_without_42 ?_
        refine lv_iload hx hb dX7_without_45 (lv_at hl 5 rfl) ?_
        obtain ⟨b47, hf⟩ := gd_some hf
        refine va_iald (n := 20) (f := q18.2 6) hx hb hK hP 6 0 rfl rfl (ck_in b47) dX7_without_47 ?_
        refine lv_aload_n hx hb dX7_without_48 rfl (lv_at hl 0 rfl) ?_
        refine va_get (D := D) (ci := 7) (v := .ref z7) (C := RX7) (T := TX7) (N := 17) hx hb hts inT7 hown hK hP 0 rfl rfl 9 (by decide) (hts _ mT_575) (fun _ h9 => h9) rfl dX7_without_49 ?_
        refine lv_iload hx hb dX7_without_52 (lv_at hl 5 rfl) ?_
        obtain ⟨b54, hf⟩ := gd_some hf
        refine va_iald (n := 20) (f := q18.2 7) hx hb hK hP 7 0 rfl rfl (ck_in b54) dX7_without_54 ?_
        refine lv_icmp_ne (tgt := 81) hx hb dX7_without_55 (by decide) (fun c55 => ?_) (fun c55 => ?_)
        · have hf := ite_f c55 hf
          refine lv_iconst (v := 1) hx hb dX7_without_81 (by decide) ?_
          refine lv_goto (tgt := 86) hx hb dX7_without_82 (by decide) ?_
          refine lv_iadd hx hb dX7_without_86 ?_
          refine lv_istore (lv' := [(4, .int (x4_28 + 1)), (0, .ref za), (1, .int x), (2, .int q7.1), (3, .int q18.1), (5, .int x5_28)]) hx hb dX7_without_87 hl (by decide) rfl (fun ls hl => ?_)
          refine lv_iinc (v := x5_28 + 1) (lv' := [(5, .int (x5_28 + 1)), (4, .int (x4_28 + 1)), (0, .ref za), (1, .int x), (2, .int q7.1), (3, .int q18.1)]) hx hb dX7_without_89 hl (k := 5) rfl rfl (by decide) rfl (fun ls hl => ?_)
          refine lv_goto (tgt := 28) hx hb dX7_without_92 (by decide) ?_
          exact ih28 (x4_28 + 1) (x5_28 + 1) _ _ _ hf hP hD hS (lv_sub hl [2, 3, 4, 5, 1, 0] rfl)
        · have hf := ite_t c55 hf
          refine lv_aload_n hx hb dX7_without_58 rfl (lv_at hl 0 rfl) ?_
          refine va_get (D := D) (ci := 7) (v := .ref z6) (C := RX7) (T := TX7) (N := 17) hx hb hts inT7 hown hK hP 0 rfl rfl 8 (by decide) (hts _ mT_574) (fun _ h9 => h9) rfl dX7_without_59 ?_
          refine lv_bipush (v := 10) hx hb dX7_without_62 (by decide) ?_
          refine lv_iload hx hb dX7_without_64 (lv_at hl 5 rfl) ?_
          refine lv_iadd hx hb dX7_without_66 ?_
          obtain ⟨b67, hf⟩ := gd_some hf
          refine va_iald (n := 20) (f := q18.2 6) hx hb hK hP 6 0 rfl rfl (ck_in b67) dX7_without_67 ?_
          refine lv_aload_n hx hb dX7_without_68 rfl (lv_at hl 0 rfl) ?_
          refine va_get (D := D) (ci := 7) (v := .ref z7) (C := RX7) (T := TX7) (N := 17) hx hb hts inT7 hown hK hP 0 rfl rfl 9 (by decide) (hts _ mT_575) (fun _ h9 => h9) rfl dX7_without_69 ?_
          refine lv_bipush (v := 10) hx hb dX7_without_72 (by decide) ?_
          refine lv_iload hx hb dX7_without_74 (lv_at hl 5 rfl) ?_
          refine lv_iadd hx hb dX7_without_76 ?_
          obtain ⟨b77, hf⟩ := gd_some hf
          refine va_iald (n := 20) (f := q18.2 7) hx hb hK hP 7 0 rfl rfl (ck_in b77) dX7_without_77 ?_
          refine lv_icmp_eq (tgt := 85) hx hb dX7_without_78 (by decide) (fun c78 => ?_) (fun c78 => ?_)
          · have hf := ite_t c78 hf
            refine lv_iconst (v := 0) hx hb dX7_without_85 (by decide) ?_
            refine lv_iadd hx hb dX7_without_86 ?_
            refine lv_istore (lv' := [(4, .int (x4_28 + 0)), (0, .ref za), (1, .int x), (2, .int q7.1), (3, .int q18.1), (5, .int x5_28)]) hx hb dX7_without_87 hl (by decide) rfl (fun ls hl => ?_)
            refine lv_iinc (v := x5_28 + 1) (lv' := [(5, .int (x5_28 + 1)), (4, .int (x4_28 + 0)), (0, .ref za), (1, .int x), (2, .int q7.1), (3, .int q18.1)]) hx hb dX7_without_89 hl (k := 5) rfl rfl (by decide) rfl (fun ls hl => ?_)
            refine lv_goto (tgt := 28) hx hb dX7_without_92 (by decide) ?_
            exact ih28 (x4_28 + 0) (x5_28 + 1) _ _ _ hf hP hD hS (lv_sub hl [2, 3, 4, 5, 1, 0] rfl)
          · have hf := ite_f c78 hf
            refine lv_iconst (v := 1) hx hb dX7_without_81 (by decide) ?_
            refine lv_goto (tgt := 86) hx hb dX7_without_82 (by decide) ?_
            refine lv_iadd hx hb dX7_without_86 ?_
            refine lv_istore (lv' := [(4, .int (x4_28 + 1)), (0, .ref za), (1, .int x), (2, .int q7.1), (3, .int q18.1), (5, .int x5_28)]) hx hb dX7_without_87 hl (by decide) rfl (fun ls hl => ?_)
            refine lv_iinc (v := x5_28 + 1) (lv' := [(5, .int (x5_28 + 1)), (4, .int (x4_28 + 1)), (0, .ref za), (1, .int x), (2, .int q7.1), (3, .int q18.1)]) hx hb dX7_without_89 hl (k := 5) rfl rfl (by decide) rfl (fun ls hl => ?_)
            refine lv_goto (tgt := 28) hx hb dX7_without_92 (by decide) ?_
            exact ih28 (x4_28 + 1) (x5_28 + 1) _ _ _ hf hP hD hS (lv_sub hl [2, 3, 4, 5, 1, 0] rfl)
  exact lh28 10000 0 0 _ _ _ hf hP hD hS (lv_sub hl [4, 5, 3, 2, 1, 0] rfl)
theorem s_yX7_matters : kMS yX7_matters cX7_matters 3 (some .int) 0 := ⟨mT_706, mT_59, by decide +kernel⟩
theorem v_yX7_matters : kMV yX7_matters := ⟨mT_705, mT_38⟩
def k_m_matters_4 (x1_4 : Int32) (x2_4 : Int32) (z_4 : Ob) : Option (Int32 × Ob) := some (x1_4, z_4)
def lp_m_matters_4 (kk0 : Int32 → Int32 → Ob → Option (Int32 × Ob)) : Nat → Int32 → Int32 → Ob → Option (Int32 × Ob)
  | 0, _, _, _ => none
  | fu4 + 1, x1_4, x2_4, z_4 => if ((z_4 1) (Int32.toNatClampNeg 2)) ≤ x2_4 then (kk0 x1_4 x2_4 z_4) else (bd (f_m_without z_4 x2_4) (fun q17 => if q17.1 ≤ 0 then ((lp_m_matters_4 kk0 fu4) (x1_4 ||| 0) (x2_4 + 1) q17.2) else ((lp_m_matters_4 kk0 fu4) (x1_4 ||| (1 <<< (x2_4 &&& 31))) (x2_4 + 1) q17.2)))
def f_m_matters (z : Ob) : Option (Int32 × Ob) := lp_m_matters_4 k_m_matters_4 10000 0 0 z
set_option maxHeartbeats 4000000 in
set_option maxRecDepth 100000 in
theorem c_m_matters (l : Launch) (D : va_G) (cI cZ cR : ClassId) (za z1 z2 z3 z4 z5 z6 z7 z8 z9 : Nat) (z : Ob) (sz : Nat) (r : Int32) (u : Ob) (hf : f_m_matters z = some (r, u)) : kCi l yX7_matters cX7_matters 3 (some .int) { frames := 6, cells := 0, slots := 0, locals := 143 } [.ref za] D cI cZ cR (cModel cI cZ za z1 z2 z3 z4 z5 z6 z7 z8 z9 z) sz (cModel cI cZ za z1 z2 z3 z4 z5 z6 z7 z8 z9 u) r := by
  refine kMwi (wf := (fun u : Ob => cModel cI cZ za z1 z2 z3 z4 z5 z6 z7 z8 z9 u)) (u := u) (by decide) (Nat.le_of_ble_eq_true rfl) ?_
  intro p e s m below meth c Q A hx hb hml hown hts hk hP hD hA hS hret ls hl
  have hS0 := hS
  have hK := hk.1
  have hl : lv_has ls 3 [(0, .ref za)] := hl
  rw [f_m_matters] at hf
  refine lv_iconst (v := 0) hx hb dX7_matters_0 (by decide) ?_
  refine lv_istore_n (lv' := [(1, .int 0), (0, .ref za)]) hx hb dX7_matters_1 rfl hl (by decide) rfl (fun ls hl => ?_)
  refine lv_iconst (v := 0) hx hb dX7_matters_2 (by decide) ?_
  refine lv_istore_n (lv' := [(2, .int 0), (1, .int 0), (0, .ref za)]) hx hb dX7_matters_3 rfl hl (by decide) rfl (fun ls hl => ?_)
  have kx4 : ∀ (x1_4 : Int32) (x2_4 : Int32) (z_4 : Ob) (H : Heap) (locs : List Loc) (ls : Array Slot), k_m_matters_4 x1_4 x2_4 z_4 = some (r, u) → va_P D vwCl (cModel cI cZ za z1 z2 z3 z4 z5 z6 z7 z8 z9 z_4) H → va_D A (cModel cI cZ za z1 z2 z3 z4 z5 z6 z7 z8 z9 z_4) → va_S A s.heap H locs → lv_has ls 3 [(0, .ref za), (1, .int x1_4), (2, .int x2_4)] → W p l e ({ frames := 6, cells := 0, slots := 0, locals := 143 } : Room) s m ([.ref za] : List Value).toArray below meth c H locs 0 0 Q (F0 m 38 ls []) := by
    intro x1_4 x2_4 z_4 H locs ls hf hP hD hS hl
    rw [k_m_matters_4] at hf
    refine lv_iload_n hx hb dX7_matters_38 rfl (lv_at hl 1 rfl) ?_
    exact hret _ _ _ z_4 _ _ hf dX7_matters_39 hP hD hS
  have lh4 : ∀ (fu4 : Nat) (x1_4 : Int32) (x2_4 : Int32) (z_4 : Ob) (H : Heap) (locs : List Loc) (ls : Array Slot), lp_m_matters_4 k_m_matters_4 fu4 x1_4 x2_4 z_4 = some (r, u) → va_P D vwCl (cModel cI cZ za z1 z2 z3 z4 z5 z6 z7 z8 z9 z_4) H → va_D A (cModel cI cZ za z1 z2 z3 z4 z5 z6 z7 z8 z9 z_4) → va_S A s.heap H locs → lv_has ls 3 [(0, .ref za), (1, .int x1_4), (2, .int x2_4)] → W p l e ({ frames := 6, cells := 0, slots := 0, locals := 143 } : Room) s m ([.ref za] : List Value).toArray below meth c H locs 0 0 Q (F0 m 4 ls []) := by
    intro fu4
    induction fu4 with
    | zero => intro x1_4 x2_4 z_4 H locs ls hf hP hD hS hl; exact no_none hf
    | succ fu4 ih4 =>
      intro x1_4 x2_4 z_4 H locs ls hf hP hD hS hl
      rw [lp_m_matters_4] at hf
      refine lv_iload_n hx hb dX7_matters_4 rfl (lv_at hl 2 rfl) ?_
      refine lv_aload_n hx hb dX7_matters_5 rfl (lv_at hl 0 rfl) ?_
      refine va_get (D := D) (ci := 7) (v := .ref z1) (C := RX7) (T := TX7) (N := 17) hx hb hts inT7 hown hK hP 0 rfl rfl 0 (by decide) (hts _ mT_566) (fun _ h9 => h9) rfl dX7_matters_6 ?_
      refine lv_iconst (v := 2) hx hb dX7_matters_9 (by decide) ?_
      refine va_iald (n := 367) (f := z_4 1) hx hb hK hP 1 0 rfl rfl (ck_in (by decide)) dX7_matters_10 ?_
      refine lv_icmp_ge (tgt := 38) hx hb dX7_matters_11 (by decide) (fun c11 => ?_) (fun c11 => ?_)
      · have hf := ite_t c11 hf
        exact kx4 x1_4 x2_4 z_4 _ _ _ hf hP hD hS (lv_sub hl [0, 1, 2] rfl)
      · have hf := ite_f c11 hf
        refine lv_iload_n hx hb dX7_matters_14 rfl (lv_at hl 1 rfl) ?_
        refine lv_aload_n hx hb dX7_matters_15 rfl (lv_at hl 0 rfl) ?_
        refine lv_iload_n hx hb dX7_matters_16 rfl (lv_at hl 2 rfl) ?_
        obtain ⟨q17, h17, hf⟩ := bd_some hf
        refine kx_wi (As := [.int x2_4]) (rest := [.int x1_4]) (wc := cModel cI cZ za z1 z2 z3 z4 z5 z6 z7 z8 z9 z_4) (wr := []) (wd := cModel cI cZ za z1 z2 z3 z4 z5 z6 z7 z8 z9 q17.2) (wn := cModel cI cZ za z1 z2 z3 z4 z5 z6 z7 z8 z9 q17.2) hx hb hml hown hts hk hP hD hS hA hl.1 s_yX7_without v_yX7_without (c_m_without l D cI cZ cR za z1 z2 z3 z4 z5 z6 z7 z8 z9 z_4 x2_4 H.size _ _ h17) mT_707 rfl rfl ⟨Nat.le_of_ble_eq_true rfl, Nat.le_of_ble_eq_true rfl⟩ [0, 1, 2, 3, 4, 5, 6, 7, 8, 9] [] [0, 1, 2, 3, 4, 5, 6, 7, 8, 9] rfl rfl (by decide) (by decide) (by decide) (by decide) rfl (ci := 7) (q0 := 0) rfl rfl rfl (Nat.le_of_ble_eq_true rfl) ⟨Nat.zero_le _, Nat.zero_le _⟩ dX7_matters_17 (fun H locs hP hD hS => ?_)
        refine lv_if_le (tgt := 29) hx hb dX7_matters_20 (by decide) (fun c20 => ?_) (fun c20 => ?_)
        · have hf := ite_t c20 hf
          refine lv_iconst (v := 0) hx hb dX7_matters_29 (by decide) ?_
          refine lv_ior hx hb dX7_matters_30 ?_
          refine lv_istore_n (lv' := [(1, .int (x1_4 ||| 0)), (0, .ref za), (2, .int x2_4)]) hx hb dX7_matters_31 rfl hl (by decide) rfl (fun ls hl => ?_)
          refine lv_iinc (v := x2_4 + 1) (lv' := [(2, .int (x2_4 + 1)), (1, .int (x1_4 ||| 0)), (0, .ref za)]) hx hb dX7_matters_32 hl (k := 2) rfl rfl (by decide) rfl (fun ls hl => ?_)
          refine lv_goto (tgt := 4) hx hb dX7_matters_35 (by decide) ?_
          exact ih4 (x1_4 ||| 0) (x2_4 + 1) q17.2 _ _ _ hf hP hD hS (lv_sub hl [2, 1, 0] rfl)
        · have hf := ite_f c20 hf
          refine lv_iconst (v := 1) hx hb dX7_matters_23 (by decide) ?_
          refine lv_iload_n hx hb dX7_matters_24 rfl (lv_at hl 2 rfl) ?_
          refine lv_ishl hx hb dX7_matters_25 ?_
          refine lv_goto (tgt := 30) hx hb dX7_matters_26 (by decide) ?_
          refine lv_ior hx hb dX7_matters_30 ?_
          refine lv_istore_n (lv' := [(1, .int (x1_4 ||| (1 <<< (x2_4 &&& 31)))), (0, .ref za), (2, .int x2_4)]) hx hb dX7_matters_31 rfl hl (by decide) rfl (fun ls hl => ?_)
          refine lv_iinc (v := x2_4 + 1) (lv' := [(2, .int (x2_4 + 1)), (1, .int (x1_4 ||| (1 <<< (x2_4 &&& 31)))), (0, .ref za)]) hx hb dX7_matters_32 hl (k := 2) rfl rfl (by decide) rfl (fun ls hl => ?_)
          refine lv_goto (tgt := 4) hx hb dX7_matters_35 (by decide) ?_
          exact ih4 (x1_4 ||| (1 <<< (x2_4 &&& 31))) (x2_4 + 1) q17.2 _ _ _ hf hP hD hS (lv_sub hl [2, 1, 0] rfl)
  exact lh4 10000 0 0 z _ _ _ hf hP hD hS (lv_sub hl [2, 1, 0] rfl)
theorem s_yX7_rebuilds : kMS yX7_rebuilds cX7_rebuilds 3 none 0 := ⟨mT_670, mT_59, by decide +kernel⟩
theorem v_yX7_rebuilds : kMV yX7_rebuilds := ⟨mT_669, mT_29⟩
def k_m_rebuilds_2 (x1_2 : Int32) (z_2 : Ob) : Option Ob := some z_2
def lp_m_rebuilds_2 (kk0 : Int32 → Ob → Option Ob) : Nat → Int32 → Ob → Option Ob
  | 0, _, _ => none
  | fu2 + 1, x1_2, z_2 => if ((z_2 1) (Int32.toNatClampNeg 1)) ≤ x1_2 then (kk0 x1_2 z_2) else (bd (f_m_isKept z_2 x1_2) (fun q14 => bd (f_m_gathers 8 z_2 x1_2 (-1)) (fun q25 => if q14 = 0 then (gd (ck x1_2 20) (if q14 = 0 then (gd (ck (10 + x1_2) 20) ((lp_m_rebuilds_2 kk0 fu2) (x1_2 + 1) (sA (sA q25 8 (upd (q25 8) (Int32.toNatClampNeg x1_2) (q25 0 13))) 8 (upd (upd (q25 8) (Int32.toNatClampNeg x1_2) (q25 0 13)) (Int32.toNatClampNeg (10 + x1_2)) (q25 0 14))))) else (gd (ck (97 + x1_2) 367) (gd (ck (10 + x1_2) 20) ((lp_m_rebuilds_2 kk0 fu2) (x1_2 + 1) (sA (sA q25 8 (upd (q25 8) (Int32.toNatClampNeg x1_2) (q25 0 13))) 8 (upd (upd (q25 8) (Int32.toNatClampNeg x1_2) (q25 0 13)) (Int32.toNatClampNeg (10 + x1_2)) ((q25 1) (Int32.toNatClampNeg (97 + x1_2)))))))))) else (gd (ck (87 + x1_2) 367) (gd (ck x1_2 20) (if q14 = 0 then (gd (ck (10 + x1_2) 20) ((lp_m_rebuilds_2 kk0 fu2) (x1_2 + 1) (sA (sA q25 8 (upd (q25 8) (Int32.toNatClampNeg x1_2) ((q25 1) (Int32.toNatClampNeg (87 + x1_2))))) 8 (upd (upd (q25 8) (Int32.toNatClampNeg x1_2) ((q25 1) (Int32.toNatClampNeg (87 + x1_2)))) (Int32.toNatClampNeg (10 + x1_2)) (q25 0 14))))) else (gd (ck (97 + x1_2) 367) (gd (ck (10 + x1_2) 20) ((lp_m_rebuilds_2 kk0 fu2) (x1_2 + 1) (sA (sA q25 8 (upd (q25 8) (Int32.toNatClampNeg x1_2) ((q25 1) (Int32.toNatClampNeg (87 + x1_2))))) 8 (upd (upd (q25 8) (Int32.toNatClampNeg x1_2) ((q25 1) (Int32.toNatClampNeg (87 + x1_2)))) (Int32.toNatClampNeg (10 + x1_2)) ((q25 1) (Int32.toNatClampNeg (97 + x1_2))))))))))))))
def f_m_rebuilds (z : Ob) : Option Ob := lp_m_rebuilds_2 k_m_rebuilds_2 10000 0 z
set_option maxHeartbeats 4000000 in
set_option maxRecDepth 100000 in
theorem c_m_rebuilds (l : Launch) (D : va_G) (cI cZ cR : ClassId) (za z1 z2 z3 z4 z5 z6 z7 z8 z9 : Nat) (z : Ob) (sz : Nat) (u : Ob) (hf : f_m_rebuilds z = some u) : kCv l yX7_rebuilds cX7_rebuilds 3 none { frames := 4, cells := 0, slots := 0, locals := 92 } [.ref za] D cI cZ cR (cModel cI cZ za z1 z2 z3 z4 z5 z6 z7 z8 z9 z) sz (cModel cI cZ za z1 z2 z3 z4 z5 z6 z7 z8 z9 u) := by
  refine kMwv (wf := (fun u : Ob => cModel cI cZ za z1 z2 z3 z4 z5 z6 z7 z8 z9 u)) (u := u) (by decide) (Nat.le_of_ble_eq_true rfl) ?_
  intro p e s m below meth c Q A hx hb hml hown hts hk hP hD hA hS hret ls hl
  have hS0 := hS
  have hK := hk.1
  have hl : lv_has ls 3 [(0, .ref za)] := hl
  rw [f_m_rebuilds] at hf
  refine lv_iconst (v := 0) hx hb dX7_rebuilds_0 (by decide) ?_
  refine lv_istore_n (lv' := [(1, .int 0), (0, .ref za)]) hx hb dX7_rebuilds_1 rfl hl (by decide) rfl (fun ls hl => ?_)
  have kx2 : ∀ (x1_2 : Int32) (z_2 : Ob) (H : Heap) (locs : List Loc) (ls : Array Slot), k_m_rebuilds_2 x1_2 z_2 = some u → va_P D vwCl (cModel cI cZ za z1 z2 z3 z4 z5 z6 z7 z8 z9 z_2) H → va_D A (cModel cI cZ za z1 z2 z3 z4 z5 z6 z7 z8 z9 z_2) → va_S A s.heap H locs → lv_has ls 3 [(0, .ref za), (1, .int x1_2)] → W p l e ({ frames := 4, cells := 0, slots := 0, locals := 92 } : Room) s m ([.ref za] : List Value).toArray below meth c H locs 0 0 Q (F0 m 89 ls []) := by
    intro x1_2 z_2 H locs ls hf hP hD hS hl
    rw [k_m_rebuilds_2] at hf
    exact hret _ _ z_2 _ _ hf dX7_rebuilds_89 hP hD hS
  have lh2 : ∀ (fu2 : Nat) (x1_2 : Int32) (z_2 : Ob) (H : Heap) (locs : List Loc) (ls : Array Slot), lp_m_rebuilds_2 k_m_rebuilds_2 fu2 x1_2 z_2 = some u → va_P D vwCl (cModel cI cZ za z1 z2 z3 z4 z5 z6 z7 z8 z9 z_2) H → va_D A (cModel cI cZ za z1 z2 z3 z4 z5 z6 z7 z8 z9 z_2) → va_S A s.heap H locs → lv_has ls 3 [(0, .ref za), (1, .int x1_2)] → W p l e ({ frames := 4, cells := 0, slots := 0, locals := 92 } : Room) s m ([.ref za] : List Value).toArray below meth c H locs 0 0 Q (F0 m 2 ls []) := by
    intro fu2
    induction fu2 with
    | zero => intro x1_2 z_2 H locs ls hf hP hD hS hl; exact no_none hf
    | succ fu2 ih2 =>
      intro x1_2 z_2 H locs ls hf hP hD hS hl
      rw [lp_m_rebuilds_2] at hf
      refine lv_iload_n hx hb dX7_rebuilds_2 rfl (lv_at hl 1 rfl) ?_
      refine lv_aload_n hx hb dX7_rebuilds_3 rfl (lv_at hl 0 rfl) ?_
      refine va_get (D := D) (ci := 7) (v := .ref z1) (C := RX7) (T := TX7) (N := 17) hx hb hts inT7 hown hK hP 0 rfl rfl 0 (by decide) (hts _ mT_566) (fun _ h9 => h9) rfl dX7_rebuilds_4 ?_
      refine lv_iconst (v := 1) hx hb dX7_rebuilds_7 (by decide) ?_
      refine va_iald (n := 367) (f := z_2 1) hx hb hK hP 1 0 rfl rfl (ck_in (by decide)) dX7_rebuilds_8 ?_
      refine lv_icmp_ge (tgt := 89) hx hb dX7_rebuilds_9 (by decide) (fun c9 => ?_) (fun c9 => ?_)
      · have hf := ite_t c9 hf
        exact kx2 x1_2 z_2 _ _ _ hf hP hD hS (lv_sub hl [0, 1] rfl)
      · have hf := ite_f c9 hf
        refine lv_aload_n hx hb dX7_rebuilds_12 rfl (lv_at hl 0 rfl) ?_
        refine lv_iload_n hx hb dX7_rebuilds_13 rfl (lv_at hl 1 rfl) ?_
        obtain ⟨q14, h14, hf⟩ := bd_some hf
        refine kx_rv (As := [.int x1_2]) (rest := []) hx hb hml hown hts hk hP hl.1 s_yX7_isKept v_yX7_isKept (c_m_isKept l D cI cZ cR za z1 z2 z3 z4 z5 z6 z7 z8 z9 z_2 x1_2 _ h14) mT_659 rfl rfl ⟨Nat.le_of_ble_eq_true rfl, Nat.le_of_ble_eq_true rfl⟩ (ci := 7) (q0 := 0) rfl rfl rfl (Nat.le_of_ble_eq_true rfl) ⟨Nat.zero_le _, Nat.zero_le _⟩ dX7_rebuilds_14 ?_
        refine lv_istore_n (lv' := [(2, .int q14), (0, .ref za), (1, .int x1_2)]) hx hb dX7_rebuilds_17 rfl hl (by decide) rfl (fun ls hl => ?_)
        refine lv_aload_n hx hb dX7_rebuilds_18 rfl (lv_at hl 1 rfl) ?_
        refine lv_aload_n hx hb dX7_rebuilds_19 rfl (lv_at hl 1 rfl) ?_
        refine va_get (D := D) (ci := 7) (v := .ref z8) (C := RX7) (T := TX7) (N := 17) hx hb hts inT7 hown hK hP 0 rfl rfl 10 (by decide) (hts _ mT_576) (fun _ h9 => h9) rfl dX7_rebuilds_20 ?_
        refine lv_iload_n hx hb dX7_rebuilds_23 rfl (lv_at hl 2 rfl) ?_
        refine lv_iconst (v := (-1)) hx hb dX7_rebuilds_24 (by decide) ?_
        obtain ⟨q25, h25, hf⟩ := bd_some hf
        refine kx_wv (As := [.ref z8, .int x1_2, .int (-1)]) (rest := []) (wc := cModel cI cZ za z1 z2 z3 z4 z5 z6 z7 z8 z9 z_2) (wr := []) (wd := cModel cI cZ za z1 z2 z3 z4 z5 z6 z7 z8 z9 q25) (wn := cModel cI cZ za z1 z2 z3 z4 z5 z6 z7 z8 z9 q25) hx hb hml hown hts hk hP hD hS hA hl.1 s_yX7_gathers v_yX7_gathers (c_m_gathers8 l D cI cZ cR za z1 z2 z3 z4 z5 z6 z7 z8 z9 z_2 x1_2 (-1) H.size _ h25) mT_671 rfl rfl ⟨Nat.le_of_ble_eq_true rfl, Nat.le_of_ble_eq_true rfl⟩ [0, 1, 2, 3, 4, 5, 6, 7, 8, 9] [] [0, 1, 2, 3, 4, 5, 6, 7, 8, 9] rfl rfl (by decide) (by decide) (by decide) (by decide) rfl (ci := 7) (q0 := 0) rfl rfl rfl (Nat.le_of_ble_eq_true rfl) ⟨Nat.zero_le _, Nat.zero_le _⟩ dX7_rebuilds_25 (fun H locs hP hD hS => ?_)
        refine lv_aload_n hx hb dX7_rebuilds_28 rfl (lv_at hl 1 rfl) ?_
        refine va_get (D := D) (ci := 7) (v := .ref z8) (C := RX7) (T := TX7) (N := 17) hx hb hts inT7 hown hK hP 0 rfl rfl 10 (by decide) (hts _ mT_576) (fun _ h9 => h9) rfl dX7_rebuilds_29 ?_
        refine lv_iload_n hx hb dX7_rebuilds_32 rfl (lv_at hl 2 rfl) ?_
        refine lv_iload_n hx hb dX7_rebuilds_33 rfl (lv_at hl 0 rfl) ?_
        refine lv_if_eq (tgt := 49) hx hb dX7_rebuilds_34 (by decide) (fun c34 => ?_) (fun c34 => ?_)
        · have hf := ite_t c34 hf
          refine lv_aload_n hx hb dX7_rebuilds_49 rfl (lv_at hl 1 rfl) ?_
          refine va_get (D := D) (ci := 7) (v := .int (q25 0 13)) (C := RX7) (T := TX7) (N := 17) hx hb hts inT7 hown hK hP 0 rfl rfl 13 (by decide) (hts _ mT_579) (fun _ h9 => h9) rfl dX7_rebuilds_50 ?_
          obtain ⟨b53, hf⟩ := gd_some hf
          refine va_iast (n := 20) (f := q25 8) hx hb hK hP hD hS 8 0 rfl rfl (ck_in b53) dX7_rebuilds_53 (fun H locs hP hD hS => ?_)
          have hP : va_P D vwCl ([(za, .inr (7, [.ref z1, .ref z2, .int (q25 0 2), .ref z3, .ref z4, .int (q25 0 5), .ref z5, .int (q25 0 7), .ref z6, .ref z7, .ref z8, .int (q25 0 11), .int (q25 0 12), .int (q25 0 13), .int (q25 0 14), .ref z9, .int (q25 0 16)])), (z1, .inl (cI, 367, .inl (q25 1))), (z2, .inl (cI, 5872, .inl (q25 2))), (z3, .inl (cI, 736, .inl (q25 3))), (z4, .inl (cZ, 2, .inl (q25 4))), (z5, .inl (cI, 60, .inl (q25 5))), (z6, .inl (cI, 20, .inl (q25 6))), (z7, .inl (cI, 20, .inl (q25 7))), (z8, .inl (cI, 20, .inl (upd (q25 8) (Int32.toNatClampNeg x1_2) (q25 0 13)))), (z9, .inl (cI, 10, .inl (q25 9)))]) H := hP
          have hD : va_D A ([(za, .inr (7, [.ref z1, .ref z2, .int (q25 0 2), .ref z3, .ref z4, .int (q25 0 5), .ref z5, .int (q25 0 7), .ref z6, .ref z7, .ref z8, .int (q25 0 11), .int (q25 0 12), .int (q25 0 13), .int (q25 0 14), .ref z9, .int (q25 0 16)])), (z1, .inl (cI, 367, .inl (q25 1))), (z2, .inl (cI, 5872, .inl (q25 2))), (z3, .inl (cI, 736, .inl (q25 3))), (z4, .inl (cZ, 2, .inl (q25 4))), (z5, .inl (cI, 60, .inl (q25 5))), (z6, .inl (cI, 20, .inl (q25 6))), (z7, .inl (cI, 20, .inl (q25 7))), (z8, .inl (cI, 20, .inl (upd (q25 8) (Int32.toNatClampNeg x1_2) (q25 0 13)))), (z9, .inl (cI, 10, .inl (q25 9)))]) := hD
          refine lv_aload_n hx hb dX7_rebuilds_54 rfl (lv_at hl 1 rfl) ?_
          refine va_get (D := D) (ci := 7) (v := .ref z8) (C := RX7) (T := TX7) (N := 17) hx hb hts inT7 hown hK hP 0 rfl rfl 10 (by decide) (hts _ mT_576) (fun _ h9 => h9) rfl dX7_rebuilds_55 ?_
          refine lv_bipush (v := 10) hx hb dX7_rebuilds_58 (by decide) ?_
          refine lv_iload_n hx hb dX7_rebuilds_60 rfl (lv_at hl 2 rfl) ?_
          refine lv_iadd hx hb dX7_rebuilds_61 ?_
          refine lv_iload_n hx hb dX7_rebuilds_62 rfl (lv_at hl 0 rfl) ?_
          refine lv_if_eq (tgt := 78) hx hb dX7_rebuilds_63 (by decide) (fun c63 => ?_) (fun c63 => ?_)
          · have hf := ite_t c63 hf
            refine lv_aload_n hx hb dX7_rebuilds_78 rfl (lv_at hl 1 rfl) ?_
            refine va_get (D := D) (ci := 7) (v := .int (q25 0 14)) (C := RX7) (T := TX7) (N := 17) hx hb hts inT7 hown hK hP 0 rfl rfl 14 (by decide) (hts _ mT_580) (fun _ h9 => h9) rfl dX7_rebuilds_79 ?_
            obtain ⟨b82, hf⟩ := gd_some hf
            refine va_iast (n := 20) (f := upd (q25 8) (Int32.toNatClampNeg x1_2) (q25 0 13)) hx hb hK hP hD hS 8 0 rfl rfl (ck_in b82) dX7_rebuilds_82 (fun H locs hP hD hS => ?_)
            have hP : va_P D vwCl ([(za, .inr (7, [.ref z1, .ref z2, .int (q25 0 2), .ref z3, .ref z4, .int (q25 0 5), .ref z5, .int (q25 0 7), .ref z6, .ref z7, .ref z8, .int (q25 0 11), .int (q25 0 12), .int (q25 0 13), .int (q25 0 14), .ref z9, .int (q25 0 16)])), (z1, .inl (cI, 367, .inl (q25 1))), (z2, .inl (cI, 5872, .inl (q25 2))), (z3, .inl (cI, 736, .inl (q25 3))), (z4, .inl (cZ, 2, .inl (q25 4))), (z5, .inl (cI, 60, .inl (q25 5))), (z6, .inl (cI, 20, .inl (q25 6))), (z7, .inl (cI, 20, .inl (q25 7))), (z8, .inl (cI, 20, .inl (upd (upd (q25 8) (Int32.toNatClampNeg x1_2) (q25 0 13)) (Int32.toNatClampNeg (10 + x1_2)) (q25 0 14)))), (z9, .inl (cI, 10, .inl (q25 9)))]) H := hP
            have hD : va_D A ([(za, .inr (7, [.ref z1, .ref z2, .int (q25 0 2), .ref z3, .ref z4, .int (q25 0 5), .ref z5, .int (q25 0 7), .ref z6, .ref z7, .ref z8, .int (q25 0 11), .int (q25 0 12), .int (q25 0 13), .int (q25 0 14), .ref z9, .int (q25 0 16)])), (z1, .inl (cI, 367, .inl (q25 1))), (z2, .inl (cI, 5872, .inl (q25 2))), (z3, .inl (cI, 736, .inl (q25 3))), (z4, .inl (cZ, 2, .inl (q25 4))), (z5, .inl (cI, 60, .inl (q25 5))), (z6, .inl (cI, 20, .inl (q25 6))), (z7, .inl (cI, 20, .inl (q25 7))), (z8, .inl (cI, 20, .inl (upd (upd (q25 8) (Int32.toNatClampNeg x1_2) (q25 0 13)) (Int32.toNatClampNeg (10 + x1_2)) (q25 0 14)))), (z9, .inl (cI, 10, .inl (q25 9)))]) := hD
            refine lv_iinc (v := x1_2 + 1) (lv' := [(1, .int (x1_2 + 1)), (2, .int q14), (0, .ref za)]) hx hb dX7_rebuilds_83 hl (k := 2) rfl rfl (by decide) rfl (fun ls hl => ?_)
            refine lv_goto (tgt := 2) hx hb dX7_rebuilds_86 (by decide) ?_
            exact ih2 (x1_2 + 1) (sA (sA q25 8 (upd (q25 8) (Int32.toNatClampNeg x1_2) (q25 0 13))) 8 (upd (upd (q25 8) (Int32.toNatClampNeg x1_2) (q25 0 13)) (Int32.toNatClampNeg (10 + x1_2)) (q25 0 14))) _ _ _ hf hP hD hS (lv_sub hl [2, 0] rfl)
          · have hf := ite_f c63 hf
            refine lv_aload_n hx hb dX7_rebuilds_66 rfl (lv_at hl 1 rfl) ?_
            refine va_get (D := D) (ci := 7) (v := .ref z1) (C := RX7) (T := TX7) (N := 17) hx hb hts inT7 hown hK hP 0 rfl rfl 0 (by decide) (hts _ mT_566) (fun _ h9 => h9) rfl dX7_rebuilds_67 ?_
            refine lv_bipush (v := 97) hx hb dX7_rebuilds_70 (by decide) ?_
            refine lv_iload_n hx hb dX7_rebuilds_72 rfl (lv_at hl 2 rfl) ?_
            refine lv_iadd hx hb dX7_rebuilds_73 ?_
            obtain ⟨b74, hf⟩ := gd_some hf
            refine va_iald (n := 367) (f := q25 1) hx hb hK hP 1 0 rfl rfl (ck_in b74) dX7_rebuilds_74 ?_
            refine lv_goto (tgt := 82) hx hb dX7_rebuilds_75 (by decide) ?_
            obtain ⟨b82, hf⟩ := gd_some hf
            refine va_iast (n := 20) (f := upd (q25 8) (Int32.toNatClampNeg x1_2) (q25 0 13)) hx hb hK hP hD hS 8 0 rfl rfl (ck_in b82) dX7_rebuilds_82 (fun H locs hP hD hS => ?_)
            have hP : va_P D vwCl ([(za, .inr (7, [.ref z1, .ref z2, .int (q25 0 2), .ref z3, .ref z4, .int (q25 0 5), .ref z5, .int (q25 0 7), .ref z6, .ref z7, .ref z8, .int (q25 0 11), .int (q25 0 12), .int (q25 0 13), .int (q25 0 14), .ref z9, .int (q25 0 16)])), (z1, .inl (cI, 367, .inl (q25 1))), (z2, .inl (cI, 5872, .inl (q25 2))), (z3, .inl (cI, 736, .inl (q25 3))), (z4, .inl (cZ, 2, .inl (q25 4))), (z5, .inl (cI, 60, .inl (q25 5))), (z6, .inl (cI, 20, .inl (q25 6))), (z7, .inl (cI, 20, .inl (q25 7))), (z8, .inl (cI, 20, .inl (upd (upd (q25 8) (Int32.toNatClampNeg x1_2) (q25 0 13)) (Int32.toNatClampNeg (10 + x1_2)) ((q25 1) (Int32.toNatClampNeg (97 + x1_2)))))), (z9, .inl (cI, 10, .inl (q25 9)))]) H := hP
            have hD : va_D A ([(za, .inr (7, [.ref z1, .ref z2, .int (q25 0 2), .ref z3, .ref z4, .int (q25 0 5), .ref z5, .int (q25 0 7), .ref z6, .ref z7, .ref z8, .int (q25 0 11), .int (q25 0 12), .int (q25 0 13), .int (q25 0 14), .ref z9, .int (q25 0 16)])), (z1, .inl (cI, 367, .inl (q25 1))), (z2, .inl (cI, 5872, .inl (q25 2))), (z3, .inl (cI, 736, .inl (q25 3))), (z4, .inl (cZ, 2, .inl (q25 4))), (z5, .inl (cI, 60, .inl (q25 5))), (z6, .inl (cI, 20, .inl (q25 6))), (z7, .inl (cI, 20, .inl (q25 7))), (z8, .inl (cI, 20, .inl (upd (upd (q25 8) (Int32.toNatClampNeg x1_2) (q25 0 13)) (Int32.toNatClampNeg (10 + x1_2)) ((q25 1) (Int32.toNatClampNeg (97 + x1_2)))))), (z9, .inl (cI, 10, .inl (q25 9)))]) := hD
            refine lv_iinc (v := x1_2 + 1) (lv' := [(1, .int (x1_2 + 1)), (2, .int q14), (0, .ref za)]) hx hb dX7_rebuilds_83 hl (k := 2) rfl rfl (by decide) rfl (fun ls hl => ?_)
            refine lv_goto (tgt := 2) hx hb dX7_rebuilds_86 (by decide) ?_
            exact ih2 (x1_2 + 1) (sA (sA q25 8 (upd (q25 8) (Int32.toNatClampNeg x1_2) (q25 0 13))) 8 (upd (upd (q25 8) (Int32.toNatClampNeg x1_2) (q25 0 13)) (Int32.toNatClampNeg (10 + x1_2)) ((q25 1) (Int32.toNatClampNeg (97 + x1_2))))) _ _ _ hf hP hD hS (lv_sub hl [2, 0] rfl)
        · have hf := ite_f c34 hf
          refine lv_aload_n hx hb dX7_rebuilds_37 rfl (lv_at hl 1 rfl) ?_
          refine va_get (D := D) (ci := 7) (v := .ref z1) (C := RX7) (T := TX7) (N := 17) hx hb hts inT7 hown hK hP 0 rfl rfl 0 (by decide) (hts _ mT_566) (fun _ h9 => h9) rfl dX7_rebuilds_38 ?_
          refine lv_bipush (v := 87) hx hb dX7_rebuilds_41 (by decide) ?_
          refine lv_iload_n hx hb dX7_rebuilds_43 rfl (lv_at hl 2 rfl) ?_
          refine lv_iadd hx hb dX7_rebuilds_44 ?_
          obtain ⟨b45, hf⟩ := gd_some hf
          refine va_iald (n := 367) (f := q25 1) hx hb hK hP 1 0 rfl rfl (ck_in b45) dX7_rebuilds_45 ?_
          refine lv_goto (tgt := 53) hx hb dX7_rebuilds_46 (by decide) ?_
          obtain ⟨b53, hf⟩ := gd_some hf
          refine va_iast (n := 20) (f := q25 8) hx hb hK hP hD hS 8 0 rfl rfl (ck_in b53) dX7_rebuilds_53 (fun H locs hP hD hS => ?_)
          have hP : va_P D vwCl ([(za, .inr (7, [.ref z1, .ref z2, .int (q25 0 2), .ref z3, .ref z4, .int (q25 0 5), .ref z5, .int (q25 0 7), .ref z6, .ref z7, .ref z8, .int (q25 0 11), .int (q25 0 12), .int (q25 0 13), .int (q25 0 14), .ref z9, .int (q25 0 16)])), (z1, .inl (cI, 367, .inl (q25 1))), (z2, .inl (cI, 5872, .inl (q25 2))), (z3, .inl (cI, 736, .inl (q25 3))), (z4, .inl (cZ, 2, .inl (q25 4))), (z5, .inl (cI, 60, .inl (q25 5))), (z6, .inl (cI, 20, .inl (q25 6))), (z7, .inl (cI, 20, .inl (q25 7))), (z8, .inl (cI, 20, .inl (upd (q25 8) (Int32.toNatClampNeg x1_2) ((q25 1) (Int32.toNatClampNeg (87 + x1_2)))))), (z9, .inl (cI, 10, .inl (q25 9)))]) H := hP
          have hD : va_D A ([(za, .inr (7, [.ref z1, .ref z2, .int (q25 0 2), .ref z3, .ref z4, .int (q25 0 5), .ref z5, .int (q25 0 7), .ref z6, .ref z7, .ref z8, .int (q25 0 11), .int (q25 0 12), .int (q25 0 13), .int (q25 0 14), .ref z9, .int (q25 0 16)])), (z1, .inl (cI, 367, .inl (q25 1))), (z2, .inl (cI, 5872, .inl (q25 2))), (z3, .inl (cI, 736, .inl (q25 3))), (z4, .inl (cZ, 2, .inl (q25 4))), (z5, .inl (cI, 60, .inl (q25 5))), (z6, .inl (cI, 20, .inl (q25 6))), (z7, .inl (cI, 20, .inl (q25 7))), (z8, .inl (cI, 20, .inl (upd (q25 8) (Int32.toNatClampNeg x1_2) ((q25 1) (Int32.toNatClampNeg (87 + x1_2)))))), (z9, .inl (cI, 10, .inl (q25 9)))]) := hD
          refine lv_aload_n hx hb dX7_rebuilds_54 rfl (lv_at hl 1 rfl) ?_
          refine va_get (D := D) (ci := 7) (v := .ref z8) (C := RX7) (T := TX7) (N := 17) hx hb hts inT7 hown hK hP 0 rfl rfl 10 (by decide) (hts _ mT_576) (fun _ h9 => h9) rfl dX7_rebuilds_55 ?_
          refine lv_bipush (v := 10) hx hb dX7_rebuilds_58 (by decide) ?_
          refine lv_iload_n hx hb dX7_rebuilds_60 rfl (lv_at hl 2 rfl) ?_
          refine lv_iadd hx hb dX7_rebuilds_61 ?_
          refine lv_iload_n hx hb dX7_rebuilds_62 rfl (lv_at hl 0 rfl) ?_
          refine lv_if_eq (tgt := 78) hx hb dX7_rebuilds_63 (by decide) (fun c63 => ?_) (fun c63 => ?_)
          · have hf := ite_t c63 hf
            refine lv_aload_n hx hb dX7_rebuilds_78 rfl (lv_at hl 1 rfl) ?_
            refine va_get (D := D) (ci := 7) (v := .int (q25 0 14)) (C := RX7) (T := TX7) (N := 17) hx hb hts inT7 hown hK hP 0 rfl rfl 14 (by decide) (hts _ mT_580) (fun _ h9 => h9) rfl dX7_rebuilds_79 ?_
            obtain ⟨b82, hf⟩ := gd_some hf
            refine va_iast (n := 20) (f := upd (q25 8) (Int32.toNatClampNeg x1_2) ((q25 1) (Int32.toNatClampNeg (87 + x1_2)))) hx hb hK hP hD hS 8 0 rfl rfl (ck_in b82) dX7_rebuilds_82 (fun H locs hP hD hS => ?_)
            have hP : va_P D vwCl ([(za, .inr (7, [.ref z1, .ref z2, .int (q25 0 2), .ref z3, .ref z4, .int (q25 0 5), .ref z5, .int (q25 0 7), .ref z6, .ref z7, .ref z8, .int (q25 0 11), .int (q25 0 12), .int (q25 0 13), .int (q25 0 14), .ref z9, .int (q25 0 16)])), (z1, .inl (cI, 367, .inl (q25 1))), (z2, .inl (cI, 5872, .inl (q25 2))), (z3, .inl (cI, 736, .inl (q25 3))), (z4, .inl (cZ, 2, .inl (q25 4))), (z5, .inl (cI, 60, .inl (q25 5))), (z6, .inl (cI, 20, .inl (q25 6))), (z7, .inl (cI, 20, .inl (q25 7))), (z8, .inl (cI, 20, .inl (upd (upd (q25 8) (Int32.toNatClampNeg x1_2) ((q25 1) (Int32.toNatClampNeg (87 + x1_2)))) (Int32.toNatClampNeg (10 + x1_2)) (q25 0 14)))), (z9, .inl (cI, 10, .inl (q25 9)))]) H := hP
            have hD : va_D A ([(za, .inr (7, [.ref z1, .ref z2, .int (q25 0 2), .ref z3, .ref z4, .int (q25 0 5), .ref z5, .int (q25 0 7), .ref z6, .ref z7, .ref z8, .int (q25 0 11), .int (q25 0 12), .int (q25 0 13), .int (q25 0 14), .ref z9, .int (q25 0 16)])), (z1, .inl (cI, 367, .inl (q25 1))), (z2, .inl (cI, 5872, .inl (q25 2))), (z3, .inl (cI, 736, .inl (q25 3))), (z4, .inl (cZ, 2, .inl (q25 4))), (z5, .inl (cI, 60, .inl (q25 5))), (z6, .inl (cI, 20, .inl (q25 6))), (z7, .inl (cI, 20, .inl (q25 7))), (z8, .inl (cI, 20, .inl (upd (upd (q25 8) (Int32.toNatClampNeg x1_2) ((q25 1) (Int32.toNatClampNeg (87 + x1_2)))) (Int32.toNatClampNeg (10 + x1_2)) (q25 0 14)))), (z9, .inl (cI, 10, .inl (q25 9)))]) := hD
            refine lv_iinc (v := x1_2 + 1) (lv' := [(1, .int (x1_2 + 1)), (2, .int q14), (0, .ref za)]) hx hb dX7_rebuilds_83 hl (k := 2) rfl rfl (by decide) rfl (fun ls hl => ?_)
            refine lv_goto (tgt := 2) hx hb dX7_rebuilds_86 (by decide) ?_
            exact ih2 (x1_2 + 1) (sA (sA q25 8 (upd (q25 8) (Int32.toNatClampNeg x1_2) ((q25 1) (Int32.toNatClampNeg (87 + x1_2))))) 8 (upd (upd (q25 8) (Int32.toNatClampNeg x1_2) ((q25 1) (Int32.toNatClampNeg (87 + x1_2)))) (Int32.toNatClampNeg (10 + x1_2)) (q25 0 14))) _ _ _ hf hP hD hS (lv_sub hl [2, 0] rfl)
          · have hf := ite_f c63 hf
            refine lv_aload_n hx hb dX7_rebuilds_66 rfl (lv_at hl 1 rfl) ?_
            refine va_get (D := D) (ci := 7) (v := .ref z1) (C := RX7) (T := TX7) (N := 17) hx hb hts inT7 hown hK hP 0 rfl rfl 0 (by decide) (hts _ mT_566) (fun _ h9 => h9) rfl dX7_rebuilds_67 ?_
            refine lv_bipush (v := 97) hx hb dX7_rebuilds_70 (by decide) ?_
            refine lv_iload_n hx hb dX7_rebuilds_72 rfl (lv_at hl 2 rfl) ?_
            refine lv_iadd hx hb dX7_rebuilds_73 ?_
            obtain ⟨b74, hf⟩ := gd_some hf
            refine va_iald (n := 367) (f := q25 1) hx hb hK hP 1 0 rfl rfl (ck_in b74) dX7_rebuilds_74 ?_
            refine lv_goto (tgt := 82) hx hb dX7_rebuilds_75 (by decide) ?_
            obtain ⟨b82, hf⟩ := gd_some hf
            refine va_iast (n := 20) (f := upd (q25 8) (Int32.toNatClampNeg x1_2) ((q25 1) (Int32.toNatClampNeg (87 + x1_2)))) hx hb hK hP hD hS 8 0 rfl rfl (ck_in b82) dX7_rebuilds_82 (fun H locs hP hD hS => ?_)
            have hP : va_P D vwCl ([(za, .inr (7, [.ref z1, .ref z2, .int (q25 0 2), .ref z3, .ref z4, .int (q25 0 5), .ref z5, .int (q25 0 7), .ref z6, .ref z7, .ref z8, .int (q25 0 11), .int (q25 0 12), .int (q25 0 13), .int (q25 0 14), .ref z9, .int (q25 0 16)])), (z1, .inl (cI, 367, .inl (q25 1))), (z2, .inl (cI, 5872, .inl (q25 2))), (z3, .inl (cI, 736, .inl (q25 3))), (z4, .inl (cZ, 2, .inl (q25 4))), (z5, .inl (cI, 60, .inl (q25 5))), (z6, .inl (cI, 20, .inl (q25 6))), (z7, .inl (cI, 20, .inl (q25 7))), (z8, .inl (cI, 20, .inl (upd (upd (q25 8) (Int32.toNatClampNeg x1_2) ((q25 1) (Int32.toNatClampNeg (87 + x1_2)))) (Int32.toNatClampNeg (10 + x1_2)) ((q25 1) (Int32.toNatClampNeg (97 + x1_2)))))), (z9, .inl (cI, 10, .inl (q25 9)))]) H := hP
            have hD : va_D A ([(za, .inr (7, [.ref z1, .ref z2, .int (q25 0 2), .ref z3, .ref z4, .int (q25 0 5), .ref z5, .int (q25 0 7), .ref z6, .ref z7, .ref z8, .int (q25 0 11), .int (q25 0 12), .int (q25 0 13), .int (q25 0 14), .ref z9, .int (q25 0 16)])), (z1, .inl (cI, 367, .inl (q25 1))), (z2, .inl (cI, 5872, .inl (q25 2))), (z3, .inl (cI, 736, .inl (q25 3))), (z4, .inl (cZ, 2, .inl (q25 4))), (z5, .inl (cI, 60, .inl (q25 5))), (z6, .inl (cI, 20, .inl (q25 6))), (z7, .inl (cI, 20, .inl (q25 7))), (z8, .inl (cI, 20, .inl (upd (upd (q25 8) (Int32.toNatClampNeg x1_2) ((q25 1) (Int32.toNatClampNeg (87 + x1_2)))) (Int32.toNatClampNeg (10 + x1_2)) ((q25 1) (Int32.toNatClampNeg (97 + x1_2)))))), (z9, .inl (cI, 10, .inl (q25 9)))]) := hD
            refine lv_iinc (v := x1_2 + 1) (lv' := [(1, .int (x1_2 + 1)), (2, .int q14), (0, .ref za)]) hx hb dX7_rebuilds_83 hl (k := 2) rfl rfl (by decide) rfl (fun ls hl => ?_)
            refine lv_goto (tgt := 2) hx hb dX7_rebuilds_86 (by decide) ?_
            exact ih2 (x1_2 + 1) (sA (sA q25 8 (upd (q25 8) (Int32.toNatClampNeg x1_2) ((q25 1) (Int32.toNatClampNeg (87 + x1_2))))) 8 (upd (upd (q25 8) (Int32.toNatClampNeg x1_2) ((q25 1) (Int32.toNatClampNeg (87 + x1_2)))) (Int32.toNatClampNeg (10 + x1_2)) ((q25 1) (Int32.toNatClampNeg (97 + x1_2))))) _ _ _ hf hP hD hS (lv_sub hl [2, 0] rfl)
  exact lh2 10000 0 z _ _ _ hf hP hD hS (lv_sub hl [1, 0] rfl)
theorem s_yX7_isTakenAt : kMS yX7_isTakenAt cX7_isTakenAt 2 (some .boolean) 1 := ⟨mT_682, mT_59, by decide +kernel⟩
theorem v_yX7_isTakenAt : kMV yX7_isTakenAt := ⟨mT_681, mT_32⟩
def f_m_isTakenAt (z : Ob) (x : Int32) : Option (Int32 × Ob) := bd (f_m_gathers 8 z x (-1)) (fun q7 => bd (f_m_isLess q7 (q7 0 13) (q7 0 14) x) (fun q20 => gd (bz q20) (some (q20, q7))))
set_option maxHeartbeats 4000000 in
set_option maxRecDepth 100000 in
theorem c_m_isTakenAt (l : Launch) (D : va_G) (cI cZ cR : ClassId) (za z1 z2 z3 z4 z5 z6 z7 z8 z9 : Nat) (z : Ob) (x : Int32) (sz : Nat) (r : Int32) (u : Ob) (hf : f_m_isTakenAt z x = some (r, u)) : kCi l yX7_isTakenAt cX7_isTakenAt 2 (some .boolean) { frames := 4, cells := 0, slots := 0, locals := 92 } [.ref za, .int x] D cI cZ cR (cModel cI cZ za z1 z2 z3 z4 z5 z6 z7 z8 z9 z) sz (cModel cI cZ za z1 z2 z3 z4 z5 z6 z7 z8 z9 u) r := by
  refine kMwz (wf := (fun u : Ob => cModel cI cZ za z1 z2 z3 z4 z5 z6 z7 z8 z9 u)) (u := u) (by decide) (Nat.le_of_ble_eq_true rfl) ?_
  intro p e s m below meth c Q A hx hb hml hown hts hk hP hD hA hS hret ls hl
  have hS0 := hS
  have hK := hk.1
  have hl : lv_has ls 2 [(0, .ref za), (1, .int x)] := hl
  rw [f_m_isTakenAt] at hf
  refine lv_aload_n hx hb dX7_isTakenAt_0 rfl (lv_at hl 0 rfl) ?_
  refine lv_aload_n hx hb dX7_isTakenAt_1 rfl (lv_at hl 0 rfl) ?_
  refine va_get (D := D) (ci := 7) (v := .ref z8) (C := RX7) (T := TX7) (N := 17) hx hb hts inT7 hown hK hP 0 rfl rfl 10 (by decide) (hts _ mT_576) (fun _ h9 => h9) rfl dX7_isTakenAt_2 ?_
  refine lv_iload_n hx hb dX7_isTakenAt_5 rfl (lv_at hl 1 rfl) ?_
  refine lv_iconst (v := (-1)) hx hb dX7_isTakenAt_6 (by decide) ?_
  obtain ⟨q7, h7, hf⟩ := bd_some hf
  refine kx_wv (As := [.ref z8, .int x, .int (-1)]) (rest := []) (wc := cModel cI cZ za z1 z2 z3 z4 z5 z6 z7 z8 z9 z) (wr := []) (wd := cModel cI cZ za z1 z2 z3 z4 z5 z6 z7 z8 z9 q7) (wn := cModel cI cZ za z1 z2 z3 z4 z5 z6 z7 z8 z9 q7) hx hb hml hown hts hk hP hD hS hA hl.1 s_yX7_gathers v_yX7_gathers (c_m_gathers8 l D cI cZ cR za z1 z2 z3 z4 z5 z6 z7 z8 z9 z x (-1) s.heap.size _ h7) mT_671 rfl rfl ⟨Nat.le_of_ble_eq_true rfl, Nat.le_of_ble_eq_true rfl⟩ [0, 1, 2, 3, 4, 5, 6, 7, 8, 9] [] [0, 1, 2, 3, 4, 5, 6, 7, 8, 9] rfl rfl (by decide) (by decide) (by decide) (by decide) rfl (ci := 7) (q0 := 0) rfl rfl rfl (Nat.le_of_ble_eq_true rfl) ⟨Nat.zero_le _, Nat.zero_le _⟩ dX7_isTakenAt_7 (fun H locs hP hD hS => ?_)
  refine lv_aload_n hx hb dX7_isTakenAt_10 rfl (lv_at hl 0 rfl) ?_
  refine lv_aload_n hx hb dX7_isTakenAt_11 rfl (lv_at hl 0 rfl) ?_
  refine va_get (D := D) (ci := 7) (v := .int (q7 0 13)) (C := RX7) (T := TX7) (N := 17) hx hb hts inT7 hown hK hP 0 rfl rfl 13 (by decide) (hts _ mT_579) (fun _ h9 => h9) rfl dX7_isTakenAt_12 ?_
  refine lv_aload_n hx hb dX7_isTakenAt_15 rfl (lv_at hl 0 rfl) ?_
  refine va_get (D := D) (ci := 7) (v := .int (q7 0 14)) (C := RX7) (T := TX7) (N := 17) hx hb hts inT7 hown hK hP 0 rfl rfl 14 (by decide) (hts _ mT_580) (fun _ h9 => h9) rfl dX7_isTakenAt_16 ?_
  refine lv_iload_n hx hb dX7_isTakenAt_19 rfl (lv_at hl 1 rfl) ?_
  obtain ⟨q20, h20, hf⟩ := bd_some hf
  refine kx_rv (As := [.int (q7 0 13), .int (q7 0 14), .int x]) (rest := []) hx hb hml hown hts hk hP hl.1 s_yX7_isLess v_yX7_isLess (c_m_isLess l D cI cZ cR za z1 z2 z3 z4 z5 z6 z7 z8 z9 q7 (q7 0 13) (q7 0 14) x _ h20) mT_683 rfl rfl ⟨Nat.le_of_ble_eq_true rfl, Nat.le_of_ble_eq_true rfl⟩ (ci := 7) (q0 := 0) rfl rfl rfl (Nat.le_of_ble_eq_true rfl) ⟨Nat.zero_le _, Nat.zero_le _⟩ dX7_isTakenAt_20 ?_
  obtain ⟨b23, hf⟩ := gd_some hf
  exact hret _ _ _ q7 _ _ hf (bz_or b23) dX7_isTakenAt_23 hP hD hS
theorem s_yX7_refused : kMS yX7_refused cX7_refused 2 (some .int) 0 := ⟨mT_666, mT_59, by decide +kernel⟩
theorem v_yX7_refused : kMV yX7_refused := ⟨mT_665, mT_28⟩
def k_m_refused_6 (x1_6 : Int32) (z_6 : Ob) : Option (Int32 × Ob) := some ((-1), z_6)
def lp_m_refused_6 (kk0 : Int32 → Ob → Option (Int32 × Ob)) : Nat → Int32 → Ob → Option (Int32 × Ob)
  | 0, _, _ => none
  | fu6 + 1, x1_6, z_6 => if ((z_6 1) (Int32.toNatClampNeg 1)) ≤ x1_6 then (kk0 x1_6 z_6) else (bd (f_m_isKept z_6 x1_6) (fun q18 => if q18 = 0 then ((lp_m_refused_6 kk0 fu6) (x1_6 + 1) z_6) else (bd (f_m_isTakenAt z_6 x1_6) (fun q26 => if q26.1 = 0 then (some (x1_6, q26.2)) else ((lp_m_refused_6 kk0 fu6) (x1_6 + 1) q26.2)))))
def f_m_refused (z : Ob) : Option (Int32 × Ob) := bd (f_m_rebuilds z) (fun q1 => lp_m_refused_6 k_m_refused_6 10000 0 q1)
set_option maxHeartbeats 4000000 in
set_option maxRecDepth 100000 in
theorem c_m_refused (l : Launch) (D : va_G) (cI cZ cR : ClassId) (za z1 z2 z3 z4 z5 z6 z7 z8 z9 : Nat) (z : Ob) (sz : Nat) (r : Int32) (u : Ob) (hf : f_m_refused z = some (r, u)) : kCi l yX7_refused cX7_refused 2 (some .int) { frames := 5, cells := 0, slots := 0, locals := 114 } [.ref za] D cI cZ cR (cModel cI cZ za z1 z2 z3 z4 z5 z6 z7 z8 z9 z) sz (cModel cI cZ za z1 z2 z3 z4 z5 z6 z7 z8 z9 u) r := by
  refine kMwi (wf := (fun u : Ob => cModel cI cZ za z1 z2 z3 z4 z5 z6 z7 z8 z9 u)) (u := u) (by decide) (Nat.le_of_ble_eq_true rfl) ?_
  intro p e s m below meth c Q A hx hb hml hown hts hk hP hD hA hS hret ls hl
  have hS0 := hS
  have hK := hk.1
  have hl : lv_has ls 2 [(0, .ref za)] := hl
  rw [f_m_refused] at hf
  refine lv_aload_n hx hb dX7_refused_0 rfl (lv_at hl 0 rfl) ?_
  obtain ⟨q1, h1, hf⟩ := bd_some hf
  refine kx_wv (As := []) (rest := []) (wc := cModel cI cZ za z1 z2 z3 z4 z5 z6 z7 z8 z9 z) (wr := []) (wd := cModel cI cZ za z1 z2 z3 z4 z5 z6 z7 z8 z9 q1) (wn := cModel cI cZ za z1 z2 z3 z4 z5 z6 z7 z8 z9 q1) hx hb hml hown hts hk hP hD hS hA hl.1 s_yX7_rebuilds v_yX7_rebuilds (c_m_rebuilds l D cI cZ cR za z1 z2 z3 z4 z5 z6 z7 z8 z9 z s.heap.size _ h1) mT_667 rfl rfl ⟨Nat.le_of_ble_eq_true rfl, Nat.le_of_ble_eq_true rfl⟩ [0, 1, 2, 3, 4, 5, 6, 7, 8, 9] [] [0, 1, 2, 3, 4, 5, 6, 7, 8, 9] rfl rfl (by decide) (by decide) (by decide) (by decide) rfl (ci := 7) (q0 := 0) rfl rfl rfl (Nat.le_of_ble_eq_true rfl) ⟨Nat.zero_le _, Nat.zero_le _⟩ dX7_refused_1 (fun H locs hP hD hS => ?_)
  refine lv_iconst (v := 0) hx hb dX7_refused_4 (by decide) ?_
  refine lv_istore_n (lv' := [(1, .int 0), (0, .ref za)]) hx hb dX7_refused_5 rfl hl (by decide) rfl (fun ls hl => ?_)
  have kx6 : ∀ (x1_6 : Int32) (z_6 : Ob) (H : Heap) (locs : List Loc) (ls : Array Slot), k_m_refused_6 x1_6 z_6 = some (r, u) → va_P D vwCl (cModel cI cZ za z1 z2 z3 z4 z5 z6 z7 z8 z9 z_6) H → va_D A (cModel cI cZ za z1 z2 z3 z4 z5 z6 z7 z8 z9 z_6) → va_S A s.heap H locs → lv_has ls 2 [(0, .ref za), (1, .int x1_6)] → W p l e ({ frames := 5, cells := 0, slots := 0, locals := 114 } : Room) s m ([.ref za] : List Value).toArray below meth c H locs 0 0 Q (F0 m 40 ls []) := by
    intro x1_6 z_6 H locs ls hf hP hD hS hl
    rw [k_m_refused_6] at hf
    refine lv_iconst (v := (-1)) hx hb dX7_refused_40 (by decide) ?_
    exact hret _ _ _ z_6 _ _ hf dX7_refused_41 hP hD hS
  have lh6 : ∀ (fu6 : Nat) (x1_6 : Int32) (z_6 : Ob) (H : Heap) (locs : List Loc) (ls : Array Slot), lp_m_refused_6 k_m_refused_6 fu6 x1_6 z_6 = some (r, u) → va_P D vwCl (cModel cI cZ za z1 z2 z3 z4 z5 z6 z7 z8 z9 z_6) H → va_D A (cModel cI cZ za z1 z2 z3 z4 z5 z6 z7 z8 z9 z_6) → va_S A s.heap H locs → lv_has ls 2 [(0, .ref za), (1, .int x1_6)] → W p l e ({ frames := 5, cells := 0, slots := 0, locals := 114 } : Room) s m ([.ref za] : List Value).toArray below meth c H locs 0 0 Q (F0 m 6 ls []) := by
    intro fu6
    induction fu6 with
    | zero => intro x1_6 z_6 H locs ls hf hP hD hS hl; exact no_none hf
    | succ fu6 ih6 =>
      intro x1_6 z_6 H locs ls hf hP hD hS hl
      rw [lp_m_refused_6] at hf
      refine lv_iload_n hx hb dX7_refused_6 rfl (lv_at hl 1 rfl) ?_
      refine lv_aload_n hx hb dX7_refused_7 rfl (lv_at hl 0 rfl) ?_
      refine va_get (D := D) (ci := 7) (v := .ref z1) (C := RX7) (T := TX7) (N := 17) hx hb hts inT7 hown hK hP 0 rfl rfl 0 (by decide) (hts _ mT_566) (fun _ h9 => h9) rfl dX7_refused_8 ?_
      refine lv_iconst (v := 1) hx hb dX7_refused_11 (by decide) ?_
      refine va_iald (n := 367) (f := z_6 1) hx hb hK hP 1 0 rfl rfl (ck_in (by decide)) dX7_refused_12 ?_
      refine lv_icmp_ge (tgt := 40) hx hb dX7_refused_13 (by decide) (fun c13 => ?_) (fun c13 => ?_)
      · have hf := ite_t c13 hf
        exact kx6 x1_6 z_6 _ _ _ hf hP hD hS (lv_sub hl [0, 1] rfl)
      · have hf := ite_f c13 hf
        refine lv_aload_n hx hb dX7_refused_16 rfl (lv_at hl 0 rfl) ?_
        refine lv_iload_n hx hb dX7_refused_17 rfl (lv_at hl 1 rfl) ?_
        obtain ⟨q18, h18, hf⟩ := bd_some hf
        refine kx_rv (As := [.int x1_6]) (rest := []) hx hb hml hown hts hk hP hl.1 s_yX7_isKept v_yX7_isKept (c_m_isKept l D cI cZ cR za z1 z2 z3 z4 z5 z6 z7 z8 z9 z_6 x1_6 _ h18) mT_659 rfl rfl ⟨Nat.le_of_ble_eq_true rfl, Nat.le_of_ble_eq_true rfl⟩ (ci := 7) (q0 := 0) rfl rfl rfl (Nat.le_of_ble_eq_true rfl) ⟨Nat.zero_le _, Nat.zero_le _⟩ dX7_refused_18 ?_
        refine lv_if_eq (tgt := 34) hx hb dX7_refused_21 (by decide) (fun c21 => ?_) (fun c21 => ?_)
        · have hf := ite_t c21 hf
          refine lv_iinc (v := x1_6 + 1) (lv' := [(1, .int (x1_6 + 1)), (0, .ref za)]) hx hb dX7_refused_34 hl (k := 1) rfl rfl (by decide) rfl (fun ls hl => ?_)
          refine lv_goto (tgt := 6) hx hb dX7_refused_37 (by decide) ?_
          exact ih6 (x1_6 + 1) z_6 _ _ _ hf hP hD hS (lv_sub hl [1, 0] rfl)
        · have hf := ite_f c21 hf
          refine lv_aload_n hx hb dX7_refused_24 rfl (lv_at hl 0 rfl) ?_
          refine lv_iload_n hx hb dX7_refused_25 rfl (lv_at hl 1 rfl) ?_
          obtain ⟨q26, h26, hf⟩ := bd_some hf
          refine kx_wi (As := [.int x1_6]) (rest := []) (wc := cModel cI cZ za z1 z2 z3 z4 z5 z6 z7 z8 z9 z_6) (wr := []) (wd := cModel cI cZ za z1 z2 z3 z4 z5 z6 z7 z8 z9 q26.2) (wn := cModel cI cZ za z1 z2 z3 z4 z5 z6 z7 z8 z9 q26.2) hx hb hml hown hts hk hP hD hS hA hl.1 s_yX7_isTakenAt v_yX7_isTakenAt (c_m_isTakenAt l D cI cZ cR za z1 z2 z3 z4 z5 z6 z7 z8 z9 z_6 x1_6 H.size _ _ h26) mT_679 rfl rfl ⟨Nat.le_of_ble_eq_true rfl, Nat.le_of_ble_eq_true rfl⟩ [0, 1, 2, 3, 4, 5, 6, 7, 8, 9] [] [0, 1, 2, 3, 4, 5, 6, 7, 8, 9] rfl rfl (by decide) (by decide) (by decide) (by decide) rfl (ci := 7) (q0 := 0) rfl rfl rfl (Nat.le_of_ble_eq_true rfl) ⟨Nat.zero_le _, Nat.zero_le _⟩ dX7_refused_26 (fun H locs hP hD hS => ?_)
          refine lv_if_ne (tgt := 34) hx hb dX7_refused_29 (by decide) (fun c29 => ?_) (fun c29 => ?_)
          · have hf := ite_f c29 hf
            refine lv_iinc (v := x1_6 + 1) (lv' := [(1, .int (x1_6 + 1)), (0, .ref za)]) hx hb dX7_refused_34 hl (k := 1) rfl rfl (by decide) rfl (fun ls hl => ?_)
            refine lv_goto (tgt := 6) hx hb dX7_refused_37 (by decide) ?_
            exact ih6 (x1_6 + 1) q26.2 _ _ _ hf hP hD hS (lv_sub hl [1, 0] rfl)
          · have hf := ite_t c29 hf
            refine lv_iload_n hx hb dX7_refused_32 rfl (lv_at hl 1 rfl) ?_
            exact hret _ _ _ q26.2 _ _ hf dX7_refused_33 hP hD hS
  exact lh6 10000 0 q1 _ _ _ hf hP hD hS (lv_sub hl [1, 0] rfl)
theorem s_yX7_isExact : kMS yX7_isExact cX7_isExact 3 (some .boolean) 0 := ⟨mT_690, mT_59, by decide +kernel⟩
theorem v_yX7_isExact : kMV yX7_isExact := ⟨mT_689, mT_34⟩
def k_m_isExact_38 (z : Ob) (x1_38 : Int32) (x2_38 : Int32) : Option (Int32 × Ob) := gd (bz x1_38) (some (x1_38, z))
def lp_m_isExact_38 (z : Ob) (kk0 : Int32 → Int32 → Option (Int32 × Ob)) : Nat → Int32 → Int32 → Option (Int32 × Ob)
  | 0, _, _ => none
  | fu38 + 1, x1_38, x2_38 => if ((z 1) (Int32.toNatClampNeg 1)) ≤ x2_38 then (kk0 x1_38 x2_38) else (if x1_38 = 0 then ((lp_m_isExact_38 z kk0 fu38) 0 (x2_38 + 1)) else (gd (ck x2_38 20) (gd (ck x2_38 20) (if ((z 6) (Int32.toNatClampNeg x2_38)) = ((z 8) (Int32.toNatClampNeg x2_38)) then (gd (ck (10 + x2_38) 20) (gd (ck (10 + x2_38) 20) (if ((z 6) (Int32.toNatClampNeg (10 + x2_38))) = ((z 8) (Int32.toNatClampNeg (10 + x2_38))) then ((lp_m_isExact_38 z kk0 fu38) 1 (x2_38 + 1)) else ((lp_m_isExact_38 z kk0 fu38) 0 (x2_38 + 1))))) else ((lp_m_isExact_38 z kk0 fu38) 0 (x2_38 + 1))))))
def f_m_isExact (z : Ob) : Option (Int32 × Ob) := bd (f_m_isWell z) (fun q1 => if q1 = 0 then (some (0, z)) else (bd (f_m_refused z) (fun q8 => if q8.1 = (-1) then (bd (f_m_works 6 q8.2 0 (-1)) (fun q24 => if q24.1 < 0 then (lp_m_isExact_38 q24.2 (k_m_isExact_38 q24.2) 10000 0 0) else (lp_m_isExact_38 q24.2 (k_m_isExact_38 q24.2) 10000 1 0))) else (some (0, q8.2)))))
set_option maxHeartbeats 4000000 in
set_option maxRecDepth 100000 in
theorem c_m_isExact (l : Launch) (D : va_G) (cI cZ cR : ClassId) (za z1 z2 z3 z4 z5 z6 z7 z8 z9 : Nat) (z : Ob) (sz : Nat) (r : Int32) (u : Ob) (hf : f_m_isExact z = some (r, u)) : kCi l yX7_isExact cX7_isExact 3 (some .boolean) { frames := 6, cells := 0, slots := 0, locals := 135 } [.ref za] D cI cZ cR (cModel cI cZ za z1 z2 z3 z4 z5 z6 z7 z8 z9 z) sz (cModel cI cZ za z1 z2 z3 z4 z5 z6 z7 z8 z9 u) r := by
  refine kMwz (wf := (fun u : Ob => cModel cI cZ za z1 z2 z3 z4 z5 z6 z7 z8 z9 u)) (u := u) (by decide) (Nat.le_of_ble_eq_true rfl) ?_
  intro p e s m below meth c Q A hx hb hml hown hts hk hP hD hA hS hret ls hl
  have hS0 := hS
  have hK := hk.1
  have hl : lv_has ls 3 [(0, .ref za)] := hl
  rw [f_m_isExact] at hf
  refine lv_aload_n hx hb dX7_isExact_0 rfl (lv_at hl 0 rfl) ?_
  obtain ⟨q1, h1, hf⟩ := bd_some hf
  refine kx_rv (As := []) (rest := []) hx hb hml hown hts hk hP hl.1 s_yX7_isWell v_yX7_isWell (c_m_isWell l D cI cZ cR za z1 z2 z3 z4 z5 z6 z7 z8 z9 z _ h1) mT_651 rfl rfl ⟨Nat.le_of_ble_eq_true rfl, Nat.le_of_ble_eq_true rfl⟩ (ci := 7) (q0 := 0) rfl rfl rfl (Nat.le_of_ble_eq_true rfl) ⟨Nat.zero_le _, Nat.zero_le _⟩ dX7_isExact_1 ?_
  refine lv_if_eq (tgt := 15) hx hb dX7_isExact_4 (by decide) (fun c4 => ?_) (fun c4 => ?_)
  · have hf := ite_t c4 hf
    refine lv_iconst (v := 0) hx hb dX7_isExact_15 (by decide) ?_
    exact hret _ _ _ z _ _ hf (Or.inl rfl) dX7_isExact_16 hP hD hS
  · have hf := ite_f c4 hf
    refine lv_aload_n hx hb dX7_isExact_7 rfl (lv_at hl 0 rfl) ?_
    obtain ⟨q8, h8, hf⟩ := bd_some hf
    refine kx_wi (As := []) (rest := []) (wc := cModel cI cZ za z1 z2 z3 z4 z5 z6 z7 z8 z9 z) (wr := []) (wd := cModel cI cZ za z1 z2 z3 z4 z5 z6 z7 z8 z9 q8.2) (wn := cModel cI cZ za z1 z2 z3 z4 z5 z6 z7 z8 z9 q8.2) hx hb hml hown hts hk hP hD hS hA hl.1 s_yX7_refused v_yX7_refused (c_m_refused l D cI cZ cR za z1 z2 z3 z4 z5 z6 z7 z8 z9 z s.heap.size _ _ h8) mT_663 rfl rfl ⟨Nat.le_of_ble_eq_true rfl, Nat.le_of_ble_eq_true rfl⟩ [0, 1, 2, 3, 4, 5, 6, 7, 8, 9] [] [0, 1, 2, 3, 4, 5, 6, 7, 8, 9] rfl rfl (by decide) (by decide) (by decide) (by decide) rfl (ci := 7) (q0 := 0) rfl rfl rfl (Nat.le_of_ble_eq_true rfl) ⟨Nat.zero_le _, Nat.zero_le _⟩ dX7_isExact_8 (fun H locs hP hD hS => ?_)
    refine lv_iconst (v := (-1)) hx hb dX7_isExact_11 (by decide) ?_
    refine lv_icmp_eq (tgt := 17) hx hb dX7_isExact_12 (by decide) (fun c12 => ?_) (fun c12 => ?_)
    · have hf := ite_t c12 hf
      refine lv_aload_n hx hb dX7_isExact_17 rfl (lv_at hl 0 rfl) ?_
      refine lv_aload_n hx hb dX7_isExact_18 rfl (lv_at hl 0 rfl) ?_
      refine va_get (D := D) (ci := 7) (v := .ref z6) (C := RX7) (T := TX7) (N := 17) hx hb hts inT7 hown hK hP 0 rfl rfl 8 (by decide) (hts _ mT_574) (fun _ h9 => h9) rfl dX7_isExact_19 ?_
      refine lv_iconst (v := 0) hx hb dX7_isExact_22 (by decide) ?_
      refine lv_iconst (v := (-1)) hx hb dX7_isExact_23 (by decide) ?_
      obtain ⟨q24, h24, hf⟩ := bd_some hf
      refine kx_wi (As := [.ref z6, .int 0, .int (-1)]) (rest := []) (wc := cModel cI cZ za z1 z2 z3 z4 z5 z6 z7 z8 z9 q8.2) (wr := []) (wd := cModel cI cZ za z1 z2 z3 z4 z5 z6 z7 z8 z9 q24.2) (wn := cModel cI cZ za z1 z2 z3 z4 z5 z6 z7 z8 z9 q24.2) hx hb hml hown hts hk hP hD hS hA hl.1 s_yX7_works v_yX7_works (c_m_works6 l D cI cZ cR za z1 z2 z3 z4 z5 z6 z7 z8 z9 q8.2 0 (-1) H.size _ _ h24) mT_691 rfl rfl ⟨Nat.le_of_ble_eq_true rfl, Nat.le_of_ble_eq_true rfl⟩ [0, 1, 2, 3, 4, 5, 6, 7, 8, 9] [] [0, 1, 2, 3, 4, 5, 6, 7, 8, 9] rfl rfl (by decide) (by decide) (by decide) (by decide) rfl (ci := 7) (q0 := 0) rfl rfl rfl (Nat.le_of_ble_eq_true rfl) ⟨Nat.zero_le _, Nat.zero_le _⟩ dX7_isExact_24 (fun H locs hP hD hS => ?_)
      refine lv_if_lt (tgt := 34) hx hb dX7_isExact_27 (by decide) (fun c27 => ?_) (fun c27 => ?_)
      · have hf := ite_t c27 hf
        refine lv_iconst (v := 0) hx hb dX7_isExact_34 (by decide) ?_
        refine lv_istore_n (lv' := [(1, .int 0), (0, .ref za)]) hx hb dX7_isExact_35 rfl hl (by decide) rfl (fun ls hl => ?_)
        refine lv_iconst (v := 0) hx hb dX7_isExact_36 (by decide) ?_
        refine lv_istore_n (lv' := [(2, .int 0), (1, .int 0), (0, .ref za)]) hx hb dX7_isExact_37 rfl hl (by decide) rfl (fun ls hl => ?_)
        have kx38 : ∀ (x1_38 : Int32) (x2_38 : Int32) (H : Heap) (locs : List Loc) (ls : Array Slot), (k_m_isExact_38 q24.2) x1_38 x2_38 = some (r, u) → va_P D vwCl (cModel cI cZ za z1 z2 z3 z4 z5 z6 z7 z8 z9 q24.2) H → va_D A (cModel cI cZ za z1 z2 z3 z4 z5 z6 z7 z8 z9 q24.2) → va_S A s.heap H locs → lv_has ls 3 [(0, .ref za), (1, .int x1_38), (2, .int x2_38)] → W p l e ({ frames := 6, cells := 0, slots := 0, locals := 135 } : Room) s m ([.ref za] : List Value).toArray below meth c H locs 0 0 Q (F0 m 100 ls []) := by
          intro x1_38 x2_38 H locs ls hf hP hD hS hl
          rw [k_m_isExact_38] at hf
          refine lv_iload_n hx hb dX7_isExact_100 rfl (lv_at hl 1 rfl) ?_
          obtain ⟨b101, hf⟩ := gd_some hf
          exact hret _ _ _ q24.2 _ _ hf (bz_or b101) dX7_isExact_101 hP hD hS
        have lh38 : ∀ (fu38 : Nat) (x1_38 : Int32) (x2_38 : Int32) (H : Heap) (locs : List Loc) (ls : Array Slot), lp_m_isExact_38 q24.2 (k_m_isExact_38 q24.2) fu38 x1_38 x2_38 = some (r, u) → va_P D vwCl (cModel cI cZ za z1 z2 z3 z4 z5 z6 z7 z8 z9 q24.2) H → va_D A (cModel cI cZ za z1 z2 z3 z4 z5 z6 z7 z8 z9 q24.2) → va_S A s.heap H locs → lv_has ls 3 [(0, .ref za), (1, .int x1_38), (2, .int x2_38)] → W p l e ({ frames := 6, cells := 0, slots := 0, locals := 135 } : Room) s m ([.ref za] : List Value).toArray below meth c H locs 0 0 Q (F0 m 38 ls []) := by
          intro fu38
          induction fu38 with
          | zero => intro x1_38 x2_38 H locs ls hf hP hD hS hl; exact no_none hf
          | succ fu38 ih38 =>
            intro x1_38 x2_38 H locs ls hf hP hD hS hl
            rw [lp_m_isExact_38] at hf
            refine lv_iload_n hx hb dX7_isExact_38 rfl (lv_at hl 2 rfl) ?_
            refine lv_aload_n hx hb dX7_isExact_39 rfl (lv_at hl 0 rfl) ?_
            refine va_get (D := D) (ci := 7) (v := .ref z1) (C := RX7) (T := TX7) (N := 17) hx hb hts inT7 hown hK hP 0 rfl rfl 0 (by decide) (hts _ mT_566) (fun _ h9 => h9) rfl dX7_isExact_40 ?_
            refine lv_iconst (v := 1) hx hb dX7_isExact_43 (by decide) ?_
            refine va_iald (n := 367) (f := q24.2 1) hx hb hK hP 1 0 rfl rfl (ck_in (by decide)) dX7_isExact_44 ?_
            refine lv_icmp_ge (tgt := 100) hx hb dX7_isExact_45 (by decide) (fun c45 => ?_) (fun c45 => ?_)
            · have hf := ite_t c45 hf
              exact kx38 x1_38 x2_38 _ _ _ hf hP hD hS (lv_sub hl [0, 1, 2] rfl)
            · have hf := ite_f c45 hf
              refine lv_iload_n hx hb dX7_isExact_48 rfl (lv_at hl 1 rfl) ?_
              refine lv_if_eq (tgt := 92) hx hb dX7_isExact_49 (by decide) (fun c49 => ?_) (fun c49 => ?_)
              · have hf := ite_t c49 hf
                refine lv_iconst (v := 0) hx hb dX7_isExact_92 (by decide) ?_
                refine lv_istore_n (lv' := [(1, .int 0), (0, .ref za), (2, .int x2_38)]) hx hb dX7_isExact_93 rfl hl (by decide) rfl (fun ls hl => ?_)
                refine lv_iinc (v := x2_38 + 1) (lv' := [(2, .int (x2_38 + 1)), (1, .int 0), (0, .ref za)]) hx hb dX7_isExact_94 hl (k := 2) rfl rfl (by decide) rfl (fun ls hl => ?_)
                refine lv_goto (tgt := 38) hx hb dX7_isExact_97 (by decide) ?_
                exact ih38 0 (x2_38 + 1) _ _ _ hf hP hD hS (lv_sub hl [2, 1, 0] rfl)
              · have hf := ite_f c49 hf
                refine lv_aload_n hx hb dX7_isExact_52 rfl (lv_at hl 0 rfl) ?_
                refine va_get (D := D) (ci := 7) (v := .ref z6) (C := RX7) (T := TX7) (N := 17) hx hb hts inT7 hown hK hP 0 rfl rfl 8 (by decide) (hts _ mT_574) (fun _ h9 => h9) rfl dX7_isExact_53 ?_
                refine lv_iload_n hx hb dX7_isExact_56 rfl (lv_at hl 2 rfl) ?_
                obtain ⟨b57, hf⟩ := gd_some hf
                refine va_iald (n := 20) (f := q24.2 6) hx hb hK hP 6 0 rfl rfl (ck_in b57) dX7_isExact_57 ?_
                refine lv_aload_n hx hb dX7_isExact_58 rfl (lv_at hl 0 rfl) ?_
                refine va_get (D := D) (ci := 7) (v := .ref z8) (C := RX7) (T := TX7) (N := 17) hx hb hts inT7 hown hK hP 0 rfl rfl 10 (by decide) (hts _ mT_576) (fun _ h9 => h9) rfl dX7_isExact_59 ?_
                refine lv_iload_n hx hb dX7_isExact_62 rfl (lv_at hl 2 rfl) ?_
                obtain ⟨b63, hf⟩ := gd_some hf
                refine va_iald (n := 20) (f := q24.2 8) hx hb hK hP 8 0 rfl rfl (ck_in b63) dX7_isExact_63 ?_
                refine lv_icmp_ne (tgt := 92) hx hb dX7_isExact_64 (by decide) (fun c64 => ?_) (fun c64 => ?_)
                · have hf := ite_f c64 hf
                  refine lv_iconst (v := 0) hx hb dX7_isExact_92 (by decide) ?_
                  refine lv_istore_n (lv' := [(1, .int 0), (0, .ref za), (2, .int x2_38)]) hx hb dX7_isExact_93 rfl hl (by decide) rfl (fun ls hl => ?_)
                  refine lv_iinc (v := x2_38 + 1) (lv' := [(2, .int (x2_38 + 1)), (1, .int 0), (0, .ref za)]) hx hb dX7_isExact_94 hl (k := 2) rfl rfl (by decide) rfl (fun ls hl => ?_)
                  refine lv_goto (tgt := 38) hx hb dX7_isExact_97 (by decide) ?_
                  exact ih38 0 (x2_38 + 1) _ _ _ hf hP hD hS (lv_sub hl [2, 1, 0] rfl)
                · have hf := ite_t c64 hf
                  refine lv_aload_n hx hb dX7_isExact_67 rfl (lv_at hl 0 rfl) ?_
                  refine va_get (D := D) (ci := 7) (v := .ref z6) (C := RX7) (T := TX7) (N := 17) hx hb hts inT7 hown hK hP 0 rfl rfl 8 (by decide) (hts _ mT_574) (fun _ h9 => h9) rfl dX7_isExact_68 ?_
                  refine lv_bipush (v := 10) hx hb dX7_isExact_71 (by decide) ?_
                  refine lv_iload_n hx hb dX7_isExact_73 rfl (lv_at hl 2 rfl) ?_
                  refine lv_iadd hx hb dX7_isExact_74 ?_
                  obtain ⟨b75, hf⟩ := gd_some hf
                  refine va_iald (n := 20) (f := q24.2 6) hx hb hK hP 6 0 rfl rfl (ck_in b75) dX7_isExact_75 ?_
                  refine lv_aload_n hx hb dX7_isExact_76 rfl (lv_at hl 0 rfl) ?_
                  refine va_get (D := D) (ci := 7) (v := .ref z8) (C := RX7) (T := TX7) (N := 17) hx hb hts inT7 hown hK hP 0 rfl rfl 10 (by decide) (hts _ mT_576) (fun _ h9 => h9) rfl dX7_isExact_77 ?_
                  refine lv_bipush (v := 10) hx hb dX7_isExact_80 (by decide) ?_
                  refine lv_iload_n hx hb dX7_isExact_82 rfl (lv_at hl 2 rfl) ?_
                  refine lv_iadd hx hb dX7_isExact_83 ?_
                  obtain ⟨b84, hf⟩ := gd_some hf
                  refine va_iald (n := 20) (f := q24.2 8) hx hb hK hP 8 0 rfl rfl (ck_in b84) dX7_isExact_84 ?_
                  refine lv_icmp_ne (tgt := 92) hx hb dX7_isExact_85 (by decide) (fun c85 => ?_) (fun c85 => ?_)
                  · have hf := ite_f c85 hf
                    refine lv_iconst (v := 0) hx hb dX7_isExact_92 (by decide) ?_
                    refine lv_istore_n (lv' := [(1, .int 0), (0, .ref za), (2, .int x2_38)]) hx hb dX7_isExact_93 rfl hl (by decide) rfl (fun ls hl => ?_)
                    refine lv_iinc (v := x2_38 + 1) (lv' := [(2, .int (x2_38 + 1)), (1, .int 0), (0, .ref za)]) hx hb dX7_isExact_94 hl (k := 2) rfl rfl (by decide) rfl (fun ls hl => ?_)
                    refine lv_goto (tgt := 38) hx hb dX7_isExact_97 (by decide) ?_
                    exact ih38 0 (x2_38 + 1) _ _ _ hf hP hD hS (lv_sub hl [2, 1, 0] rfl)
                  · have hf := ite_t c85 hf
                    refine lv_iconst (v := 1) hx hb dX7_isExact_88 (by decide) ?_
                    refine lv_goto (tgt := 93) hx hb dX7_isExact_89 (by decide) ?_
                    refine lv_istore_n (lv' := [(1, .int 1), (0, .ref za), (2, .int x2_38)]) hx hb dX7_isExact_93 rfl hl (by decide) rfl (fun ls hl => ?_)
                    refine lv_iinc (v := x2_38 + 1) (lv' := [(2, .int (x2_38 + 1)), (1, .int 1), (0, .ref za)]) hx hb dX7_isExact_94 hl (k := 2) rfl rfl (by decide) rfl (fun ls hl => ?_)
                    refine lv_goto (tgt := 38) hx hb dX7_isExact_97 (by decide) ?_
                    exact ih38 1 (x2_38 + 1) _ _ _ hf hP hD hS (lv_sub hl [2, 1, 0] rfl)
        exact lh38 10000 0 0 _ _ _ hf hP hD hS (lv_sub hl [2, 1, 0] rfl)
      · have hf := ite_f c27 hf
        refine lv_iconst (v := 1) hx hb dX7_isExact_30 (by decide) ?_
        refine lv_goto (tgt := 35) hx hb dX7_isExact_31 (by decide) ?_
        refine lv_istore_n (lv' := [(1, .int 1), (0, .ref za)]) hx hb dX7_isExact_35 rfl hl (by decide) rfl (fun ls hl => ?_)
        refine lv_iconst (v := 0) hx hb dX7_isExact_36 (by decide) ?_
        refine lv_istore_n (lv' := [(2, .int 0), (1, .int 1), (0, .ref za)]) hx hb dX7_isExact_37 rfl hl (by decide) rfl (fun ls hl => ?_)
        have kx38 : ∀ (x1_38 : Int32) (x2_38 : Int32) (H : Heap) (locs : List Loc) (ls : Array Slot), (k_m_isExact_38 q24.2) x1_38 x2_38 = some (r, u) → va_P D vwCl (cModel cI cZ za z1 z2 z3 z4 z5 z6 z7 z8 z9 q24.2) H → va_D A (cModel cI cZ za z1 z2 z3 z4 z5 z6 z7 z8 z9 q24.2) → va_S A s.heap H locs → lv_has ls 3 [(0, .ref za), (1, .int x1_38), (2, .int x2_38)] → W p l e ({ frames := 6, cells := 0, slots := 0, locals := 135 } : Room) s m ([.ref za] : List Value).toArray below meth c H locs 0 0 Q (F0 m 100 ls []) := by
          intro x1_38 x2_38 H locs ls hf hP hD hS hl
          rw [k_m_isExact_38] at hf
          refine lv_iload_n hx hb dX7_isExact_100 rfl (lv_at hl 1 rfl) ?_
          obtain ⟨b101, hf⟩ := gd_some hf
          exact hret _ _ _ q24.2 _ _ hf (bz_or b101) dX7_isExact_101 hP hD hS
        have lh38 : ∀ (fu38 : Nat) (x1_38 : Int32) (x2_38 : Int32) (H : Heap) (locs : List Loc) (ls : Array Slot), lp_m_isExact_38 q24.2 (k_m_isExact_38 q24.2) fu38 x1_38 x2_38 = some (r, u) → va_P D vwCl (cModel cI cZ za z1 z2 z3 z4 z5 z6 z7 z8 z9 q24.2) H → va_D A (cModel cI cZ za z1 z2 z3 z4 z5 z6 z7 z8 z9 q24.2) → va_S A s.heap H locs → lv_has ls 3 [(0, .ref za), (1, .int x1_38), (2, .int x2_38)] → W p l e ({ frames := 6, cells := 0, slots := 0, locals := 135 } : Room) s m ([.ref za] : List Value).toArray below meth c H locs 0 0 Q (F0 m 38 ls []) := by
          intro fu38
          induction fu38 with
          | zero => intro x1_38 x2_38 H locs ls hf hP hD hS hl; exact no_none hf
          | succ fu38 ih38 =>
            intro x1_38 x2_38 H locs ls hf hP hD hS hl
            rw [lp_m_isExact_38] at hf
            refine lv_iload_n hx hb dX7_isExact_38 rfl (lv_at hl 2 rfl) ?_
            refine lv_aload_n hx hb dX7_isExact_39 rfl (lv_at hl 0 rfl) ?_
            refine va_get (D := D) (ci := 7) (v := .ref z1) (C := RX7) (T := TX7) (N := 17) hx hb hts inT7 hown hK hP 0 rfl rfl 0 (by decide) (hts _ mT_566) (fun _ h9 => h9) rfl dX7_isExact_40 ?_
            refine lv_iconst (v := 1) hx hb dX7_isExact_43 (by decide) ?_
            refine va_iald (n := 367) (f := q24.2 1) hx hb hK hP 1 0 rfl rfl (ck_in (by decide)) dX7_isExact_44 ?_
            refine lv_icmp_ge (tgt := 100) hx hb dX7_isExact_45 (by decide) (fun c45 => ?_) (fun c45 => ?_)
            · have hf := ite_t c45 hf
              exact kx38 x1_38 x2_38 _ _ _ hf hP hD hS (lv_sub hl [0, 1, 2] rfl)
            · have hf := ite_f c45 hf
              refine lv_iload_n hx hb dX7_isExact_48 rfl (lv_at hl 1 rfl) ?_
              refine lv_if_eq (tgt := 92) hx hb dX7_isExact_49 (by decide) (fun c49 => ?_) (fun c49 => ?_)
              · have hf := ite_t c49 hf
                refine lv_iconst (v := 0) hx hb dX7_isExact_92 (by decide) ?_
                refine lv_istore_n (lv' := [(1, .int 0), (0, .ref za), (2, .int x2_38)]) hx hb dX7_isExact_93 rfl hl (by decide) rfl (fun ls hl => ?_)
                refine lv_iinc (v := x2_38 + 1) (lv' := [(2, .int (x2_38 + 1)), (1, .int 0), (0, .ref za)]) hx hb dX7_isExact_94 hl (k := 2) rfl rfl (by decide) rfl (fun ls hl => ?_)
                refine lv_goto (tgt := 38) hx hb dX7_isExact_97 (by decide) ?_
                exact ih38 0 (x2_38 + 1) _ _ _ hf hP hD hS (lv_sub hl [2, 1, 0] rfl)
              · have hf := ite_f c49 hf
                refine lv_aload_n hx hb dX7_isExact_52 rfl (lv_at hl 0 rfl) ?_
                refine va_get (D := D) (ci := 7) (v := .ref z6) (C := RX7) (T := TX7) (N := 17) hx hb hts inT7 hown hK hP 0 rfl rfl 8 (by decide) (hts _ mT_574) (fun _ h9 => h9) rfl dX7_isExact_53 ?_
                refine lv_iload_n hx hb dX7_isExact_56 rfl (lv_at hl 2 rfl) ?_
                obtain ⟨b57, hf⟩ := gd_some hf
                refine va_iald (n := 20) (f := q24.2 6) hx hb hK hP 6 0 rfl rfl (ck_in b57) dX7_isExact_57 ?_
                refine lv_aload_n hx hb dX7_isExact_58 rfl (lv_at hl 0 rfl) ?_
                refine va_get (D := D) (ci := 7) (v := .ref z8) (C := RX7) (T := TX7) (N := 17) hx hb hts inT7 hown hK hP 0 rfl rfl 10 (by decide) (hts _ mT_576) (fun _ h9 => h9) rfl dX7_isExact_59 ?_
                refine lv_iload_n hx hb dX7_isExact_62 rfl (lv_at hl 2 rfl) ?_
                obtain ⟨b63, hf⟩ := gd_some hf
                refine va_iald (n := 20) (f := q24.2 8) hx hb hK hP 8 0 rfl rfl (ck_in b63) dX7_isExact_63 ?_
                refine lv_icmp_ne (tgt := 92) hx hb dX7_isExact_64 (by decide) (fun c64 => ?_) (fun c64 => ?_)
                · have hf := ite_f c64 hf
                  refine lv_iconst (v := 0) hx hb dX7_isExact_92 (by decide) ?_
                  refine lv_istore_n (lv' := [(1, .int 0), (0, .ref za), (2, .int x2_38)]) hx hb dX7_isExact_93 rfl hl (by decide) rfl (fun ls hl => ?_)
                  refine lv_iinc (v := x2_38 + 1) (lv' := [(2, .int (x2_38 + 1)), (1, .int 0), (0, .ref za)]) hx hb dX7_isExact_94 hl (k := 2) rfl rfl (by decide) rfl (fun ls hl => ?_)
                  refine lv_goto (tgt := 38) hx hb dX7_isExact_97 (by decide) ?_
                  exact ih38 0 (x2_38 + 1) _ _ _ hf hP hD hS (lv_sub hl [2, 1, 0] rfl)
                · have hf := ite_t c64 hf
                  refine lv_aload_n hx hb dX7_isExact_67 rfl (lv_at hl 0 rfl) ?_
                  refine va_get (D := D) (ci := 7) (v := .ref z6) (C := RX7) (T := TX7) (N := 17) hx hb hts inT7 hown hK hP 0 rfl rfl 8 (by decide) (hts _ mT_574) (fun _ h9 => h9) rfl dX7_isExact_68 ?_
                  refine lv_bipush (v := 10) hx hb dX7_isExact_71 (by decide) ?_
                  refine lv_iload_n hx hb dX7_isExact_73 rfl (lv_at hl 2 rfl) ?_
                  refine lv_iadd hx hb dX7_isExact_74 ?_
                  obtain ⟨b75, hf⟩ := gd_some hf
                  refine va_iald (n := 20) (f := q24.2 6) hx hb hK hP 6 0 rfl rfl (ck_in b75) dX7_isExact_75 ?_
                  refine lv_aload_n hx hb dX7_isExact_76 rfl (lv_at hl 0 rfl) ?_
                  refine va_get (D := D) (ci := 7) (v := .ref z8) (C := RX7) (T := TX7) (N := 17) hx hb hts inT7 hown hK hP 0 rfl rfl 10 (by decide) (hts _ mT_576) (fun _ h9 => h9) rfl dX7_isExact_77 ?_
                  refine lv_bipush (v := 10) hx hb dX7_isExact_80 (by decide) ?_
                  refine lv_iload_n hx hb dX7_isExact_82 rfl (lv_at hl 2 rfl) ?_
                  refine lv_iadd hx hb dX7_isExact_83 ?_
                  obtain ⟨b84, hf⟩ := gd_some hf
                  refine va_iald (n := 20) (f := q24.2 8) hx hb hK hP 8 0 rfl rfl (ck_in b84) dX7_isExact_84 ?_
                  refine lv_icmp_ne (tgt := 92) hx hb dX7_isExact_85 (by decide) (fun c85 => ?_) (fun c85 => ?_)
                  · have hf := ite_f c85 hf
                    refine lv_iconst (v := 0) hx hb dX7_isExact_92 (by decide) ?_
                    refine lv_istore_n (lv' := [(1, .int 0), (0, .ref za), (2, .int x2_38)]) hx hb dX7_isExact_93 rfl hl (by decide) rfl (fun ls hl => ?_)
                    refine lv_iinc (v := x2_38 + 1) (lv' := [(2, .int (x2_38 + 1)), (1, .int 0), (0, .ref za)]) hx hb dX7_isExact_94 hl (k := 2) rfl rfl (by decide) rfl (fun ls hl => ?_)
                    refine lv_goto (tgt := 38) hx hb dX7_isExact_97 (by decide) ?_
                    exact ih38 0 (x2_38 + 1) _ _ _ hf hP hD hS (lv_sub hl [2, 1, 0] rfl)
                  · have hf := ite_t c85 hf
                    refine lv_iconst (v := 1) hx hb dX7_isExact_88 (by decide) ?_
                    refine lv_goto (tgt := 93) hx hb dX7_isExact_89 (by decide) ?_
                    refine lv_istore_n (lv' := [(1, .int 1), (0, .ref za), (2, .int x2_38)]) hx hb dX7_isExact_93 rfl hl (by decide) rfl (fun ls hl => ?_)
                    refine lv_iinc (v := x2_38 + 1) (lv' := [(2, .int (x2_38 + 1)), (1, .int 1), (0, .ref za)]) hx hb dX7_isExact_94 hl (k := 2) rfl rfl (by decide) rfl (fun ls hl => ?_)
                    refine lv_goto (tgt := 38) hx hb dX7_isExact_97 (by decide) ?_
                    exact ih38 1 (x2_38 + 1) _ _ _ hf hP hD hS (lv_sub hl [2, 1, 0] rfl)
        exact lh38 10000 1 0 _ _ _ hf hP hD hS (lv_sub hl [2, 1, 0] rfl)
    · have hf := ite_f c12 hf
      refine lv_iconst (v := 0) hx hb dX7_isExact_15 (by decide) ?_
      exact hret _ _ _ q8.2 _ _ hf (Or.inl rfl) dX7_isExact_16 hP hD hS
theorem s_yX7_wrong : kMS yX7_wrong cX7_wrong 4 (some .int) 0 := ⟨mT_714, mT_59, by decide +kernel⟩
theorem v_yX7_wrong : kMV yX7_wrong := ⟨mT_713, mT_40⟩
def k_m_wrong_28 (z : Ob) (x2_28 : Int32) : Option (Int32 × Ob) := some ((-1), z)
def lp_m_wrong_28 (z : Ob) (kk0 : Int32 → Option (Int32 × Ob)) : Nat → Int32 → Option (Int32 × Ob)
  | 0, _ => none
  | fu28 + 1, x2_28 => if (z 0 7) ≤ x2_28 then (kk0 x2_28) else (gd (ck (3 * x2_28) 60) (some (x2_28, z)))
def lp_m_wrong_28_v1 (z : Ob) (kk0 : Int32 → Option (Int32 × Ob)) : Nat → Int32 → Option (Int32 × Ob)
  | 0, _ => none
  | fu28 + 1, x2_28 => if (z 0 7) ≤ x2_28 then (kk0 x2_28) else (gd (ck (3 * x2_28) 60) (bd (f_m_isPlace z ((z 5) (Int32.toNatClampNeg (3 * x2_28)))) (fun q51 => if q51 = 0 then (some (x2_28, z)) else (gd (ck ((z 5) (Int32.toNatClampNeg (3 * x2_28))) 20) (gd (ck ((3 * x2_28) + 1) 60) (if ((z 6) (Int32.toNatClampNeg ((z 5) (Int32.toNatClampNeg (3 * x2_28))))) = ((z 5) (Int32.toNatClampNeg ((3 * x2_28) + 1))) then (gd (ck (10 + ((z 5) (Int32.toNatClampNeg (3 * x2_28)))) 20) (gd (ck ((3 * x2_28) + 2) 60) (if ((z 6) (Int32.toNatClampNeg (10 + ((z 5) (Int32.toNatClampNeg (3 * x2_28)))))) = ((z 5) (Int32.toNatClampNeg ((3 * x2_28) + 2))) then ((lp_m_wrong_28_v1 z kk0 fu28) (x2_28 + 1)) else (some (x2_28, z))))) else (some (x2_28, z))))))))
def f_m_wrong (z : Ob) : Option (Int32 × Ob) := bd (f_m_isWell z) (fun q1 => if q1 = 0 then (lp_m_wrong_28 z (k_m_wrong_28 z) 10000 0) else (bd (f_m_works 6 z 0 (-1)) (fun q14 => if q14.1 < 0 then (lp_m_wrong_28 q14.2 (k_m_wrong_28 q14.2) 10000 0) else (lp_m_wrong_28_v1 q14.2 (k_m_wrong_28 q14.2) 10000 0))))
set_option maxHeartbeats 4000000 in
set_option maxRecDepth 100000 in
theorem c_m_wrong (l : Launch) (D : va_G) (cI cZ cR : ClassId) (za z1 z2 z3 z4 z5 z6 z7 z8 z9 : Nat) (z : Ob) (sz : Nat) (r : Int32) (u : Ob) (hf : f_m_wrong z = some (r, u)) : kCi l yX7_wrong cX7_wrong 4 (some .int) { frames := 5, cells := 0, slots := 0, locals := 118 } [.ref za] D cI cZ cR (cModel cI cZ za z1 z2 z3 z4 z5 z6 z7 z8 z9 z) sz (cModel cI cZ za z1 z2 z3 z4 z5 z6 z7 z8 z9 u) r := by
  refine kMwi (wf := (fun u : Ob => cModel cI cZ za z1 z2 z3 z4 z5 z6 z7 z8 z9 u)) (u := u) (by decide) (Nat.le_of_ble_eq_true rfl) ?_
  intro p e s m below meth c Q A hx hb hml hown hts hk hP hD hA hS hret ls hl
  have hS0 := hS
  have hK := hk.1
  have hl : lv_has ls 4 [(0, .ref za)] := hl
  rw [f_m_wrong] at hf
  refine lv_aload_n hx hb dX7_wrong_0 rfl (lv_at hl 0 rfl) ?_
  obtain ⟨q1, h1, hf⟩ := bd_some hf
  refine kx_rv (As := []) (rest := []) hx hb hml hown hts hk hP hl.1 s_yX7_isWell v_yX7_isWell (c_m_isWell l D cI cZ cR za z1 z2 z3 z4 z5 z6 z7 z8 z9 z _ h1) mT_651 rfl rfl ⟨Nat.le_of_ble_eq_true rfl, Nat.le_of_ble_eq_true rfl⟩ (ci := 7) (q0 := 0) rfl rfl rfl (Nat.le_of_ble_eq_true rfl) ⟨Nat.zero_le _, Nat.zero_le _⟩ dX7_wrong_1 ?_
  refine lv_if_eq (tgt := 24) hx hb dX7_wrong_4 (by decide) (fun c4 => ?_) (fun c4 => ?_)
  · have hf := ite_t c4 hf
    refine lv_iconst (v := 0) hx hb dX7_wrong_24 (by decide) ?_
    refine lv_istore_n (lv' := [(1, .int 0), (0, .ref za)]) hx hb dX7_wrong_25 rfl hl (by decide) rfl (fun ls hl => ?_)
    refine lv_iconst (v := 0) hx hb dX7_wrong_26 (by decide) ?_
    refine lv_istore_n (lv' := [(2, .int 0), (1, .int 0), (0, .ref za)]) hx hb dX7_wrong_27 rfl hl (by decide) rfl (fun ls hl => ?_)
    have kx28 : ∀ (x2_28 : Int32) (H : Heap) (locs : List Loc) (ls : Array Slot), (k_m_wrong_28 z) x2_28 = some (r, u) → va_P D vwCl (cModel cI cZ za z1 z2 z3 z4 z5 z6 z7 z8 z9 z) H → va_D A (cModel cI cZ za z1 z2 z3 z4 z5 z6 z7 z8 z9 z) → va_S A s.heap H locs → lv_has ls 4 [(0, .ref za), (1, .int 0), (2, .int x2_28)] → W p l e ({ frames := 5, cells := 0, slots := 0, locals := 118 } : Room) s m ([.ref za] : List Value).toArray below meth c H locs 0 0 Q (F0 m 106 ls []) := by
      intro x2_28 H locs ls hf hP hD hS hl
      rw [k_m_wrong_28] at hf
      refine lv_iconst (v := (-1)) hx hb dX7_wrong_106 (by decide) ?_
      exact hret _ _ _ z _ _ hf dX7_wrong_107 hP hD hS
    have lh28 : ∀ (fu28 : Nat) (x2_28 : Int32) (H : Heap) (locs : List Loc) (ls : Array Slot), lp_m_wrong_28 z (k_m_wrong_28 z) fu28 x2_28 = some (r, u) → va_P D vwCl (cModel cI cZ za z1 z2 z3 z4 z5 z6 z7 z8 z9 z) H → va_D A (cModel cI cZ za z1 z2 z3 z4 z5 z6 z7 z8 z9 z) → va_S A s.heap H locs → lv_has ls 4 [(0, .ref za), (1, .int 0), (2, .int x2_28)] → W p l e ({ frames := 5, cells := 0, slots := 0, locals := 118 } : Room) s m ([.ref za] : List Value).toArray below meth c H locs 0 0 Q (F0 m 28 ls []) := by
      intro fu28
      induction fu28 with
      | zero => intro x2_28 H locs ls hf hP hD hS hl; exact no_none hf
      | succ fu28 ih28 =>
        intro x2_28 H locs ls hf hP hD hS hl
        rw [lp_m_wrong_28] at hf
        refine lv_iload_n hx hb dX7_wrong_28 rfl (lv_at hl 2 rfl) ?_
        refine lv_aload_n hx hb dX7_wrong_29 rfl (lv_at hl 0 rfl) ?_
        refine va_get (D := D) (ci := 7) (v := .int (z 0 7)) (C := RX7) (T := TX7) (N := 17) hx hb hts inT7 hown hK hP 0 rfl rfl 7 (by decide) (hts _ mT_573) (fun _ h9 => h9) rfl dX7_wrong_30 ?_
        refine lv_icmp_ge (tgt := 106) hx hb dX7_wrong_33 (by decide) (fun c33 => ?_) (fun c33 => ?_)
        · have hf := ite_t c33 hf
          exact kx28 x2_28 _ _ _ hf hP hD hS (lv_sub hl [0, 1, 2] rfl)
        · have hf := ite_f c33 hf
          refine lv_aload_n hx hb dX7_wrong_36 rfl (lv_at hl 0 rfl) ?_
          refine va_get (D := D) (ci := 7) (v := .ref z5) (C := RX7) (T := TX7) (N := 17) hx hb hts inT7 hown hK hP 0 rfl rfl 6 (by decide) (hts _ mT_572) (fun _ h9 => h9) rfl dX7_wrong_37 ?_
          refine lv_iconst (v := 3) hx hb dX7_wrong_40 (by decide) ?_
          refine lv_iload_n hx hb dX7_wrong_41 rfl (lv_at hl 2 rfl) ?_
          refine lv_imul hx hb dX7_wrong_42 ?_
          obtain ⟨b43, hf⟩ := gd_some hf
          refine va_iald (n := 60) (f := z 5) hx hb hK hP 5 0 rfl rfl (ck_in b43) dX7_wrong_43 ?_
          refine lv_istore_n (lv' := [(3, .int ((z 5) (Int32.toNatClampNeg (3 * x2_28)))), (0, .ref za), (1, .int 0), (2, .int x2_28)]) hx hb dX7_wrong_44 rfl hl (by decide) rfl (fun ls hl => ?_)
          refine lv_iload_n hx hb dX7_wrong_45 rfl (lv_at hl 2 rfl) ?_
          refine lv_if_eq (tgt := 98) hx hb dX7_wrong_46 (by decide) (fun c46 => ?_) (fun c46 => absurd (show (0 : Int32) = 0 from by decide) c46)
          refine lv_iload_n hx hb dX7_wrong_98 rfl (lv_at hl 3 rfl) ?_
          exact hret _ _ _ z _ _ hf dX7_wrong_99 hP hD hS
    exact lh28 10000 0 _ _ _ hf hP hD hS (lv_sub hl [2, 1, 0] rfl)
  · have hf := ite_f c4 hf
    refine lv_aload_n hx hb dX7_wrong_7 rfl (lv_at hl 0 rfl) ?_
    refine lv_aload_n hx hb dX7_wrong_8 rfl (lv_at hl 0 rfl) ?_
    refine va_get (D := D) (ci := 7) (v := .ref z6) (C := RX7) (T := TX7) (N := 17) hx hb hts inT7 hown hK hP 0 rfl rfl 8 (by decide) (hts _ mT_574) (fun _ h9 => h9) rfl dX7_wrong_9 ?_
    refine lv_iconst (v := 0) hx hb dX7_wrong_12 (by decide) ?_
    refine lv_iconst (v := (-1)) hx hb dX7_wrong_13 (by decide) ?_
    obtain ⟨q14, h14, hf⟩ := bd_some hf
    refine kx_wi (As := [.ref z6, .int 0, .int (-1)]) (rest := []) (wc := cModel cI cZ za z1 z2 z3 z4 z5 z6 z7 z8 z9 z) (wr := []) (wd := cModel cI cZ za z1 z2 z3 z4 z5 z6 z7 z8 z9 q14.2) (wn := cModel cI cZ za z1 z2 z3 z4 z5 z6 z7 z8 z9 q14.2) hx hb hml hown hts hk hP hD hS hA hl.1 s_yX7_works v_yX7_works (c_m_works6 l D cI cZ cR za z1 z2 z3 z4 z5 z6 z7 z8 z9 z 0 (-1) s.heap.size _ _ h14) mT_691 rfl rfl ⟨Nat.le_of_ble_eq_true rfl, Nat.le_of_ble_eq_true rfl⟩ [0, 1, 2, 3, 4, 5, 6, 7, 8, 9] [] [0, 1, 2, 3, 4, 5, 6, 7, 8, 9] rfl rfl (by decide) (by decide) (by decide) (by decide) rfl (ci := 7) (q0 := 0) rfl rfl rfl (Nat.le_of_ble_eq_true rfl) ⟨Nat.zero_le _, Nat.zero_le _⟩ dX7_wrong_14 (fun H locs hP hD hS => ?_)
    refine lv_if_lt (tgt := 24) hx hb dX7_wrong_17 (by decide) (fun c17 => ?_) (fun c17 => ?_)
    · have hf := ite_t c17 hf
      refine lv_iconst (v := 0) hx hb dX7_wrong_24 (by decide) ?_
      refine lv_istore_n (lv' := [(1, .int 0), (0, .ref za)]) hx hb dX7_wrong_25 rfl hl (by decide) rfl (fun ls hl => ?_)
      refine lv_iconst (v := 0) hx hb dX7_wrong_26 (by decide) ?_
      refine lv_istore_n (lv' := [(2, .int 0), (1, .int 0), (0, .ref za)]) hx hb dX7_wrong_27 rfl hl (by decide) rfl (fun ls hl => ?_)
      have kx28 : ∀ (x2_28 : Int32) (H : Heap) (locs : List Loc) (ls : Array Slot), (k_m_wrong_28 q14.2) x2_28 = some (r, u) → va_P D vwCl (cModel cI cZ za z1 z2 z3 z4 z5 z6 z7 z8 z9 q14.2) H → va_D A (cModel cI cZ za z1 z2 z3 z4 z5 z6 z7 z8 z9 q14.2) → va_S A s.heap H locs → lv_has ls 4 [(0, .ref za), (1, .int 0), (2, .int x2_28)] → W p l e ({ frames := 5, cells := 0, slots := 0, locals := 118 } : Room) s m ([.ref za] : List Value).toArray below meth c H locs 0 0 Q (F0 m 106 ls []) := by
        intro x2_28 H locs ls hf hP hD hS hl
        rw [k_m_wrong_28] at hf
        refine lv_iconst (v := (-1)) hx hb dX7_wrong_106 (by decide) ?_
        exact hret _ _ _ q14.2 _ _ hf dX7_wrong_107 hP hD hS
      have lh28 : ∀ (fu28 : Nat) (x2_28 : Int32) (H : Heap) (locs : List Loc) (ls : Array Slot), lp_m_wrong_28 q14.2 (k_m_wrong_28 q14.2) fu28 x2_28 = some (r, u) → va_P D vwCl (cModel cI cZ za z1 z2 z3 z4 z5 z6 z7 z8 z9 q14.2) H → va_D A (cModel cI cZ za z1 z2 z3 z4 z5 z6 z7 z8 z9 q14.2) → va_S A s.heap H locs → lv_has ls 4 [(0, .ref za), (1, .int 0), (2, .int x2_28)] → W p l e ({ frames := 5, cells := 0, slots := 0, locals := 118 } : Room) s m ([.ref za] : List Value).toArray below meth c H locs 0 0 Q (F0 m 28 ls []) := by
        intro fu28
        induction fu28 with
        | zero => intro x2_28 H locs ls hf hP hD hS hl; exact no_none hf
        | succ fu28 ih28 =>
          intro x2_28 H locs ls hf hP hD hS hl
          rw [lp_m_wrong_28] at hf
          refine lv_iload_n hx hb dX7_wrong_28 rfl (lv_at hl 2 rfl) ?_
          refine lv_aload_n hx hb dX7_wrong_29 rfl (lv_at hl 0 rfl) ?_
          refine va_get (D := D) (ci := 7) (v := .int (q14.2 0 7)) (C := RX7) (T := TX7) (N := 17) hx hb hts inT7 hown hK hP 0 rfl rfl 7 (by decide) (hts _ mT_573) (fun _ h9 => h9) rfl dX7_wrong_30 ?_
          refine lv_icmp_ge (tgt := 106) hx hb dX7_wrong_33 (by decide) (fun c33 => ?_) (fun c33 => ?_)
          · have hf := ite_t c33 hf
            exact kx28 x2_28 _ _ _ hf hP hD hS (lv_sub hl [0, 1, 2] rfl)
          · have hf := ite_f c33 hf
            refine lv_aload_n hx hb dX7_wrong_36 rfl (lv_at hl 0 rfl) ?_
            refine va_get (D := D) (ci := 7) (v := .ref z5) (C := RX7) (T := TX7) (N := 17) hx hb hts inT7 hown hK hP 0 rfl rfl 6 (by decide) (hts _ mT_572) (fun _ h9 => h9) rfl dX7_wrong_37 ?_
            refine lv_iconst (v := 3) hx hb dX7_wrong_40 (by decide) ?_
            refine lv_iload_n hx hb dX7_wrong_41 rfl (lv_at hl 2 rfl) ?_
            refine lv_imul hx hb dX7_wrong_42 ?_
            obtain ⟨b43, hf⟩ := gd_some hf
            refine va_iald (n := 60) (f := q14.2 5) hx hb hK hP 5 0 rfl rfl (ck_in b43) dX7_wrong_43 ?_
            refine lv_istore_n (lv' := [(3, .int ((q14.2 5) (Int32.toNatClampNeg (3 * x2_28)))), (0, .ref za), (1, .int 0), (2, .int x2_28)]) hx hb dX7_wrong_44 rfl hl (by decide) rfl (fun ls hl => ?_)
            refine lv_iload_n hx hb dX7_wrong_45 rfl (lv_at hl 2 rfl) ?_
            refine lv_if_eq (tgt := 98) hx hb dX7_wrong_46 (by decide) (fun c46 => ?_) (fun c46 => absurd (show (0 : Int32) = 0 from by decide) c46)
            refine lv_iload_n hx hb dX7_wrong_98 rfl (lv_at hl 3 rfl) ?_
            exact hret _ _ _ q14.2 _ _ hf dX7_wrong_99 hP hD hS
      exact lh28 10000 0 _ _ _ hf hP hD hS (lv_sub hl [2, 1, 0] rfl)
    · have hf := ite_f c17 hf
      refine lv_iconst (v := 1) hx hb dX7_wrong_20 (by decide) ?_
      refine lv_goto (tgt := 25) hx hb dX7_wrong_21 (by decide) ?_
      refine lv_istore_n (lv' := [(1, .int 1), (0, .ref za)]) hx hb dX7_wrong_25 rfl hl (by decide) rfl (fun ls hl => ?_)
      refine lv_iconst (v := 0) hx hb dX7_wrong_26 (by decide) ?_
      refine lv_istore_n (lv' := [(2, .int 0), (1, .int 1), (0, .ref za)]) hx hb dX7_wrong_27 rfl hl (by decide) rfl (fun ls hl => ?_)
      have kx28 : ∀ (x2_28 : Int32) (H : Heap) (locs : List Loc) (ls : Array Slot), (k_m_wrong_28 q14.2) x2_28 = some (r, u) → va_P D vwCl (cModel cI cZ za z1 z2 z3 z4 z5 z6 z7 z8 z9 q14.2) H → va_D A (cModel cI cZ za z1 z2 z3 z4 z5 z6 z7 z8 z9 q14.2) → va_S A s.heap H locs → lv_has ls 4 [(0, .ref za), (1, .int 1), (2, .int x2_28)] → W p l e ({ frames := 5, cells := 0, slots := 0, locals := 118 } : Room) s m ([.ref za] : List Value).toArray below meth c H locs 0 0 Q (F0 m 106 ls []) := by
        intro x2_28 H locs ls hf hP hD hS hl
        rw [k_m_wrong_28] at hf
        refine lv_iconst (v := (-1)) hx hb dX7_wrong_106 (by decide) ?_
        exact hret _ _ _ q14.2 _ _ hf dX7_wrong_107 hP hD hS
      have lh28 : ∀ (fu28 : Nat) (x2_28 : Int32) (H : Heap) (locs : List Loc) (ls : Array Slot), lp_m_wrong_28_v1 q14.2 (k_m_wrong_28 q14.2) fu28 x2_28 = some (r, u) → va_P D vwCl (cModel cI cZ za z1 z2 z3 z4 z5 z6 z7 z8 z9 q14.2) H → va_D A (cModel cI cZ za z1 z2 z3 z4 z5 z6 z7 z8 z9 q14.2) → va_S A s.heap H locs → lv_has ls 4 [(0, .ref za), (1, .int 1), (2, .int x2_28)] → W p l e ({ frames := 5, cells := 0, slots := 0, locals := 118 } : Room) s m ([.ref za] : List Value).toArray below meth c H locs 0 0 Q (F0 m 28 ls []) := by
        intro fu28
        induction fu28 with
        | zero => intro x2_28 H locs ls hf hP hD hS hl; exact no_none hf
        | succ fu28 ih28 =>
          intro x2_28 H locs ls hf hP hD hS hl
          rw [lp_m_wrong_28_v1] at hf
          refine lv_iload_n hx hb dX7_wrong_28 rfl (lv_at hl 2 rfl) ?_
          refine lv_aload_n hx hb dX7_wrong_29 rfl (lv_at hl 0 rfl) ?_
          refine va_get (D := D) (ci := 7) (v := .int (q14.2 0 7)) (C := RX7) (T := TX7) (N := 17) hx hb hts inT7 hown hK hP 0 rfl rfl 7 (by decide) (hts _ mT_573) (fun _ h9 => h9) rfl dX7_wrong_30 ?_
          refine lv_icmp_ge (tgt := 106) hx hb dX7_wrong_33 (by decide) (fun c33 => ?_) (fun c33 => ?_)
          · have hf := ite_t c33 hf
            exact kx28 x2_28 _ _ _ hf hP hD hS (lv_sub hl [0, 1, 2] rfl)
          · have hf := ite_f c33 hf
            refine lv_aload_n hx hb dX7_wrong_36 rfl (lv_at hl 0 rfl) ?_
            refine va_get (D := D) (ci := 7) (v := .ref z5) (C := RX7) (T := TX7) (N := 17) hx hb hts inT7 hown hK hP 0 rfl rfl 6 (by decide) (hts _ mT_572) (fun _ h9 => h9) rfl dX7_wrong_37 ?_
            refine lv_iconst (v := 3) hx hb dX7_wrong_40 (by decide) ?_
            refine lv_iload_n hx hb dX7_wrong_41 rfl (lv_at hl 2 rfl) ?_
            refine lv_imul hx hb dX7_wrong_42 ?_
            obtain ⟨b43, hf⟩ := gd_some hf
            refine va_iald (n := 60) (f := q14.2 5) hx hb hK hP 5 0 rfl rfl (ck_in b43) dX7_wrong_43 ?_
            refine lv_istore_n (lv' := [(3, .int ((q14.2 5) (Int32.toNatClampNeg (3 * x2_28)))), (0, .ref za), (1, .int 1), (2, .int x2_28)]) hx hb dX7_wrong_44 rfl hl (by decide) rfl (fun ls hl => ?_)
            refine lv_iload_n hx hb dX7_wrong_45 rfl (lv_at hl 2 rfl) ?_
            refine lv_if_eq (tgt := 98) hx hb dX7_wrong_46 (by decide) (fun c46 => absurd c46 (by decide)) (fun c46 => ?_)
            refine lv_aload_n hx hb dX7_wrong_49 rfl (lv_at hl 1 rfl) ?_
            refine lv_iload_n hx hb dX7_wrong_50 rfl (lv_at hl 0 rfl) ?_
            obtain ⟨q51, h51, hf⟩ := bd_some hf
            refine kx_rv (As := [.int ((q14.2 5) (Int32.toNatClampNeg (3 * x2_28)))]) (rest := []) hx hb hml hown hts hk hP hl.1 s_yX7_isPlace v_yX7_isPlace (c_m_isPlace l D cI cZ cR za z1 z2 z3 z4 z5 z6 z7 z8 z9 q14.2 ((q14.2 5) (Int32.toNatClampNeg (3 * x2_28))) _ h51) mT_715 rfl rfl ⟨Nat.le_of_ble_eq_true rfl, Nat.le_of_ble_eq_true rfl⟩ (ci := 7) (q0 := 0) rfl rfl rfl (Nat.le_of_ble_eq_true rfl) ⟨Nat.zero_le _, Nat.zero_le _⟩ dX7_wrong_51 ?_
            refine lv_if_eq (tgt := 98) hx hb dX7_wrong_54 (by decide) (fun c54 => ?_) (fun c54 => ?_)
            · have hf := ite_t c54 hf
              refine lv_iload_n hx hb dX7_wrong_98 rfl (lv_at hl 3 rfl) ?_
              exact hret _ _ _ q14.2 _ _ hf dX7_wrong_99 hP hD hS
            · have hf := ite_f c54 hf
              refine lv_aload_n hx hb dX7_wrong_57 rfl (lv_at hl 1 rfl) ?_
              refine va_get (D := D) (ci := 7) (v := .ref z6) (C := RX7) (T := TX7) (N := 17) hx hb hts inT7 hown hK hP 0 rfl rfl 8 (by decide) (hts _ mT_574) (fun _ h9 => h9) rfl dX7_wrong_58 ?_
              refine lv_iload_n hx hb dX7_wrong_61 rfl (lv_at hl 0 rfl) ?_
              obtain ⟨b62, hf⟩ := gd_some hf
              refine va_iald (n := 20) (f := q14.2 6) hx hb hK hP 6 0 rfl rfl (ck_in b62) dX7_wrong_62 ?_
              refine lv_aload_n hx hb dX7_wrong_63 rfl (lv_at hl 1 rfl) ?_
              refine va_get (D := D) (ci := 7) (v := .ref z5) (C := RX7) (T := TX7) (N := 17) hx hb hts inT7 hown hK hP 0 rfl rfl 6 (by decide) (hts _ mT_572) (fun _ h9 => h9) rfl dX7_wrong_64 ?_
              refine lv_iconst (v := 3) hx hb dX7_wrong_67 (by decide) ?_
              refine lv_iload_n hx hb dX7_wrong_68 rfl (lv_at hl 3 rfl) ?_
              refine lv_imul hx hb dX7_wrong_69 ?_
              refine lv_iconst (v := 1) hx hb dX7_wrong_70 (by decide) ?_
              refine lv_iadd hx hb dX7_wrong_71 ?_
              obtain ⟨b72, hf⟩ := gd_some hf
              refine va_iald (n := 60) (f := q14.2 5) hx hb hK hP 5 0 rfl rfl (ck_in b72) dX7_wrong_72 ?_
              refine lv_icmp_ne (tgt := 98) hx hb dX7_wrong_73 (by decide) (fun c73 => ?_) (fun c73 => ?_)
              · have hf := ite_f c73 hf
                refine lv_iload_n hx hb dX7_wrong_98 rfl (lv_at hl 3 rfl) ?_
                exact hret _ _ _ q14.2 _ _ hf dX7_wrong_99 hP hD hS
              · have hf := ite_t c73 hf
                refine lv_aload_n hx hb dX7_wrong_76 rfl (lv_at hl 1 rfl) ?_
                refine va_get (D := D) (ci := 7) (v := .ref z6) (C := RX7) (T := TX7) (N := 17) hx hb hts inT7 hown hK hP 0 rfl rfl 8 (by decide) (hts _ mT_574) (fun _ h9 => h9) rfl dX7_wrong_77 ?_
                refine lv_bipush (v := 10) hx hb dX7_wrong_80 (by decide) ?_
                refine lv_iload_n hx hb dX7_wrong_82 rfl (lv_at hl 0 rfl) ?_
                refine lv_iadd hx hb dX7_wrong_83 ?_
                obtain ⟨b84, hf⟩ := gd_some hf
                refine va_iald (n := 20) (f := q14.2 6) hx hb hK hP 6 0 rfl rfl (ck_in b84) dX7_wrong_84 ?_
                refine lv_aload_n hx hb dX7_wrong_85 rfl (lv_at hl 1 rfl) ?_
                refine va_get (D := D) (ci := 7) (v := .ref z5) (C := RX7) (T := TX7) (N := 17) hx hb hts inT7 hown hK hP 0 rfl rfl 6 (by decide) (hts _ mT_572) (fun _ h9 => h9) rfl dX7_wrong_86 ?_
                refine lv_iconst (v := 3) hx hb dX7_wrong_89 (by decide) ?_
                refine lv_iload_n hx hb dX7_wrong_90 rfl (lv_at hl 3 rfl) ?_
                refine lv_imul hx hb dX7_wrong_91 ?_
                refine lv_iconst (v := 2) hx hb dX7_wrong_92 (by decide) ?_
                refine lv_iadd hx hb dX7_wrong_93 ?_
                obtain ⟨b94, hf⟩ := gd_some hf
                refine va_iald (n := 60) (f := q14.2 5) hx hb hK hP 5 0 rfl rfl (ck_in b94) dX7_wrong_94 ?_
                refine lv_icmp_eq (tgt := 100) hx hb dX7_wrong_95 (by decide) (fun c95 => ?_) (fun c95 => ?_)
                · have hf := ite_t c95 hf
                  refine lv_iinc (v := x2_28 + 1) (lv' := [(2, .int (x2_28 + 1)), (3, .int ((q14.2 5) (Int32.toNatClampNeg (3 * x2_28)))), (0, .ref za), (1, .int 1)]) hx hb dX7_wrong_100 hl (k := 3) rfl rfl (by decide) rfl (fun ls hl => ?_)
                  refine lv_goto (tgt := 28) hx hb dX7_wrong_103 (by decide) ?_
                  exact ih28 (x2_28 + 1) _ _ _ hf hP hD hS (lv_sub hl [2, 3, 0] rfl)
                · have hf := ite_f c95 hf
                  refine lv_iload_n hx hb dX7_wrong_98 rfl (lv_at hl 3 rfl) ?_
                  exact hret _ _ _ q14.2 _ _ hf dX7_wrong_99 hP hD hS
      exact lh28 10000 0 _ _ _ hf hP hD hS (lv_sub hl [2, 1, 0] rfl)
