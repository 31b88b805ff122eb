theorem s_yX4_init : kMS yX4_init cX4_init 1 none 0 := ⟨mT_73, mT_52, by decide +kernel⟩
set_option maxHeartbeats 4000000 in
set_option maxRecDepth 100000 in
theorem c_Web_init (l : Launch) (D : va_G) (cI cZ cR : ClassId) (a sz : Nat) : kCc l yX4_init cX4_init 1 { frames := 1, cells := 9, slots := 344, locals := 12 } [.ref a] D cI cZ cR ([(a, .inr (4, [.int 0, .int 0, .int 0, .null, .null, .null, .null, .null, .null, .null, .null, .null]))]) sz (Nat → Nat) (fun u : Nat → Nat => cWeb cI a (u 1) (u 2) (u 3) (u 4) (u 5) (u 6) (u 7) (u 8) (u 9) O0) 9 344 := by
  refine kMc (wf := (fun u : Nat → Nat => cWeb cI a (u 1) (u 2) (u 3) (u 4) (u 5) (u 6) (u 7) (u 8) (u 9) O0)) (by decide) (Nat.le_of_ble_eq_true rfl) ?_
  intro p e s m below meth c Q A hx hb hml hown hts hk hin hP hD hA hS hret ls hl
  have hK := hk.1
  have hl : lv_has ls 1 [(0, .ref a)] := hl
  refine lv_aload_n hx hb dX4_init_0 rfl (lv_at hl 0 rfl) ?_
  refine W.objInit hx hb hown (hts _ mT_74) (hts _ mT_67) (hts _ mT_68) rfl (by rw [hml]; exact hl.1) rfl dX4_init_1 (Nat.le_of_ble_eq_true rfl) (Nat.le_of_ble_eq_true rfl) ?_
  refine W.eq (g2 := F0 m 4 ls []) rfl ?_
  refine lv_aload_n hx hb dX4_init_4 rfl (lv_at hl 0 rfl) ?_
  refine lv_bipush (v := 64) hx hb dX4_init_5 (by decide) ?_
  refine kx_newI (n := 64) hx hb hts hk hP hD hS hA mT_130 (by decide) (by decide) (by decide) (Nat.le_of_ble_eq_true rfl) (Nat.le_of_ble_eq_true rfl) dX4_init_7 (fun q7 H hP hD hS => ?_)
  have hP : va_P D vwCl ([(a, .inr (4, [.int 0, .int 0, .int 0, .null, .null, .null, .null, .null, .null, .null, .null, .null])), (q7, .inl (cI, 64, .inl (fun _ => 0)))]) H := hP
  have hD : va_D A ([(a, .inr (4, [.int 0, .int 0, .int 0, .null, .null, .null, .null, .null, .null, .null, .null, .null])), (q7, .inl (cI, 64, .inl (fun _ => 0)))]) := hD
  refine W.widen (k := 1) (n := 64) (Nat.le_of_ble_eq_true rfl) (Nat.le_of_ble_eq_true rfl) ?_
  refine va_putF (D := D) (ci := 4) (v := .ref q7) (ty := .array .int) (C := RX4) (T := TX4) (N := 12) hx hb hts inT4 tyX4 tyX4_ok nmX4 hown hK hP hD hS 0 rfl rfl 3 (by decide) (hts _ mT_84) (fun _ h9 => h9) rfl hin rfl (by decide +kernel) rfl rfl (Nat.le_of_ble_eq_true rfl) dX4_init_9 (fun H locs hP hD hS => ?_)
  have hP : va_P D vwCl ([(a, .inr (4, [.int 0, .int 0, .int 0, .ref q7, .null, .null, .null, .null, .null, .null, .null, .null])), (q7, .inl (cI, 64, .inl (fun _ => 0)))]) H := hP
  have hD : va_D A ([(a, .inr (4, [.int 0, .int 0, .int 0, .ref q7, .null, .null, .null, .null, .null, .null, .null, .null])), (q7, .inl (cI, 64, .inl (fun _ => 0)))]) := hD
  refine lv_aload_n hx hb dX4_init_12 rfl (lv_at hl 0 rfl) ?_
  refine lv_bipush (v := 10) hx hb dX4_init_13 (by decide) ?_
  refine kx_newI (n := 10) hx hb hts hk hP hD hS hA mT_130 (by decide) (by decide) (by decide) (Nat.le_of_ble_eq_true rfl) (Nat.le_of_ble_eq_true rfl) dX4_init_15 (fun q15 H hP hD hS => ?_)
  have hP : va_P D vwCl ([(a, .inr (4, [.int 0, .int 0, .int 0, .ref q7, .null, .null, .null, .null, .null, .null, .null, .null])), (q7, .inl (cI, 64, .inl (fun _ => 0))), (q15, .inl (cI, 10, .inl (fun _ => 0)))]) H := hP
  have hD : va_D A ([(a, .inr (4, [.int 0, .int 0, .int 0, .ref q7, .null, .null, .null, .null, .null, .null, .null, .null])), (q7, .inl (cI, 64, .inl (fun _ => 0))), (q15, .inl (cI, 10, .inl (fun _ => 0)))]) := hD
  refine W.widen (k := 2) (n := 74) (Nat.le_of_ble_eq_true rfl) (Nat.le_of_ble_eq_true rfl) ?_
  refine va_putF (D := D) (ci := 4) (v := .ref q15) (ty := .array .int) (C := RX4) (T := TX4) (N := 12) hx hb hts inT4 tyX4 tyX4_ok nmX4 hown hK hP hD hS 0 rfl rfl 4 (by decide) (hts _ mT_86) (fun _ h9 => h9) rfl hin rfl (by decide +kernel) rfl rfl (Nat.le_of_ble_eq_true rfl) dX4_init_17 (fun H locs hP hD hS => ?_)
  have hP : va_P D vwCl ([(a, .inr (4, [.int 0, .int 0, .int 0, .ref q7, .ref q15, .null, .null, .null, .null, .null, .null, .null])), (q7, .inl (cI, 64, .inl (fun _ => 0))), (q15, .inl (cI, 10, .inl (fun _ => 0)))]) H := hP
  have hD : va_D A ([(a, .inr (4, [.int 0, .int 0, .int 0, .ref q7, .ref q15, .null, .null, .null, .null, .null, .null, .null])), (q7, .inl (cI, 64, .inl (fun _ => 0))), (q15, .inl (cI, 10, .inl (fun _ => 0)))]) := hD
  refine lv_aload_n hx hb dX4_init_20 rfl (lv_at hl 0 rfl) ?_
  refine lv_bipush (v := 10) hx hb dX4_init_21 (by decide) ?_
  refine kx_newI (n := 10) hx hb hts hk hP hD hS hA mT_130 (by decide) (by decide) (by decide) (Nat.le_of_ble_eq_true rfl) (Nat.le_of_ble_eq_true rfl) dX4_init_23 (fun q23 H hP hD hS => ?_)
  have hP : va_P D vwCl ([(a, .inr (4, [.int 0, .int 0, .int 0, .ref q7, .ref q15, .null, .null, .null, .null, .null, .null, .null])), (q7, .inl (cI, 64, .inl (fun _ => 0))), (q15, .inl (cI, 10, .inl (fun _ => 0))), (q23, .inl (cI, 10, .inl (fun _ => 0)))]) H := hP
  have hD : va_D A ([(a, .inr (4, [.int 0, .int 0, .int 0, .ref q7, .ref q15, .null, .null, .null, .null, .null, .null, .null])), (q7, .inl (cI, 64, .inl (fun _ => 0))), (q15, .inl (cI, 10, .inl (fun _ => 0))), (q23, .inl (cI, 10, .inl (fun _ => 0)))]) := hD
  refine W.widen (k := 3) (n := 84) (Nat.le_of_ble_eq_true rfl) (Nat.le_of_ble_eq_true rfl) ?_
  refine va_putF (D := D) (ci := 4) (v := .ref q23) (ty := .array .int) (C := RX4) (T := TX4) (N := 12) hx hb hts inT4 tyX4 tyX4_ok nmX4 hown hK hP hD hS 0 rfl rfl 5 (by decide) (hts _ mT_88) (fun _ h9 => h9) rfl hin rfl (by decide +kernel) rfl rfl (Nat.le_of_ble_eq_true rfl) dX4_init_25 (fun H locs hP hD hS => ?_)
  have hP : va_P D vwCl ([(a, .inr (4, [.int 0, .int 0, .int 0, .ref q7, .ref q15, .ref q23, .null, .null, .null, .null, .null, .null])), (q7, .inl (cI, 64, .inl (fun _ => 0))), (q15, .inl (cI, 10, .inl (fun _ => 0))), (q23, .inl (cI, 10, .inl (fun _ => 0)))]) H := hP
  have hD : va_D A ([(a, .inr (4, [.int 0, .int 0, .int 0, .ref q7, .ref q15, .ref q23, .null, .null, .null, .null, .null, .null])), (q7, .inl (cI, 64, .inl (fun _ => 0))), (q15, .inl (cI, 10, .inl (fun _ => 0))), (q23, .inl (cI, 10, .inl (fun _ => 0)))]) := hD
  refine lv_aload_n hx hb dX4_init_28 rfl (lv_at hl 0 rfl) ?_
  refine lv_bipush (v := 20) hx hb dX4_init_29 (by decide) ?_
  refine kx_newI (n := 20) hx hb hts hk hP hD hS hA mT_130 (by decide) (by decide) (by decide) (Nat.le_of_ble_eq_true rfl) (Nat.le_of_ble_eq_true rfl) dX4_init_31 (fun q31 H hP hD hS => ?_)
  have hP : va_P D vwCl ([(a, .inr (4, [.int 0, .int 0, .int 0, .ref q7, .ref q15, .ref q23, .null, .null, .null, .null, .null, .null])), (q7, .inl (cI, 64, .inl (fun _ => 0))), (q15, .inl (cI, 10, .inl (fun _ => 0))), (q23, .inl (cI, 10, .inl (fun _ => 0))), (q31, .inl (cI, 20, .inl (fun _ => 0)))]) H := hP
  have hD : va_D A ([(a, .inr (4, [.int 0, .int 0, .int 0, .ref q7, .ref q15, .ref q23, .null, .null, .null, .null, .null, .null])), (q7, .inl (cI, 64, .inl (fun _ => 0))), (q15, .inl (cI, 10, .inl (fun _ => 0))), (q23, .inl (cI, 10, .inl (fun _ => 0))), (q31, .inl (cI, 20, .inl (fun _ => 0)))]) := hD
  refine W.widen (k := 4) (n := 104) (Nat.le_of_ble_eq_true rfl) (Nat.le_of_ble_eq_true rfl) ?_
  refine va_putF (D := D) (ci := 4) (v := .ref q31) (ty := .array .int) (C := RX4) (T := TX4) (N := 12) hx hb hts inT4 tyX4 tyX4_ok nmX4 hown hK hP hD hS 0 rfl rfl 6 (by decide) (hts _ mT_91) (fun _ h9 => h9) rfl hin rfl (by decide +kernel) rfl rfl (Nat.le_of_ble_eq_true rfl) dX4_init_33 (fun H locs hP hD hS => ?_)
  have hP : va_P D vwCl ([(a, .inr (4, [.int 0, .int 0, .int 0, .ref q7, .ref q15, .ref q23, .ref q31, .null, .null, .null, .null, .null])), (q7, .inl (cI, 64, .inl (fun _ => 0))), (q15, .inl (cI, 10, .inl (fun _ => 0))), (q23, .inl (cI, 10, .inl (fun _ => 0))), (q31, .inl (cI, 20, .inl (fun _ => 0)))]) H := hP
  have hD : va_D A ([(a, .inr (4, [.int 0, .int 0, .int 0, .ref q7, .ref q15, .ref q23, .ref q31, .null, .null, .null, .null, .null])), (q7, .inl (cI, 64, .inl (fun _ => 0))), (q15, .inl (cI, 10, .inl (fun _ => 0))), (q23, .inl (cI, 10, .inl (fun _ => 0))), (q31, .inl (cI, 20, .inl (fun _ => 0)))]) := hD
  refine lv_aload_n hx hb dX4_init_36 rfl (lv_at hl 0 rfl) ?_
  refine lv_bipush (v := 20) hx hb dX4_init_37 (by decide) ?_
  refine kx_newI (n := 20) hx hb hts hk hP hD hS hA mT_130 (by decide) (by decide) (by decide) (Nat.le_of_ble_eq_true rfl) (Nat.le_of_ble_eq_true rfl) dX4_init_39 (fun q39 H hP hD hS => ?_)
  have hP : va_P D vwCl ([(a, .inr (4, [.int 0, .int 0, .int 0, .ref q7, .ref q15, .ref q23, .ref q31, .null, .null, .null, .null, .null])), (q7, .inl (cI, 64, .inl (fun _ => 0))), (q15, .inl (cI, 10, .inl (fun _ => 0))), (q23, .inl (cI, 10, .inl (fun _ => 0))), (q31, .inl (cI, 20, .inl (fun _ => 0))), (q39, .inl (cI, 20, .inl (fun _ => 0)))]) H := hP
  have hD : va_D A ([(a, .inr (4, [.int 0, .int 0, .int 0, .ref q7, .ref q15, .ref q23, .ref q31, .null, .null, .null, .null, .null])), (q7, .inl (cI, 64, .inl (fun _ => 0))), (q15, .inl (cI, 10, .inl (fun _ => 0))), (q23, .inl (cI, 10, .inl (fun _ => 0))), (q31, .inl (cI, 20, .inl (fun _ => 0))), (q39, .inl (cI, 20, .inl (fun _ => 0)))]) := hD
  refine W.widen (k := 5) (n := 124) (Nat.le_of_ble_eq_true rfl) (Nat.le_of_ble_eq_true rfl) ?_
  refine va_putF (D := D) (ci := 4) (v := .ref q39) (ty := .array .int) (C := RX4) (T := TX4) (N := 12) hx hb hts inT4 tyX4 tyX4_ok nmX4 hown hK hP hD hS 0 rfl rfl 7 (by decide) (hts _ mT_94) (fun _ h9 => h9) rfl hin rfl (by decide +kernel) rfl rfl (Nat.le_of_ble_eq_true rfl) dX4_init_41 (fun H locs hP hD hS => ?_)
  have hP : va_P D vwCl ([(a, .inr (4, [.int 0, .int 0, .int 0, .ref q7, .ref q15, .ref q23, .ref q31, .ref q39, .null, .null, .null, .null])), (q7, .inl (cI, 64, .inl (fun _ => 0))), (q15, .inl (cI, 10, .inl (fun _ => 0))), (q23, .inl (cI, 10, .inl (fun _ => 0))), (q31, .inl (cI, 20, .inl (fun _ => 0))), (q39, .inl (cI, 20, .inl (fun _ => 0)))]) H := hP
  have hD : va_D A ([(a, .inr (4, [.int 0, .int 0, .int 0, .ref q7, .ref q15, .ref q23, .ref q31, .ref q39, .null, .null, .null, .null])), (q7, .inl (cI, 64, .inl (fun _ => 0))), (q15, .inl (cI, 10, .inl (fun _ => 0))), (q23, .inl (cI, 10, .inl (fun _ => 0))), (q31, .inl (cI, 20, .inl (fun _ => 0))), (q39, .inl (cI, 20, .inl (fun _ => 0)))]) := hD
  refine lv_aload_n hx hb dX4_init_44 rfl (lv_at hl 0 rfl) ?_
  refine lv_sipush (v := 160) hx hb dX4_init_45 (by decide) ?_
  refine kx_newI (n := 160) hx hb hts hk hP hD hS hA mT_130 (by decide) (by decide) (by decide) (Nat.le_of_ble_eq_true rfl) (Nat.le_of_ble_eq_true rfl) dX4_init_48 (fun q48 H hP hD hS => ?_)
  have hP : va_P D vwCl ([(a, .inr (4, [.int 0, .int 0, .int 0, .ref q7, .ref q15, .ref q23, .ref q31, .ref q39, .null, .null, .null, .null])), (q7, .inl (cI, 64, .inl (fun _ => 0))), (q15, .inl (cI, 10, .inl (fun _ => 0))), (q23, .inl (cI, 10, .inl (fun _ => 0))), (q31, .inl (cI, 20, .inl (fun _ => 0))), (q39, .inl (cI, 20, .inl (fun _ => 0))), (q48, .inl (cI, 160, .inl (fun _ => 0)))]) H := hP
  have hD : va_D A ([(a, .inr (4, [.int 0, .int 0, .int 0, .ref q7, .ref q15, .ref q23, .ref q31, .ref q39, .null, .null, .null, .null])), (q7, .inl (cI, 64, .inl (fun _ => 0))), (q15, .inl (cI, 10, .inl (fun _ => 0))), (q23, .inl (cI, 10, .inl (fun _ => 0))), (q31, .inl (cI, 20, .inl (fun _ => 0))), (q39, .inl (cI, 20, .inl (fun _ => 0))), (q48, .inl (cI, 160, .inl (fun _ => 0)))]) := hD
  refine W.widen (k := 6) (n := 284) (Nat.le_of_ble_eq_true rfl) (Nat.le_of_ble_eq_true rfl) ?_
  refine va_putF (D := D) (ci := 4) (v := .ref q48) (ty := .array .int) (C := RX4) (T := TX4) (N := 12) hx hb hts inT4 tyX4 tyX4_ok nmX4 hown hK hP hD hS 0 rfl rfl 8 (by decide) (hts _ mT_97) (fun _ h9 => h9) rfl hin rfl (by decide +kernel) rfl rfl (Nat.le_of_ble_eq_true rfl) dX4_init_50 (fun H locs hP hD hS => ?_)
  have hP : va_P D vwCl ([(a, .inr (4, [.int 0, .int 0, .int 0, .ref q7, .ref q15, .ref q23, .ref q31, .ref q39, .ref q48, .null, .null, .null])), (q7, .inl (cI, 64, .inl (fun _ => 0))), (q15, .inl (cI, 10, .inl (fun _ => 0))), (q23, .inl (cI, 10, .inl (fun _ => 0))), (q31, .inl (cI, 20, .inl (fun _ => 0))), (q39, .inl (cI, 20, .inl (fun _ => 0))), (q48, .inl (cI, 160, .inl (fun _ => 0)))]) H := hP
  have hD : va_D A ([(a, .inr (4, [.int 0, .int 0, .int 0, .ref q7, .ref q15, .ref q23, .ref q31, .ref q39, .ref q48, .null, .null, .null])), (q7, .inl (cI, 64, .inl (fun _ => 0))), (q15, .inl (cI, 10, .inl (fun _ => 0))), (q23, .inl (cI, 10, .inl (fun _ => 0))), (q31, .inl (cI, 20, .inl (fun _ => 0))), (q39, .inl (cI, 20, .inl (fun _ => 0))), (q48, .inl (cI, 160, .inl (fun _ => 0)))]) := hD
  refine lv_aload_n hx hb dX4_init_53 rfl (lv_at hl 0 rfl) ?_
  refine lv_bipush (v := 20) hx hb dX4_init_54 (by decide) ?_
  refine kx_newI (n := 20) hx hb hts hk hP hD hS hA mT_130 (by decide) (by decide) (by decide) (Nat.le_of_ble_eq_true rfl) (Nat.le_of_ble_eq_true rfl) dX4_init_56 (fun q56 H hP hD hS => ?_)
  have hP : va_P D vwCl ([(a, .inr (4, [.int 0, .int 0, .int 0, .ref q7, .ref q15, .ref q23, .ref q31, .ref q39, .ref q48, .null, .null, .null])), (q7, .inl (cI, 64, .inl (fun _ => 0))), (q15, .inl (cI, 10, .inl (fun _ => 0))), (q23, .inl (cI, 10, .inl (fun _ => 0))), (q31, .inl (cI, 20, .inl (fun _ => 0))), (q39, .inl (cI, 20, .inl (fun _ => 0))), (q48, .inl (cI, 160, .inl (fun _ => 0))), (q56, .inl (cI, 20, .inl (fun _ => 0)))]) H := hP
  have hD : va_D A ([(a, .inr (4, [.int 0, .int 0, .int 0, .ref q7, .ref q15, .ref q23, .ref q31, .ref q39, .ref q48, .null, .null, .null])), (q7, .inl (cI, 64, .inl (fun _ => 0))), (q15, .inl (cI, 10, .inl (fun _ => 0))), (q23, .inl (cI, 10, .inl (fun _ => 0))), (q31, .inl (cI, 20, .inl (fun _ => 0))), (q39, .inl (cI, 20, .inl (fun _ => 0))), (q48, .inl (cI, 160, .inl (fun _ => 0))), (q56, .inl (cI, 20, .inl (fun _ => 0)))]) := hD
  refine W.widen (k := 7) (n := 304) (Nat.le_of_ble_eq_true rfl) (Nat.le_of_ble_eq_true rfl) ?_
  refine va_putF (D := D) (ci := 4) (v := .ref q56) (ty := .array .int) (C := RX4) (T := TX4) (N := 12) hx hb hts inT4 tyX4 tyX4_ok nmX4 hown hK hP hD hS 0 rfl rfl 9 (by decide) (hts _ mT_99) (fun _ h9 => h9) rfl hin rfl (by decide +kernel) rfl rfl (Nat.le_of_ble_eq_true rfl) dX4_init_58 (fun H locs hP hD hS => ?_)
  have hP : va_P D vwCl ([(a, .inr (4, [.int 0, .int 0, .int 0, .ref q7, .ref q15, .ref q23, .ref q31, .ref q39, .ref q48, .ref q56, .null, .null])), (q7, .inl (cI, 64, .inl (fun _ => 0))), (q15, .inl (cI, 10, .inl (fun _ => 0))), (q23, .inl (cI, 10, .inl (fun _ => 0))), (q31, .inl (cI, 20, .inl (fun _ => 0))), (q39, .inl (cI, 20, .inl (fun _ => 0))), (q48, .inl (cI, 160, .inl (fun _ => 0))), (q56, .inl (cI, 20, .inl (fun _ => 0)))]) H := hP
  have hD : va_D A ([(a, .inr (4, [.int 0, .int 0, .int 0, .ref q7, .ref q15, .ref q23, .ref q31, .ref q39, .ref q48, .ref q56, .null, .null])), (q7, .inl (cI, 64, .inl (fun _ => 0))), (q15, .inl (cI, 10, .inl (fun _ => 0))), (q23, .inl (cI, 10, .inl (fun _ => 0))), (q31, .inl (cI, 20, .inl (fun _ => 0))), (q39, .inl (cI, 20, .inl (fun _ => 0))), (q48, .inl (cI, 160, .inl (fun _ => 0))), (q56, .inl (cI, 20, .inl (fun _ => 0)))]) := hD
  refine lv_aload_n hx hb dX4_init_61 rfl (lv_at hl 0 rfl) ?_
  refine lv_bipush (v := 20) hx hb dX4_init_62 (by decide) ?_
  refine kx_newI (n := 20) hx hb hts hk hP hD hS hA mT_130 (by decide) (by decide) (by decide) (Nat.le_of_ble_eq_true rfl) (Nat.le_of_ble_eq_true rfl) dX4_init_64 (fun q64 H hP hD hS => ?_)
  have hP : va_P D vwCl ([(a, .inr (4, [.int 0, .int 0, .int 0, .ref q7, .ref q15, .ref q23, .ref q31, .ref q39, .ref q48, .ref q56, .null, .null])), (q7, .inl (cI, 64, .inl (fun _ => 0))), (q15, .inl (cI, 10, .inl (fun _ => 0))), (q23, .inl (cI, 10, .inl (fun _ => 0))), (q31, .inl (cI, 20, .inl (fun _ => 0))), (q39, .inl (cI, 20, .inl (fun _ => 0))), (q48, .inl (cI, 160, .inl (fun _ => 0))), (q56, .inl (cI, 20, .inl (fun _ => 0))), (q64, .inl (cI, 20, .inl (fun _ => 0)))]) H := hP
  have hD : va_D A ([(a, .inr (4, [.int 0, .int 0, .int 0, .ref q7, .ref q15, .ref q23, .ref q31, .ref q39, .ref q48, .ref q56, .null, .null])), (q7, .inl (cI, 64, .inl (fun _ => 0))), (q15, .inl (cI, 10, .inl (fun _ => 0))), (q23, .inl (cI, 10, .inl (fun _ => 0))), (q31, .inl (cI, 20, .inl (fun _ => 0))), (q39, .inl (cI, 20, .inl (fun _ => 0))), (q48, .inl (cI, 160, .inl (fun _ => 0))), (q56, .inl (cI, 20, .inl (fun _ => 0))), (q64, .inl (cI, 20, .inl (fun _ => 0)))]) := hD
  refine W.widen (k := 8) (n := 324) (Nat.le_of_ble_eq_true rfl) (Nat.le_of_ble_eq_true rfl) ?_
  refine va_putF (D := D) (ci := 4) (v := .ref q64) (ty := .array .int) (C := RX4) (T := TX4) (N := 12) hx hb hts inT4 tyX4 tyX4_ok nmX4 hown hK hP hD hS 0 rfl rfl 10 (by decide) (hts _ mT_101) (fun _ h9 => h9) rfl hin rfl (by decide +kernel) rfl rfl (Nat.le_of_ble_eq_true rfl) dX4_init_66 (fun H locs hP hD hS => ?_)
  have hP : va_P D vwCl ([(a, .inr (4, [.int 0, .int 0, .int 0, .ref q7, .ref q15, .ref q23, .ref q31, .ref q39, .ref q48, .ref q56, .ref q64, .null])), (q7, .inl (cI, 64, .inl (fun _ => 0))), (q15, .inl (cI, 10, .inl (fun _ => 0))), (q23, .inl (cI, 10, .inl (fun _ => 0))), (q31, .inl (cI, 20, .inl (fun _ => 0))), (q39, .inl (cI, 20, .inl (fun _ => 0))), (q48, .inl (cI, 160, .inl (fun _ => 0))), (q56, .inl (cI, 20, .inl (fun _ => 0))), (q64, .inl (cI, 20, .inl (fun _ => 0)))]) H := hP
  have hD : va_D A ([(a, .inr (4, [.int 0, .int 0, .int 0, .ref q7, .ref q15, .ref q23, .ref q31, .ref q39, .ref q48, .ref q56, .ref q64, .null])), (q7, .inl (cI, 64, .inl (fun _ => 0))), (q15, .inl (cI, 10, .inl (fun _ => 0))), (q23, .inl (cI, 10, .inl (fun _ => 0))), (q31, .inl (cI, 20, .inl (fun _ => 0))), (q39, .inl (cI, 20, .inl (fun _ => 0))), (q48, .inl (cI, 160, .inl (fun _ => 0))), (q56, .inl (cI, 20, .inl (fun _ => 0))), (q64, .inl (cI, 20, .inl (fun _ => 0)))]) := hD
  refine lv_aload_n hx hb dX4_init_69 rfl (lv_at hl 0 rfl) ?_
  refine lv_bipush (v := 20) hx hb dX4_init_70 (by decide) ?_
  refine kx_newI (n := 20) hx hb hts hk hP hD hS hA mT_130 (by decide) (by decide) (by decide) (Nat.le_of_ble_eq_true rfl) (Nat.le_of_ble_eq_true rfl) dX4_init_72 (fun q72 H hP hD hS => ?_)
  have hP : va_P D vwCl ([(a, .inr (4, [.int 0, .int 0, .int 0, .ref q7, .ref q15, .ref q23, .ref q31, .ref q39, .ref q48, .ref q56, .ref q64, .null])), (q7, .inl (cI, 64, .inl (fun _ => 0))), (q15, .inl (cI, 10, .inl (fun _ => 0))), (q23, .inl (cI, 10, .inl (fun _ => 0))), (q31, .inl (cI, 20, .inl (fun _ => 0))), (q39, .inl (cI, 20, .inl (fun _ => 0))), (q48, .inl (cI, 160, .inl (fun _ => 0))), (q56, .inl (cI, 20, .inl (fun _ => 0))), (q64, .inl (cI, 20, .inl (fun _ => 0))), (q72, .inl (cI, 20, .inl (fun _ => 0)))]) H := hP
  have hD : va_D A ([(a, .inr (4, [.int 0, .int 0, .int 0, .ref q7, .ref q15, .ref q23, .ref q31, .ref q39, .ref q48, .ref q56, .ref q64, .null])), (q7, .inl (cI, 64, .inl (fun _ => 0))), (q15, .inl (cI, 10, .inl (fun _ => 0))), (q23, .inl (cI, 10, .inl (fun _ => 0))), (q31, .inl (cI, 20, .inl (fun _ => 0))), (q39, .inl (cI, 20, .inl (fun _ => 0))), (q48, .inl (cI, 160, .inl (fun _ => 0))), (q56, .inl (cI, 20, .inl (fun _ => 0))), (q64, .inl (cI, 20, .inl (fun _ => 0))), (q72, .inl (cI, 20, .inl (fun _ => 0)))]) := hD
  refine W.widen (k := 9) (n := 344) (Nat.le_of_ble_eq_true rfl) (Nat.le_of_ble_eq_true rfl) ?_
  refine va_putF (D := D) (ci := 4) (v := .ref q72) (ty := .array .int) (C := RX4) (T := TX4) (N := 12) hx hb hts inT4 tyX4 tyX4_ok nmX4 hown hK hP hD hS 0 rfl rfl 11 (by decide) (hts _ mT_103) (fun _ h9 => h9) rfl hin rfl (by decide +kernel) rfl rfl (Nat.le_of_ble_eq_true rfl) dX4_init_74 (fun H locs hP hD hS => ?_)
  have hP : va_P D vwCl ([(a, .inr (4, [.int 0, .int 0, .int 0, .ref q7, .ref q15, .ref q23, .ref q31, .ref q39, .ref q48, .ref q56, .ref q64, .ref q72])), (q7, .inl (cI, 64, .inl (fun _ => 0))), (q15, .inl (cI, 10, .inl (fun _ => 0))), (q23, .inl (cI, 10, .inl (fun _ => 0))), (q31, .inl (cI, 20, .inl (fun _ => 0))), (q39, .inl (cI, 20, .inl (fun _ => 0))), (q48, .inl (cI, 160, .inl (fun _ => 0))), (q56, .inl (cI, 20, .inl (fun _ => 0))), (q64, .inl (cI, 20, .inl (fun _ => 0))), (q72, .inl (cI, 20, .inl (fun _ => 0)))]) H := hP
  have hD : va_D A ([(a, .inr (4, [.int 0, .int 0, .int 0, .ref q7, .ref q15, .ref q23, .ref q31, .ref q39, .ref q48, .ref q56, .ref q64, .ref q72])), (q7, .inl (cI, 64, .inl (fun _ => 0))), (q15, .inl (cI, 10, .inl (fun _ => 0))), (q23, .inl (cI, 10, .inl (fun _ => 0))), (q31, .inl (cI, 20, .inl (fun _ => 0))), (q39, .inl (cI, 20, .inl (fun _ => 0))), (q48, .inl (cI, 160, .inl (fun _ => 0))), (q56, .inl (cI, 20, .inl (fun _ => 0))), (q64, .inl (cI, 20, .inl (fun _ => 0))), (q72, .inl (cI, 20, .inl (fun _ => 0)))]) := hD
  exact hret _ _ (fun i => [0, q7, q15, q23, q31, q39, q48, q56, q64, q72].getD i 0) _ _ dX4_init_77 hP hD hS
theorem s_yX5_init : kMS yX5_init cX5_init 1 none 0 := ⟨mT_191, mT_56, by decide +kernel⟩
set_option maxHeartbeats 4000000 in
set_option maxRecDepth 100000 in
theorem c_Work_init (l : Launch) (D : va_G) (cI cZ cR : ClassId) (a sz : Nat) : kCc l yX5_init cX5_init 1 { frames := 1, cells := 2, slots := 20, locals := 12 } [.ref a] D cI cZ cR ([(a, .inr (5, [.null, .null, .int 0]))]) sz (Nat → Nat) (fun u : Nat → Nat => cWork cI a (u 1) (u 2) O0) 2 20 := by
  refine kMc (wf := (fun u : Nat → Nat => cWork cI a (u 1) (u 2) O0)) (by decide) (Nat.le_of_ble_eq_true rfl) ?_
  intro p e s m below meth c Q A hx hb hml hown hts hk hin hP hD hA hS hret ls hl
  have hK := hk.1
  have hl : lv_has ls 1 [(0, .ref a)] := hl
  refine lv_aload_n hx hb dX5_init_0 rfl (lv_at hl 0 rfl) ?_
  refine W.objInit hx hb hown (hts _ mT_192) (hts _ mT_67) (hts _ mT_68) rfl (by rw [hml]; exact hl.1) rfl dX5_init_1 (Nat.le_of_ble_eq_true rfl) (Nat.le_of_ble_eq_true rfl) ?_
  refine W.eq (g2 := F0 m 4 ls []) rfl ?_
  refine lv_aload_n hx hb dX5_init_4 rfl (lv_at hl 0 rfl) ?_
  refine lv_bipush (v := 10) hx hb dX5_init_5 (by decide) ?_
  refine kx_newI (n := 10) hx hb hts hk hP hD hS hA mT_130 (by decide) (by decide) (by decide) (Nat.le_of_ble_eq_true rfl) (Nat.le_of_ble_eq_true rfl) dX5_init_7 (fun q7 H hP hD hS => ?_)
  have hP : va_P D vwCl ([(a, .inr (5, [.null, .null, .int 0])), (q7, .inl (cI, 10, .inl (fun _ => 0)))]) H := hP
  have hD : va_D A ([(a, .inr (5, [.null, .null, .int 0])), (q7, .inl (cI, 10, .inl (fun _ => 0)))]) := hD
  refine W.widen (k := 1) (n := 10) (Nat.le_of_ble_eq_true rfl) (Nat.le_of_ble_eq_true rfl) ?_
  refine va_putF (D := D) (ci := 5) (v := .ref q7) (ty := .array .int) (C := RX5) (T := TX5) (N := 3) hx hb hts inT5 tyX5 tyX5_ok nmX5 hown hK hP hD hS 0 rfl rfl 0 (by decide) (hts _ mT_193) (fun _ h9 => h9) rfl hin rfl (by decide +kernel) rfl rfl (Nat.le_of_ble_eq_true rfl) dX5_init_9 (fun H locs hP hD hS => ?_)
  have hP : va_P D vwCl ([(a, .inr (5, [.ref q7, .null, .int 0])), (q7, .inl (cI, 10, .inl (fun _ => 0)))]) H := hP
  have hD : va_D A ([(a, .inr (5, [.ref q7, .null, .int 0])), (q7, .inl (cI, 10, .inl (fun _ => 0)))]) := hD
  refine lv_aload_n hx hb dX5_init_12 rfl (lv_at hl 0 rfl) ?_
  refine lv_bipush (v := 10) hx hb dX5_init_13 (by decide) ?_
  refine kx_newI (n := 10) hx hb hts hk hP hD hS hA mT_130 (by decide) (by decide) (by decide) (Nat.le_of_ble_eq_true rfl) (Nat.le_of_ble_eq_true rfl) dX5_init_15 (fun q15 H hP hD hS => ?_)
  have hP : va_P D vwCl ([(a, .inr (5, [.ref q7, .null, .int 0])), (q7, .inl (cI, 10, .inl (fun _ => 0))), (q15, .inl (cI, 10, .inl (fun _ => 0)))]) H := hP
  have hD : va_D A ([(a, .inr (5, [.ref q7, .null, .int 0])), (q7, .inl (cI, 10, .inl (fun _ => 0))), (q15, .inl (cI, 10, .inl (fun _ => 0)))]) := hD
  refine W.widen (k := 2) (n := 20) (Nat.le_of_ble_eq_true rfl) (Nat.le_of_ble_eq_true rfl) ?_
  refine va_putF (D := D) (ci := 5) (v := .ref q15) (ty := .array .int) (C := RX5) (T := TX5) (N := 3) hx hb hts inT5 tyX5 tyX5_ok nmX5 hown hK hP hD hS 0 rfl rfl 1 (by decide) (hts _ mT_195) (fun _ h9 => h9) rfl hin rfl (by decide +kernel) rfl rfl (Nat.le_of_ble_eq_true rfl) dX5_init_17 (fun H locs hP hD hS => ?_)
  have hP : va_P D vwCl ([(a, .inr (5, [.ref q7, .ref q15, .int 0])), (q7, .inl (cI, 10, .inl (fun _ => 0))), (q15, .inl (cI, 10, .inl (fun _ => 0)))]) H := hP
  have hD : va_D A ([(a, .inr (5, [.ref q7, .ref q15, .int 0])), (q7, .inl (cI, 10, .inl (fun _ => 0))), (q15, .inl (cI, 10, .inl (fun _ => 0)))]) := hD
  exact hret _ _ (fun i => [0, q7, q15].getD i 0) _ _ dX5_init_20 hP hD hS
theorem s_yX2_init : kMS yX2_init cX2_init 1 none 0 := ⟨mT_208, mT_57, by decide +kernel⟩
set_option maxHeartbeats 4000000 in
set_option maxRecDepth 100000 in
theorem c_Judge_init (l : Launch) (D : va_G) (cI cZ cR : ClassId) (a sz : Nat) : kCc l yX2_init cX2_init 1 { frames := 1, cells := 1, slots := 10, locals := 12 } [.ref a] D cI cZ cR ([(a, .inr (2, [.null]))]) sz (Nat → Nat) (fun u : Nat → Nat => cJudge cI a (u 1) O0) 1 10 := by
  refine kMc (wf := (fun u : Nat → Nat => cJudge cI a (u 1) O0)) (by decide) (Nat.le_of_ble_eq_true rfl) ?_
  intro p e s m below meth c Q A hx hb hml hown hts hk hin hP hD hA hS hret ls hl
  have hK := hk.1
  have hl : lv_has ls 1 [(0, .ref a)] := hl
  refine lv_aload_n hx hb dX2_init_0 rfl (lv_at hl 0 rfl) ?_
  refine W.objInit hx hb hown (hts _ mT_209) (hts _ mT_67) (hts _ mT_68) rfl (by rw [hml]; exact hl.1) rfl dX2_init_1 (Nat.le_of_ble_eq_true rfl) (Nat.le_of_ble_eq_true rfl) ?_
  refine W.eq (g2 := F0 m 4 ls []) rfl ?_
  refine lv_aload_n hx hb dX2_init_4 rfl (lv_at hl 0 rfl) ?_
  refine lv_bipush (v := 10) hx hb dX2_init_5 (by decide) ?_
  refine kx_newI (n := 10) hx hb hts hk hP hD hS hA mT_130 (by decide) (by decide) (by decide) (Nat.le_of_ble_eq_true rfl) (Nat.le_of_ble_eq_true rfl) dX2_init_7 (fun q7 H hP hD hS => ?_)
  have hP : va_P D vwCl ([(a, .inr (2, [.null])), (q7, .inl (cI, 10, .inl (fun _ => 0)))]) H := hP
  have hD : va_D A ([(a, .inr (2, [.null])), (q7, .inl (cI, 10, .inl (fun _ => 0)))]) := hD
  refine W.widen (k := 1) (n := 10) (Nat.le_of_ble_eq_true rfl) (Nat.le_of_ble_eq_true rfl) ?_
  refine va_putF (D := D) (ci := 2) (v := .ref q7) (ty := .array .int) (C := RX2) (T := TX2) (N := 1) hx hb hts inT2 tyX2 tyX2_ok nmX2 hown hK hP hD hS 0 rfl rfl 0 (by decide) (hts _ mT_210) (fun _ h9 => h9) rfl hin rfl (by decide +kernel) rfl rfl (Nat.le_of_ble_eq_true rfl) dX2_init_9 (fun H locs hP hD hS => ?_)
  have hP : va_P D vwCl ([(a, .inr (2, [.ref q7])), (q7, .inl (cI, 10, .inl (fun _ => 0)))]) H := hP
  have hD : va_D A ([(a, .inr (2, [.ref q7])), (q7, .inl (cI, 10, .inl (fun _ => 0)))]) := hD
  exact hret _ _ (fun i => [0, q7].getD i 0) _ _ dX2_init_12 hP hD hS
theorem s_yX0_init : kMS yX0_init cX0_init 1 none 0 := ⟨mT_174, mT_55, by decide +kernel⟩
set_option maxHeartbeats 4000000 in
set_option maxRecDepth 100000 in
theorem c_Book_init (l : Launch) (D : va_G) (cI cZ cR : ClassId) (a sz : Nat) : kCc l yX0_init cX0_init 1 { frames := 1, cells := 2, slots := 40, locals := 12 } [.ref a] D cI cZ cR ([(a, .inr (0, [.int 0, .null, .null]))]) sz (Nat → Nat) (fun u : Nat → Nat => cBook cI a (u 1) (u 2) O0) 2 40 := by
  refine kMc (wf := (fun u : Nat → Nat => cBook cI a (u 1) (u 2) O0)) (by decide) (Nat.le_of_ble_eq_true rfl) ?_
  intro p e s m below meth c Q A hx hb hml hown hts hk hin hP hD hA hS hret ls hl
  have hK := hk.1
  have hl : lv_has ls 1 [(0, .ref a)] := hl
  refine lv_aload_n hx hb dX0_init_0 rfl (lv_at hl 0 rfl) ?_
  refine W.objInit hx hb hown (hts _ mT_175) (hts _ mT_67) (hts _ mT_68) rfl (by rw [hml]; exact hl.1) rfl dX0_init_1 (Nat.le_of_ble_eq_true rfl) (Nat.le_of_ble_eq_true rfl) ?_
  refine W.eq (g2 := F0 m 4 ls []) rfl ?_
  refine lv_aload_n hx hb dX0_init_4 rfl (lv_at hl 0 rfl) ?_
  refine lv_bipush (v := 20) hx hb dX0_init_5 (by decide) ?_
  refine kx_newI (n := 20) hx hb hts hk hP hD hS hA mT_130 (by decide) (by decide) (by decide) (Nat.le_of_ble_eq_true rfl) (Nat.le_of_ble_eq_true rfl) dX0_init_7 (fun q7 H hP hD hS => ?_)
  have hP : va_P D vwCl ([(a, .inr (0, [.int 0, .null, .null])), (q7, .inl (cI, 20, .inl (fun _ => 0)))]) H := hP
  have hD : va_D A ([(a, .inr (0, [.int 0, .null, .null])), (q7, .inl (cI, 20, .inl (fun _ => 0)))]) := hD
  refine W.widen (k := 1) (n := 20) (Nat.le_of_ble_eq_true rfl) (Nat.le_of_ble_eq_true rfl) ?_
  refine va_putF (D := D) (ci := 0) (v := .ref q7) (ty := .array .int) (C := RX0) (T := TX0) (N := 3) hx hb hts inT0 tyX0 tyX0_ok nmX0 hown hK hP hD hS 0 rfl rfl 1 (by decide) (hts _ mT_178) (fun _ h9 => h9) rfl hin rfl (by decide +kernel) rfl rfl (Nat.le_of_ble_eq_true rfl) dX0_init_9 (fun H locs hP hD hS => ?_)
  have hP : va_P D vwCl ([(a, .inr (0, [.int 0, .ref q7, .null])), (q7, .inl (cI, 20, .inl (fun _ => 0)))]) H := hP
  have hD : va_D A ([(a, .inr (0, [.int 0, .ref q7, .null])), (q7, .inl (cI, 20, .inl (fun _ => 0)))]) := hD
  refine lv_aload_n hx hb dX0_init_12 rfl (lv_at hl 0 rfl) ?_
  refine lv_bipush (v := 20) hx hb dX0_init_13 (by decide) ?_
  refine kx_newI (n := 20) hx hb hts hk hP hD hS hA mT_130 (by decide) (by decide) (by decide) (Nat.le_of_ble_eq_true rfl) (Nat.le_of_ble_eq_true rfl) dX0_init_15 (fun q15 H hP hD hS => ?_)
  have hP : va_P D vwCl ([(a, .inr (0, [.int 0, .ref q7, .null])), (q7, .inl (cI, 20, .inl (fun _ => 0))), (q15, .inl (cI, 20, .inl (fun _ => 0)))]) H := hP
  have hD : va_D A ([(a, .inr (0, [.int 0, .ref q7, .null])), (q7, .inl (cI, 20, .inl (fun _ => 0))), (q15, .inl (cI, 20, .inl (fun _ => 0)))]) := hD
  refine W.widen (k := 2) (n := 40) (Nat.le_of_ble_eq_true rfl) (Nat.le_of_ble_eq_true rfl) ?_
  refine va_putF (D := D) (ci := 0) (v := .ref q15) (ty := .array .int) (C := RX0) (T := TX0) (N := 3) hx hb hts inT0 tyX0 tyX0_ok nmX0 hown hK hP hD hS 0 rfl rfl 2 (by decide) (hts _ mT_179) (fun _ h9 => h9) rfl hin rfl (by decide +kernel) rfl rfl (Nat.le_of_ble_eq_true rfl) dX0_init_17 (fun H locs hP hD hS => ?_)
  have hP : va_P D vwCl ([(a, .inr (0, [.int 0, .ref q7, .ref q15])), (q7, .inl (cI, 20, .inl (fun _ => 0))), (q15, .inl (cI, 20, .inl (fun _ => 0)))]) H := hP
  have hD : va_D A ([(a, .inr (0, [.int 0, .ref q7, .ref q15])), (q7, .inl (cI, 20, .inl (fun _ => 0))), (q15, .inl (cI, 20, .inl (fun _ => 0)))]) := hD
  exact hret _ _ (fun i => [0, q7, q15].getD i 0) _ _ dX0_init_20 hP hD hS
