theorem s_yX4_joinedByOrder : kMS yX4_joinedByOrder cX4_joinedByOrder 5 (some .int) 3 := ⟨mT_222, mT_52, by decide +kernel⟩
theorem v_yX4_joinedByOrder : kMV yX4_joinedByOrder := ⟨mT_221, mT_0⟩
def f_joinedByOrder (w : Ob) (x : Int32) (y : Int32) (v : Int32) : Option Int32 := if x = 2 then (some (y ||| v)) else (if x = 1 then (if y = 0 then (some (if y < v then v else y)) else (if v = 0 then (some (if y < v then v else y)) else (if y = v then (some (if y < v then v else y)) else (some ((w 0 0) - 1))))) else (some (if y < v then v else y)))
set_option maxHeartbeats 4000000 in
set_option maxRecDepth 100000 in
theorem c_joinedByOrder (l : Launch) (D : va_G) (cI cZ cR : ClassId) (wa w1 w2 w3 w4 w5 w6 w7 w8 w9 : Nat) (w : Ob) (x : Int32) (y : Int32) (v : Int32) (r : Int32) (hf : f_joinedByOrder w x y v = some r) : kCr l yX4_joinedByOrder cX4_joinedByOrder 5 (some .int) { frames := 1, cells := 0, slots := 0, locals := 21 } [.ref wa, .int x, .int y, .int v] D cI cZ cR (cWeb cI wa w1 w2 w3 w4 w5 w6 w7 w8 w9 w) r := by
  refine kMri (by decide) (Nat.le_of_ble_eq_true rfl) ?_
  intro p e s m below meth c Q hx hb hml hown hts hk hP hret ls hl
  have hK := hk.1
  have hl : lv_has ls 5 [(0, .ref wa), (1, .int x), (2, .int y), (3, .int v)] := hl
  rw [f_joinedByOrder] at hf
  refine lv_iload_n hx hb dX4_joinedByOrder_0 rfl (lv_at hl 1 rfl) ?_
  refine lv_iconst (v := 2) hx hb dX4_joinedByOrder_1 (by decide) ?_
  refine lv_icmp_ne (tgt := 9) hx hb dX4_joinedByOrder_2 (by decide) (fun c2 => ?_) (fun c2 => ?_)
  · have hf := ite_f c2 hf
    refine lv_iload_n hx hb dX4_joinedByOrder_9 rfl (lv_at hl 1 rfl) ?_
    refine lv_iconst (v := 1) hx hb dX4_joinedByOrder_10 (by decide) ?_
    refine lv_icmp_ne (tgt := 31) hx hb dX4_joinedByOrder_11 (by decide) (fun c11 => ?_) (fun c11 => ?_)
    · have hf := ite_f c11 hf
      refine lv_iconst (v := 0) hx hb dX4_joinedByOrder_31 (by decide) ?_
      refine lv_istore (lv' := [(4, .int 0), (0, .ref wa), (1, .int x), (2, .int y), (3, .int v)]) hx hb dX4_joinedByOrder_32 hl (by decide) rfl (fun ls hl => ?_)
      refine lv_iload hx hb dX4_joinedByOrder_34 (lv_at hl 0 rfl) ?_
      refine lv_if_eq (tgt := 48) hx hb dX4_joinedByOrder_36 (by decide) (fun c36 => ?_) (fun c36 => absurd (show (0 : Int32) = 0 from by decide) c36)
      refine lv_iload_n hx hb dX4_joinedByOrder_48 rfl (lv_at hl 3 rfl) ?_
      refine lv_iload_n hx hb dX4_joinedByOrder_49 rfl (lv_at hl 4 rfl) ?_
      refine va_mmax (x := y) (y := v) (rest := []) hx hb (hml.trans hl.1.symm) hown (hts _ mT_223) (hts _ mT_224) (hts _ mT_58) (hts _ mT_225) (Nat.le_of_ble_eq_true rfl) (Nat.le_of_ble_eq_true rfl) (Nat.zero_le _) (Nat.zero_le _) dX4_joinedByOrder_50 ?_
      exact hret _ _ _ hf dX4_joinedByOrder_53
    · have hf := ite_t c11 hf
      refine lv_iload_n hx hb dX4_joinedByOrder_14 rfl (lv_at hl 2 rfl) ?_
      refine lv_if_eq (tgt := 31) hx hb dX4_joinedByOrder_15 (by decide) (fun c15 => ?_) (fun c15 => ?_)
      · have hf := ite_t c15 hf
        refine lv_iconst (v := 0) hx hb dX4_joinedByOrder_31 (by decide) ?_
        refine lv_istore (lv' := [(4, .int 0), (0, .ref wa), (1, .int x), (2, .int y), (3, .int v)]) hx hb dX4_joinedByOrder_32 hl (by decide) rfl (fun ls hl => ?_)
        refine lv_iload hx hb dX4_joinedByOrder_34 (lv_at hl 0 rfl) ?_
        refine lv_if_eq (tgt := 48) hx hb dX4_joinedByOrder_36 (by decide) (fun c36 => ?_) (fun c36 => absurd (show (0 : Int32) = 0 from by decide) c36)
        refine lv_iload_n hx hb dX4_joinedByOrder_48 rfl (lv_at hl 3 rfl) ?_
        refine lv_iload_n hx hb dX4_joinedByOrder_49 rfl (lv_at hl 4 rfl) ?_
        refine va_mmax (x := y) (y := v) (rest := []) hx hb (hml.trans hl.1.symm) hown (hts _ mT_223) (hts _ mT_224) (hts _ mT_58) (hts _ mT_225) (Nat.le_of_ble_eq_true rfl) (Nat.le_of_ble_eq_true rfl) (Nat.zero_le _) (Nat.zero_le _) dX4_joinedByOrder_50 ?_
        exact hret _ _ _ hf dX4_joinedByOrder_53
      · have hf := ite_f c15 hf
        refine lv_iload_n hx hb dX4_joinedByOrder_18 rfl (lv_at hl 3 rfl) ?_
        refine lv_if_eq (tgt := 31) hx hb dX4_joinedByOrder_19 (by decide) (fun c19 => ?_) (fun c19 => ?_)
        · have hf := ite_t c19 hf
          refine lv_iconst (v := 0) hx hb dX4_joinedByOrder_31 (by decide) ?_
          refine lv_istore (lv' := [(4, .int 0), (0, .ref wa), (1, .int x), (2, .int y), (3, .int v)]) hx hb dX4_joinedByOrder_32 hl (by decide) rfl (fun ls hl => ?_)
          refine lv_iload hx hb dX4_joinedByOrder_34 (lv_at hl 0 rfl) ?_
          refine lv_if_eq (tgt := 48) hx hb dX4_joinedByOrder_36 (by decide) (fun c36 => ?_) (fun c36 => absurd (show (0 : Int32) = 0 from by decide) c36)
          refine lv_iload_n hx hb dX4_joinedByOrder_48 rfl (lv_at hl 3 rfl) ?_
          refine lv_iload_n hx hb dX4_joinedByOrder_49 rfl (lv_at hl 4 rfl) ?_
          refine va_mmax (x := y) (y := v) (rest := []) hx hb (hml.trans hl.1.symm) hown (hts _ mT_223) (hts _ mT_224) (hts _ mT_58) (hts _ mT_225) (Nat.le_of_ble_eq_true rfl) (Nat.le_of_ble_eq_true rfl) (Nat.zero_le _) (Nat.zero_le _) dX4_joinedByOrder_50 ?_
          exact hret _ _ _ hf dX4_joinedByOrder_53
        · have hf := ite_f c19 hf
          refine lv_iload_n hx hb dX4_joinedByOrder_22 rfl (lv_at hl 2 rfl) ?_
          refine lv_iload_n hx hb dX4_joinedByOrder_23 rfl (lv_at hl 3 rfl) ?_
          refine lv_icmp_eq (tgt := 31) hx hb dX4_joinedByOrder_24 (by decide) (fun c24 => ?_) (fun c24 => ?_)
          · have hf := ite_t c24 hf
            refine lv_iconst (v := 0) hx hb dX4_joinedByOrder_31 (by decide) ?_
            refine lv_istore (lv' := [(4, .int 0), (0, .ref wa), (1, .int x), (2, .int y), (3, .int v)]) hx hb dX4_joinedByOrder_32 hl (by decide) rfl (fun ls hl => ?_)
            refine lv_iload hx hb dX4_joinedByOrder_34 (lv_at hl 0 rfl) ?_
            refine lv_if_eq (tgt := 48) hx hb dX4_joinedByOrder_36 (by decide) (fun c36 => ?_) (fun c36 => absurd (show (0 : Int32) = 0 from by decide) c36)
            refine lv_iload_n hx hb dX4_joinedByOrder_48 rfl (lv_at hl 3 rfl) ?_
            refine lv_iload_n hx hb dX4_joinedByOrder_49 rfl (lv_at hl 4 rfl) ?_
            refine va_mmax (x := y) (y := v) (rest := []) hx hb (hml.trans hl.1.symm) hown (hts _ mT_223) (hts _ mT_224) (hts _ mT_58) (hts _ mT_225) (Nat.le_of_ble_eq_true rfl) (Nat.le_of_ble_eq_true rfl) (Nat.zero_le _) (Nat.zero_le _) dX4_joinedByOrder_50 ?_
            exact hret _ _ _ hf dX4_joinedByOrder_53
          · have hf := ite_f c24 hf
            refine lv_iconst (v := 1) hx hb dX4_joinedByOrder_27 (by decide) ?_
            refine lv_goto (tgt := 32) hx hb dX4_joinedByOrder_28 (by decide) ?_
            refine lv_istore (lv' := [(4, .int 1), (0, .ref wa), (1, .int x), (2, .int y), (3, .int v)]) hx hb dX4_joinedByOrder_32 hl (by decide) rfl (fun ls hl => ?_)
            refine lv_iload hx hb dX4_joinedByOrder_34 (lv_at hl 0 rfl) ?_
            refine lv_if_eq (tgt := 48) hx hb dX4_joinedByOrder_36 (by decide) (fun c36 => absurd c36 (by decide)) (fun c36 => ?_)
            refine lv_aload_n hx hb dX4_joinedByOrder_39 rfl (lv_at hl 1 rfl) ?_
            refine va_get (D := D) (ci := 4) (v := .int (w 0 0)) (C := RX4) (T := TX4) (N := 12) hx hb hts inT4 hown hK hP 0 rfl rfl 0 (by decide) (hts _ mT_75) (fun _ h9 => h9) rfl dX4_joinedByOrder_40 ?_
            refine lv_iconst (v := 1) hx hb dX4_joinedByOrder_43 (by decide) ?_
            refine lv_isub hx hb dX4_joinedByOrder_44 ?_
            refine lv_goto (tgt := 53) hx hb dX4_joinedByOrder_45 (by decide) ?_
            exact hret _ _ _ hf dX4_joinedByOrder_53
  · have hf := ite_t c2 hf
    refine lv_iload_n hx hb dX4_joinedByOrder_5 rfl (lv_at hl 2 rfl) ?_
    refine lv_iload_n hx hb dX4_joinedByOrder_6 rfl (lv_at hl 3 rfl) ?_
    refine lv_ior hx hb dX4_joinedByOrder_7 ?_
    exact hret _ _ _ hf dX4_joinedByOrder_8
theorem s_yX4_becomeNew : kMS yX4_becomeNew cX4_becomeNew 6 none 3 := ⟨mT_218, mT_52, by decide +kernel⟩
theorem v_yX4_becomeNew : kMV yX4_becomeNew := ⟨mT_216, mT_217⟩
def k_becomeNew_86 (x4_86 : Int32) (w_86 : Ob) : Option Ob := some w_86
def lp_becomeNew_86 (kk0 : Int32 → Ob → Option Ob) : Nat → Int32 → Ob → Option Ob
  | 0, _, _ => none
  | fu86 + 1, x4_86, w_86 => if 10 ≤ x4_86 then (kk0 x4_86 w_86) else (gd (ck x4_86 10) (gd (ck x4_86 10) ((lp_becomeNew_86 kk0 fu86) (x4_86 + 1) (sA (sA w_86 2 (upd (w_86 2) (Int32.toNatClampNeg x4_86) 0)) 3 (upd (w_86 3) (Int32.toNatClampNeg x4_86) 0)))))
def k_becomeNew_28 (x4_28 : Int32) (w_28 : Ob) : Option Ob := lp_becomeNew_86 k_becomeNew_86 10000 0 w_28
def k_becomeNew_40 (x4_28 : Int32) (go_L28 : Int32 → Ob → Option Ob) (x5_40 : Int32) (w_40 : Ob) : Option Ob := go_L28 (x4_28 + 1) w_40
def lp_becomeNew_40 (x : Int32) (x4_28 : Int32) (kk0 : Int32 → Ob → Option Ob) : Nat → Int32 → Ob → Option Ob
  | 0, _, _ => none
  | fu40 + 1, x5_40, w_40 => if (w_40 0 0) ≤ x5_40 then (kk0 x5_40 w_40) else (bd (f_joinedByOrder w_40 x x4_28 x5_40) (fun q67 => gd (ck ((x4_28 * 8) + x5_40) 64) ((lp_becomeNew_40 x x4_28 kk0 fu40) (x5_40 + 1) (sA w_40 1 (upd (w_40 1) (Int32.toNatClampNeg ((x4_28 * 8) + x5_40)) q67)))))
def lp_becomeNew_28 (x : Int32) (kk0 : Int32 → Ob → Option Ob) : Nat → Int32 → Ob → Option Ob
  | 0, _, _ => none
  | fu28 + 1, x4_28, w_28 => if (w_28 0 0) ≤ x4_28 then (kk0 x4_28 w_28) else (lp_becomeNew_40 x x4_28 (k_becomeNew_40 x4_28 ((lp_becomeNew_28 x kk0 fu28))) 10000 0 w_28)
def f_becomeNew (w : Ob) (x : Int32) (y : Int32) (v : Int32) : Option Ob := if x = 2 then (lp_becomeNew_28 x k_becomeNew_28 10000 0 (sI (sI (sI w 0 8) 1 v) 2 0)) else (lp_becomeNew_28 x k_becomeNew_28 10000 0 (sI (sI (sI w 0 y) 1 v) 2 0))
set_option maxHeartbeats 4000000 in
set_option maxRecDepth 100000 in
theorem c_becomeNew (l : Launch) (D : va_G) (cI cZ cR : ClassId) (wa w1 w2 w3 w4 w5 w6 w7 w8 w9 : Nat) (w : Ob) (x : Int32) (y : Int32) (v : Int32) (sz : Nat) (u : Ob) (hf : f_becomeNew w x y v = some u) : kCv l yX4_becomeNew cX4_becomeNew 6 none { frames := 2, cells := 0, slots := 0, locals := 45 } [.ref wa, .int x, .int y, .int v] D cI cZ cR (cWeb cI wa w1 w2 w3 w4 w5 w6 w7 w8 w9 w) sz (cWeb cI wa w1 w2 w3 w4 w5 w6 w7 w8 w9 u) := by
  refine kMwv (wf := (fun u : Ob => cWeb cI wa w1 w2 w3 w4 w5 w6 w7 w8 w9 u)) (u := u) (by decide) (Nat.le_of_ble_eq_true rfl) ?_
  intro p e s m below meth c Q A hx hb hml hown hts hk hP hD hA hS hret ls hl
  have hS0 := hS
  have hK := hk.1
  have hl : lv_has ls 6 [(0, .ref wa), (1, .int x), (2, .int y), (3, .int v)] := hl
  rw [f_becomeNew] at hf
  refine lv_aload_n hx hb dX4_becomeNew_0 rfl (lv_at hl 0 rfl) ?_
  refine lv_iload_n hx hb dX4_becomeNew_1 rfl (lv_at hl 1 rfl) ?_
  refine lv_iconst (v := 2) hx hb dX4_becomeNew_2 (by decide) ?_
  refine lv_icmp_ne (tgt := 11) hx hb dX4_becomeNew_3 (by decide) (fun c3 => ?_) (fun c3 => ?_)
  · have hf := ite_f c3 hf
    refine lv_iload_n hx hb dX4_becomeNew_11 rfl (lv_at hl 2 rfl) ?_
    refine va_put (D := D) (ci := 4) (v := .int y) (ty := .int) (C := RX4) (T := TX4) (N := 12) hx hb hts inT4 tyX4 tyX4_ok nmX4 hown hK hP hD hS 0 rfl rfl 0 (by decide) (hts _ mT_75) (fun _ h9 => h9) rfl (by decide +kernel) rfl rfl (Nat.le_of_ble_eq_true rfl) dX4_becomeNew_12 (fun H locs hP hD hS => ?_)
    have hP : va_P D vwCl ([(wa, .inr (4, [.int y, .int (w 0 1), .int (w 0 2), .ref w1, .ref w2, .ref w3, .ref w4, .ref w5, .ref w6, .ref w7, .ref w8, .ref w9])), (w1, .inl (cI, 64, .inl (w 1))), (w2, .inl (cI, 10, .inl (w 2))), (w3, .inl (cI, 10, .inl (w 3))), (w4, .inl (cI, 20, .inl (w 4))), (w5, .inl (cI, 20, .inl (w 5))), (w6, .inl (cI, 160, .inl (w 6))), (w7, .inl (cI, 20, .inl (w 7))), (w8, .inl (cI, 20, .inl (w 8))), (w9, .inl (cI, 20, .inl (w 9)))]) H := hP
    have hD : va_D A ([(wa, .inr (4, [.int y, .int (w 0 1), .int (w 0 2), .ref w1, .ref w2, .ref w3, .ref w4, .ref w5, .ref w6, .ref w7, .ref w8, .ref w9])), (w1, .inl (cI, 64, .inl (w 1))), (w2, .inl (cI, 10, .inl (w 2))), (w3, .inl (cI, 10, .inl (w 3))), (w4, .inl (cI, 20, .inl (w 4))), (w5, .inl (cI, 20, .inl (w 5))), (w6, .inl (cI, 160, .inl (w 6))), (w7, .inl (cI, 20, .inl (w 7))), (w8, .inl (cI, 20, .inl (w 8))), (w9, .inl (cI, 20, .inl (w 9)))]) := hD
    refine lv_aload_n hx hb dX4_becomeNew_15 rfl (lv_at hl 0 rfl) ?_
    refine lv_iload_n hx hb dX4_becomeNew_16 rfl (lv_at hl 3 rfl) ?_
    refine va_put (D := D) (ci := 4) (v := .int v) (ty := .int) (C := RX4) (T := TX4) (N := 12) hx hb hts inT4 tyX4 tyX4_ok nmX4 hown hK hP hD hS 0 rfl rfl 1 (by decide) (hts _ mT_79) (fun _ h9 => h9) rfl (by decide +kernel) rfl rfl (Nat.le_of_ble_eq_true rfl) dX4_becomeNew_17 (fun H locs hP hD hS => ?_)
    have hP : va_P D vwCl ([(wa, .inr (4, [.int y, .int v, .int (w 0 2), .ref w1, .ref w2, .ref w3, .ref w4, .ref w5, .ref w6, .ref w7, .ref w8, .ref w9])), (w1, .inl (cI, 64, .inl (w 1))), (w2, .inl (cI, 10, .inl (w 2))), (w3, .inl (cI, 10, .inl (w 3))), (w4, .inl (cI, 20, .inl (w 4))), (w5, .inl (cI, 20, .inl (w 5))), (w6, .inl (cI, 160, .inl (w 6))), (w7, .inl (cI, 20, .inl (w 7))), (w8, .inl (cI, 20, .inl (w 8))), (w9, .inl (cI, 20, .inl (w 9)))]) H := hP
    have hD : va_D A ([(wa, .inr (4, [.int y, .int v, .int (w 0 2), .ref w1, .ref w2, .ref w3, .ref w4, .ref w5, .ref w6, .ref w7, .ref w8, .ref w9])), (w1, .inl (cI, 64, .inl (w 1))), (w2, .inl (cI, 10, .inl (w 2))), (w3, .inl (cI, 10, .inl (w 3))), (w4, .inl (cI, 20, .inl (w 4))), (w5, .inl (cI, 20, .inl (w 5))), (w6, .inl (cI, 160, .inl (w 6))), (w7, .inl (cI, 20, .inl (w 7))), (w8, .inl (cI, 20, .inl (w 8))), (w9, .inl (cI, 20, .inl (w 9)))]) := hD
    refine lv_aload_n hx hb dX4_becomeNew_20 rfl (lv_at hl 0 rfl) ?_
    refine lv_iconst (v := 0) hx hb dX4_becomeNew_21 (by decide) ?_
    refine va_put (D := D) (ci := 4) (v := .int 0) (ty := .int) (C := RX4) (T := TX4) (N := 12) hx hb hts inT4 tyX4 tyX4_ok nmX4 hown hK hP hD hS 0 rfl rfl 2 (by decide) (hts _ mT_81) (fun _ h9 => h9) rfl (by decide +kernel) rfl rfl (Nat.le_of_ble_eq_true rfl) dX4_becomeNew_22 (fun H locs hP hD hS => ?_)
    have hP : va_P D vwCl ([(wa, .inr (4, [.int y, .int v, .int 0, .ref w1, .ref w2, .ref w3, .ref w4, .ref w5, .ref w6, .ref w7, .ref w8, .ref w9])), (w1, .inl (cI, 64, .inl (w 1))), (w2, .inl (cI, 10, .inl (w 2))), (w3, .inl (cI, 10, .inl (w 3))), (w4, .inl (cI, 20, .inl (w 4))), (w5, .inl (cI, 20, .inl (w 5))), (w6, .inl (cI, 160, .inl (w 6))), (w7, .inl (cI, 20, .inl (w 7))), (w8, .inl (cI, 20, .inl (w 8))), (w9, .inl (cI, 20, .inl (w 9)))]) H := hP
    have hD : va_D A ([(wa, .inr (4, [.int y, .int v, .int 0, .ref w1, .ref w2, .ref w3, .ref w4, .ref w5, .ref w6, .ref w7, .ref w8, .ref w9])), (w1, .inl (cI, 64, .inl (w 1))), (w2, .inl (cI, 10, .inl (w 2))), (w3, .inl (cI, 10, .inl (w 3))), (w4, .inl (cI, 20, .inl (w 4))), (w5, .inl (cI, 20, .inl (w 5))), (w6, .inl (cI, 160, .inl (w 6))), (w7, .inl (cI, 20, .inl (w 7))), (w8, .inl (cI, 20, .inl (w 8))), (w9, .inl (cI, 20, .inl (w 9)))]) := hD
    refine lv_iconst (v := 0) hx hb dX4_becomeNew_25 (by decide) ?_
    refine lv_istore (lv' := [(4, .int 0), (0, .ref wa), (1, .int x), (2, .int y), (3, .int v)]) hx hb dX4_becomeNew_26 hl (by decide) rfl (fun ls hl => ?_)
    have kx28 : ∀ (x4_28 : Int32) (w_28 : Ob) (H : Heap) (locs : List Loc) (ls : Array Slot), k_becomeNew_28 x4_28 w_28 = some u → va_P D vwCl (cWeb cI wa w1 w2 w3 w4 w5 w6 w7 w8 w9 w_28) H → va_D A (cWeb cI wa w1 w2 w3 w4 w5 w6 w7 w8 w9 w_28) → va_S A s.heap H locs → lv_has ls 6 [(0, .ref wa), (1, .int x), (2, .int y), (3, .int v), (4, .int x4_28)] → W p l e ({ frames := 2, cells := 0, slots := 0, locals := 45 } : Room) s m ([.ref wa, .int x, .int y, .int v] : List Value).toArray below meth c H locs 0 0 Q (F0 m 83 ls []) := by
      intro x4_28 w_28 H locs ls hf hP hD hS hl
      rw [k_becomeNew_28] at hf
      refine lv_iconst (v := 0) hx hb dX4_becomeNew_83 (by decide) ?_
      refine lv_istore (lv' := [(4, .int 0), (0, .ref wa), (1, .int x), (2, .int y), (3, .int v)]) hx hb dX4_becomeNew_84 hl (by decide) rfl (fun ls hl => ?_)
      have kx86 : ∀ (x4_86 : Int32) (w_86 : Ob) (H : Heap) (locs : List Loc) (ls : Array Slot), k_becomeNew_86 x4_86 w_86 = some u → va_P D vwCl (cWeb cI wa w1 w2 w3 w4 w5 w6 w7 w8 w9 w_86) H → va_D A (cWeb cI wa w1 w2 w3 w4 w5 w6 w7 w8 w9 w_86) → va_S A s.heap H locs → lv_has ls 6 [(0, .ref wa), (1, .int x), (2, .int y), (3, .int v), (4, .int x4_86)] → W p l e ({ frames := 2, cells := 0, slots := 0, locals := 45 } : Room) s m ([.ref wa, .int x, .int y, .int v] : List Value).toArray below meth c H locs 0 0 Q (F0 m 115 ls []) := by
        intro x4_86 w_86 H locs ls hf hP hD hS hl
        rw [k_becomeNew_86] at hf
        exact hret _ _ w_86 _ _ hf dX4_becomeNew_115 hP hD hS
      have lh86 : ∀ (fu86 : Nat) (x4_86 : Int32) (w_86 : Ob) (H : Heap) (locs : List Loc) (ls : Array Slot), lp_becomeNew_86 k_becomeNew_86 fu86 x4_86 w_86 = some u → va_P D vwCl (cWeb cI wa w1 w2 w3 w4 w5 w6 w7 w8 w9 w_86) H → va_D A (cWeb cI wa w1 w2 w3 w4 w5 w6 w7 w8 w9 w_86) → va_S A s.heap H locs → lv_has ls 6 [(0, .ref wa), (1, .int x), (2, .int y), (3, .int v), (4, .int x4_86)] → W p l e ({ frames := 2, cells := 0, slots := 0, locals := 45 } : Room) s m ([.ref wa, .int x, .int y, .int v] : List Value).toArray below meth c H locs 0 0 Q (F0 m 86 ls []) := by
        intro fu86
        induction fu86 with
        | zero => intro x4_86 w_86 H locs ls hf hP hD hS hl; exact no_none hf
        | succ fu86 ih86 =>
          intro x4_86 w_86 H locs ls hf hP hD hS hl
          rw [lp_becomeNew_86] at hf
          refine lv_iload hx hb dX4_becomeNew_86 (lv_at hl 4 rfl) ?_
          refine lv_bipush (v := 10) hx hb dX4_becomeNew_88 (by decide) ?_
          refine lv_icmp_ge (tgt := 115) hx hb dX4_becomeNew_90 (by decide) (fun c90 => ?_) (fun c90 => ?_)
          · have hf := ite_t c90 hf
            exact kx86 x4_86 w_86 _ _ _ hf hP hD hS (lv_sub hl [0, 1, 2, 3, 4] rfl)
          · have hf := ite_f c90 hf
            refine lv_aload_n hx hb dX4_becomeNew_93 rfl (lv_at hl 0 rfl) ?_
            refine va_get (D := D) (ci := 4) (v := .ref w2) (C := RX4) (T := TX4) (N := 12) hx hb hts inT4 hown hK hP 0 rfl rfl 4 (by decide) (hts _ mT_86) (fun _ h9 => h9) rfl dX4_becomeNew_94 ?_
            refine lv_iload hx hb dX4_becomeNew_97 (lv_at hl 4 rfl) ?_
            refine lv_iconst (v := 0) hx hb dX4_becomeNew_99 (by decide) ?_
            obtain ⟨b100, hf⟩ := gd_some hf
            refine va_iast (n := 10) (f := w_86 2) hx hb hK hP hD hS 2 0 rfl rfl (ck_in b100) dX4_becomeNew_100 (fun H locs hP hD hS => ?_)
            have hP : va_P D vwCl ([(wa, .inr (4, [.int (w_86 0 0), .int (w_86 0 1), .int (w_86 0 2), .ref w1, .ref w2, .ref w3, .ref w4, .ref w5, .ref w6, .ref w7, .ref w8, .ref w9])), (w1, .inl (cI, 64, .inl (w_86 1))), (w2, .inl (cI, 10, .inl (upd (w_86 2) (Int32.toNatClampNeg x4_86) 0))), (w3, .inl (cI, 10, .inl (w_86 3))), (w4, .inl (cI, 20, .inl (w_86 4))), (w5, .inl (cI, 20, .inl (w_86 5))), (w6, .inl (cI, 160, .inl (w_86 6))), (w7, .inl (cI, 20, .inl (w_86 7))), (w8, .inl (cI, 20, .inl (w_86 8))), (w9, .inl (cI, 20, .inl (w_86 9)))]) H := hP
            have hD : va_D A ([(wa, .inr (4, [.int (w_86 0 0), .int (w_86 0 1), .int (w_86 0 2), .ref w1, .ref w2, .ref w3, .ref w4, .ref w5, .ref w6, .ref w7, .ref w8, .ref w9])), (w1, .inl (cI, 64, .inl (w_86 1))), (w2, .inl (cI, 10, .inl (upd (w_86 2) (Int32.toNatClampNeg x4_86) 0))), (w3, .inl (cI, 10, .inl (w_86 3))), (w4, .inl (cI, 20, .inl (w_86 4))), (w5, .inl (cI, 20, .inl (w_86 5))), (w6, .inl (cI, 160, .inl (w_86 6))), (w7, .inl (cI, 20, .inl (w_86 7))), (w8, .inl (cI, 20, .inl (w_86 8))), (w9, .inl (cI, 20, .inl (w_86 9)))]) := hD
            refine lv_aload_n hx hb dX4_becomeNew_101 rfl (lv_at hl 0 rfl) ?_
            refine va_get (D := D) (ci := 4) (v := .ref w3) (C := RX4) (T := TX4) (N := 12) hx hb hts inT4 hown hK hP 0 rfl rfl 5 (by decide) (hts _ mT_88) (fun _ h9 => h9) rfl dX4_becomeNew_102 ?_
            refine lv_iload hx hb dX4_becomeNew_105 (lv_at hl 4 rfl) ?_
            refine lv_iconst (v := 0) hx hb dX4_becomeNew_107 (by decide) ?_
            obtain ⟨b108, hf⟩ := gd_some hf
            refine va_iast (n := 10) (f := w_86 3) hx hb hK hP hD hS 3 0 rfl rfl (ck_in b108) dX4_becomeNew_108 (fun H locs hP hD hS => ?_)
            have hP : va_P D vwCl ([(wa, .inr (4, [.int (w_86 0 0), .int (w_86 0 1), .int (w_86 0 2), .ref w1, .ref w2, .ref w3, .ref w4, .ref w5, .ref w6, .ref w7, .ref w8, .ref w9])), (w1, .inl (cI, 64, .inl (w_86 1))), (w2, .inl (cI, 10, .inl (upd (w_86 2) (Int32.toNatClampNeg x4_86) 0))), (w3, .inl (cI, 10, .inl (upd (w_86 3) (Int32.toNatClampNeg x4_86) 0))), (w4, .inl (cI, 20, .inl (w_86 4))), (w5, .inl (cI, 20, .inl (w_86 5))), (w6, .inl (cI, 160, .inl (w_86 6))), (w7, .inl (cI, 20, .inl (w_86 7))), (w8, .inl (cI, 20, .inl (w_86 8))), (w9, .inl (cI, 20, .inl (w_86 9)))]) H := hP
            have hD : va_D A ([(wa, .inr (4, [.int (w_86 0 0), .int (w_86 0 1), .int (w_86 0 2), .ref w1, .ref w2, .ref w3, .ref w4, .ref w5, .ref w6, .ref w7, .ref w8, .ref w9])), (w1, .inl (cI, 64, .inl (w_86 1))), (w2, .inl (cI, 10, .inl (upd (w_86 2) (Int32.toNatClampNeg x4_86) 0))), (w3, .inl (cI, 10, .inl (upd (w_86 3) (Int32.toNatClampNeg x4_86) 0))), (w4, .inl (cI, 20, .inl (w_86 4))), (w5, .inl (cI, 20, .inl (w_86 5))), (w6, .inl (cI, 160, .inl (w_86 6))), (w7, .inl (cI, 20, .inl (w_86 7))), (w8, .inl (cI, 20, .inl (w_86 8))), (w9, .inl (cI, 20, .inl (w_86 9)))]) := hD
            refine lv_iinc (v := x4_86 + 1) (lv' := [(4, .int (x4_86 + 1)), (0, .ref wa), (1, .int x), (2, .int y), (3, .int v)]) hx hb dX4_becomeNew_109 hl (k := 4) rfl rfl (by decide) rfl (fun ls hl => ?_)
            refine lv_goto (tgt := 86) hx hb dX4_becomeNew_112 (by decide) ?_
            exact ih86 (x4_86 + 1) (sA (sA w_86 2 (upd (w_86 2) (Int32.toNatClampNeg x4_86) 0)) 3 (upd (w_86 3) (Int32.toNatClampNeg x4_86) 0)) _ _ _ hf hP hD hS (lv_sub hl [1, 2, 3, 4, 0] rfl)
      exact lh86 10000 0 w_28 _ _ _ hf hP hD hS (lv_sub hl [1, 2, 3, 4, 0] rfl)
    have lh28 : ∀ (fu28 : Nat) (x4_28 : Int32) (w_28 : Ob) (H : Heap) (locs : List Loc) (ls : Array Slot), lp_becomeNew_28 x k_becomeNew_28 fu28 x4_28 w_28 = some u → va_P D vwCl (cWeb cI wa w1 w2 w3 w4 w5 w6 w7 w8 w9 w_28) H → va_D A (cWeb cI wa w1 w2 w3 w4 w5 w6 w7 w8 w9 w_28) → va_S A s.heap H locs → lv_has ls 6 [(0, .ref wa), (1, .int x), (2, .int y), (3, .int v), (4, .int x4_28)] → W p l e ({ frames := 2, cells := 0, slots := 0, locals := 45 } : Room) s m ([.ref wa, .int x, .int y, .int v] : List Value).toArray below meth c H locs 0 0 Q (F0 m 28 ls []) := by
      intro fu28
      induction fu28 with
      | zero => intro x4_28 w_28 H locs ls hf hP hD hS hl; exact no_none hf
      | succ fu28 ih28 =>
        intro x4_28 w_28 H locs ls hf hP hD hS hl
        rw [lp_becomeNew_28] at hf
        refine lv_iload hx hb dX4_becomeNew_28 (lv_at hl 4 rfl) ?_
        refine lv_aload_n hx hb dX4_becomeNew_30 rfl (lv_at hl 0 rfl) ?_
        refine va_get (D := D) (ci := 4) (v := .int (w_28 0 0)) (C := RX4) (T := TX4) (N := 12) hx hb hts inT4 hown hK hP 0 rfl rfl 0 (by decide) (hts _ mT_75) (fun _ h9 => h9) rfl dX4_becomeNew_31 ?_
        refine lv_icmp_ge (tgt := 83) hx hb dX4_becomeNew_34 (by decide) (fun c34 => ?_) (fun c34 => ?_)
        · have hf := ite_t c34 hf
          exact kx28 x4_28 w_28 _ _ _ hf hP hD hS (lv_sub hl [0, 1, 2, 3, 4] rfl)
        · have hf := ite_f c34 hf
          refine lv_iconst (v := 0) hx hb dX4_becomeNew_37 (by decide) ?_
          refine lv_istore (lv' := [(5, .int 0), (0, .ref wa), (1, .int x), (2, .int y), (3, .int v), (4, .int x4_28)]) hx hb dX4_becomeNew_38 hl (by decide) rfl (fun ls hl => ?_)
          have kx40 : ∀ (x5_40 : Int32) (w_40 : Ob) (H : Heap) (locs : List Loc) (ls : Array Slot), (k_becomeNew_40 x4_28 ((lp_becomeNew_28 x k_becomeNew_28 fu28))) x5_40 w_40 = some u → va_P D vwCl (cWeb cI wa w1 w2 w3 w4 w5 w6 w7 w8 w9 w_40) H → va_D A (cWeb cI wa w1 w2 w3 w4 w5 w6 w7 w8 w9 w_40) → va_S A s.heap H locs → lv_has ls 6 [(0, .ref wa), (1, .int x), (2, .int y), (3, .int v), (4, .int x4_28), (5, .int x5_40)] → W p l e ({ frames := 2, cells := 0, slots := 0, locals := 45 } : Room) s m ([.ref wa, .int x, .int y, .int v] : List Value).toArray below meth c H locs 0 0 Q (F0 m 77 ls []) := by
            intro x5_40 w_40 H locs ls hf hP hD hS hl
            rw [k_becomeNew_40] at hf
            refine lv_iinc (v := x4_28 + 1) (lv' := [(4, .int (x4_28 + 1)), (0, .ref wa), (1, .int x), (2, .int y), (3, .int v), (5, .int x5_40)]) hx hb dX4_becomeNew_77 hl (k := 4) rfl rfl (by decide) rfl (fun ls hl => ?_)
            refine lv_goto (tgt := 28) hx hb dX4_becomeNew_80 (by decide) ?_
            exact ih28 (x4_28 + 1) w_40 _ _ _ hf hP hD hS (lv_sub hl [1, 2, 3, 4, 0] rfl)
          have lh40 : ∀ (fu40 : Nat) (x5_40 : Int32) (w_40 : Ob) (H : Heap) (locs : List Loc) (ls : Array Slot), lp_becomeNew_40 x x4_28 (k_becomeNew_40 x4_28 ((lp_becomeNew_28 x k_becomeNew_28 fu28))) fu40 x5_40 w_40 = some u → va_P D vwCl (cWeb cI wa w1 w2 w3 w4 w5 w6 w7 w8 w9 w_40) H → va_D A (cWeb cI wa w1 w2 w3 w4 w5 w6 w7 w8 w9 w_40) → va_S A s.heap H locs → lv_has ls 6 [(0, .ref wa), (1, .int x), (2, .int y), (3, .int v), (4, .int x4_28), (5, .int x5_40)] → W p l e ({ frames := 2, cells := 0, slots := 0, locals := 45 } : Room) s m ([.ref wa, .int x, .int y, .int v] : List Value).toArray below meth c H locs 0 0 Q (F0 m 40 ls []) := by
            intro fu40
            induction fu40 with
            | zero => intro x5_40 w_40 H locs ls hf hP hD hS hl; exact no_none hf
            | succ fu40 ih40 =>
              intro x5_40 w_40 H locs ls hf hP hD hS hl
              rw [lp_becomeNew_40] at hf
              refine lv_iload hx hb dX4_becomeNew_40 (lv_at hl 5 rfl) ?_
              refine lv_aload_n hx hb dX4_becomeNew_42 rfl (lv_at hl 0 rfl) ?_
              refine va_get (D := D) (ci := 4) (v := .int (w_40 0 0)) (C := RX4) (T := TX4) (N := 12) hx hb hts inT4 hown hK hP 0 rfl rfl 0 (by decide) (hts _ mT_75) (fun _ h9 => h9) rfl dX4_becomeNew_43 ?_
              refine lv_icmp_ge (tgt := 77) hx hb dX4_becomeNew_46 (by decide) (fun c46 => ?_) (fun c46 => ?_)
              · have hf := ite_t c46 hf
                exact kx40 x5_40 w_40 _ _ _ hf hP hD hS (lv_sub hl [0, 1, 2, 3, 4, 5] rfl)
              · have hf := ite_f c46 hf
                refine lv_aload_n hx hb dX4_becomeNew_49 rfl (lv_at hl 0 rfl) ?_
                refine va_get (D := D) (ci := 4) (v := .ref w1) (C := RX4) (T := TX4) (N := 12) hx hb hts inT4 hown hK hP 0 rfl rfl 3 (by decide) (hts _ mT_84) (fun _ h9 => h9) rfl dX4_becomeNew_50 ?_
                refine lv_iload hx hb dX4_becomeNew_53 (lv_at hl 4 rfl) ?_
                refine lv_bipush (v := 8) hx hb dX4_becomeNew_55 (by decide) ?_
                refine lv_imul hx hb dX4_becomeNew_57 ?_
                refine lv_iload hx hb dX4_becomeNew_58 (lv_at hl 5 rfl) ?_
                refine lv_iadd hx hb dX4_becomeNew_60 ?_
                refine lv_aload_n hx hb dX4_becomeNew_61 rfl (lv_at hl 0 rfl) ?_
                refine lv_iload_n hx hb dX4_becomeNew_62 rfl (lv_at hl 1 rfl) ?_
                refine lv_iload hx hb dX4_becomeNew_63 (lv_at hl 4 rfl) ?_
                refine lv_iload hx hb dX4_becomeNew_65 (lv_at hl 5 rfl) ?_
                obtain ⟨q67, h67, hf⟩ := bd_some hf
                refine kx_rv (As := [.int x, .int x4_28, .int x5_40]) (rest := [.int ((x4_28 * 8) + x5_40), .ref w1]) hx hb hml hown hts hk hP hl.1 s_yX4_joinedByOrder v_yX4_joinedByOrder (c_joinedByOrder l D cI cZ cR wa w1 w2 w3 w4 w5 w6 w7 w8 w9 w_40 x x4_28 x5_40 _ h67) mT_219 rfl rfl ⟨Nat.le_of_ble_eq_true rfl, Nat.le_of_ble_eq_true rfl⟩ (ci := 4) (q0 := 0) rfl rfl rfl (Nat.le_of_ble_eq_true rfl) ⟨Nat.zero_le _, Nat.zero_le _⟩ dX4_becomeNew_67 ?_
                obtain ⟨b70, hf⟩ := gd_some hf
                refine va_iast (n := 64) (f := w_40 1) hx hb hK hP hD hS 1 0 rfl rfl (ck_in b70) dX4_becomeNew_70 (fun H locs hP hD hS => ?_)
                have hP : va_P D vwCl ([(wa, .inr (4, [.int (w_40 0 0), .int (w_40 0 1), .int (w_40 0 2), .ref w1, .ref w2, .ref w3, .ref w4, .ref w5, .ref w6, .ref w7, .ref w8, .ref w9])), (w1, .inl (cI, 64, .inl (upd (w_40 1) (Int32.toNatClampNeg ((x4_28 * 8) + x5_40)) q67))), (w2, .inl (cI, 10, .inl (w_40 2))), (w3, .inl (cI, 10, .inl (w_40 3))), (w4, .inl (cI, 20, .inl (w_40 4))), (w5, .inl (cI, 20, .inl (w_40 5))), (w6, .inl (cI, 160, .inl (w_40 6))), (w7, .inl (cI, 20, .inl (w_40 7))), (w8, .inl (cI, 20, .inl (w_40 8))), (w9, .inl (cI, 20, .inl (w_40 9)))]) H := hP
                have hD : va_D A ([(wa, .inr (4, [.int (w_40 0 0), .int (w_40 0 1), .int (w_40 0 2), .ref w1, .ref w2, .ref w3, .ref w4, .ref w5, .ref w6, .ref w7, .ref w8, .ref w9])), (w1, .inl (cI, 64, .inl (upd (w_40 1) (Int32.toNatClampNeg ((x4_28 * 8) + x5_40)) q67))), (w2, .inl (cI, 10, .inl (w_40 2))), (w3, .inl (cI, 10, .inl (w_40 3))), (w4, .inl (cI, 20, .inl (w_40 4))), (w5, .inl (cI, 20, .inl (w_40 5))), (w6, .inl (cI, 160, .inl (w_40 6))), (w7, .inl (cI, 20, .inl (w_40 7))), (w8, .inl (cI, 20, .inl (w_40 8))), (w9, .inl (cI, 20, .inl (w_40 9)))]) := hD
                refine lv_iinc (v := x5_40 + 1) (lv' := [(5, .int (x5_40 + 1)), (0, .ref wa), (1, .int x), (2, .int y), (3, .int v), (4, .int x4_28)]) hx hb dX4_becomeNew_71 hl (k := 5) rfl rfl (by decide) rfl (fun ls hl => ?_)
                refine lv_goto (tgt := 40) hx hb dX4_becomeNew_74 (by decide) ?_
                exact ih40 (x5_40 + 1) (sA w_40 1 (upd (w_40 1) (Int32.toNatClampNeg ((x4_28 * 8) + x5_40)) q67)) _ _ _ hf hP hD hS (lv_sub hl [1, 2, 3, 4, 5, 0] rfl)
          exact lh40 10000 0 w_28 _ _ _ hf hP hD hS (lv_sub hl [1, 2, 3, 4, 5, 0] rfl)
    exact lh28 10000 0 (sI (sI (sI w 0 y) 1 v) 2 0) _ _ _ hf hP hD hS (lv_sub hl [1, 2, 3, 4, 0] rfl)
  · have hf := ite_t c3 hf
    refine lv_bipush (v := 8) hx hb dX4_becomeNew_6 (by decide) ?_
    refine lv_goto (tgt := 12) hx hb dX4_becomeNew_8 (by decide) ?_
    refine va_put (D := D) (ci := 4) (v := .int 8) (ty := .int) (C := RX4) (T := TX4) (N := 12) hx hb hts inT4 tyX4 tyX4_ok nmX4 hown hK hP hD hS 0 rfl rfl 0 (by decide) (hts _ mT_75) (fun _ h9 => h9) rfl (by decide +kernel) rfl rfl (Nat.le_of_ble_eq_true rfl) dX4_becomeNew_12 (fun H locs hP hD hS => ?_)
    have hP : va_P D vwCl ([(wa, .inr (4, [.int 8, .int (w 0 1), .int (w 0 2), .ref w1, .ref w2, .ref w3, .ref w4, .ref w5, .ref w6, .ref w7, .ref w8, .ref w9])), (w1, .inl (cI, 64, .inl (w 1))), (w2, .inl (cI, 10, .inl (w 2))), (w3, .inl (cI, 10, .inl (w 3))), (w4, .inl (cI, 20, .inl (w 4))), (w5, .inl (cI, 20, .inl (w 5))), (w6, .inl (cI, 160, .inl (w 6))), (w7, .inl (cI, 20, .inl (w 7))), (w8, .inl (cI, 20, .inl (w 8))), (w9, .inl (cI, 20, .inl (w 9)))]) H := hP
    have hD : va_D A ([(wa, .inr (4, [.int 8, .int (w 0 1), .int (w 0 2), .ref w1, .ref w2, .ref w3, .ref w4, .ref w5, .ref w6, .ref w7, .ref w8, .ref w9])), (w1, .inl (cI, 64, .inl (w 1))), (w2, .inl (cI, 10, .inl (w 2))), (w3, .inl (cI, 10, .inl (w 3))), (w4, .inl (cI, 20, .inl (w 4))), (w5, .inl (cI, 20, .inl (w 5))), (w6, .inl (cI, 160, .inl (w 6))), (w7, .inl (cI, 20, .inl (w 7))), (w8, .inl (cI, 20, .inl (w 8))), (w9, .inl (cI, 20, .inl (w 9)))]) := hD
    refine lv_aload_n hx hb dX4_becomeNew_15 rfl (lv_at hl 0 rfl) ?_
    refine lv_iload_n hx hb dX4_becomeNew_16 rfl (lv_at hl 3 rfl) ?_
    refine va_put (D := D) (ci := 4) (v := .int v) (ty := .int) (C := RX4) (T := TX4) (N := 12) hx hb hts inT4 tyX4 tyX4_ok nmX4 hown hK hP hD hS 0 rfl rfl 1 (by decide) (hts _ mT_79) (fun _ h9 => h9) rfl (by decide +kernel) rfl rfl (Nat.le_of_ble_eq_true rfl) dX4_becomeNew_17 (fun H locs hP hD hS => ?_)
    have hP : va_P D vwCl ([(wa, .inr (4, [.int 8, .int v, .int (w 0 2), .ref w1, .ref w2, .ref w3, .ref w4, .ref w5, .ref w6, .ref w7, .ref w8, .ref w9])), (w1, .inl (cI, 64, .inl (w 1))), (w2, .inl (cI, 10, .inl (w 2))), (w3, .inl (cI, 10, .inl (w 3))), (w4, .inl (cI, 20, .inl (w 4))), (w5, .inl (cI, 20, .inl (w 5))), (w6, .inl (cI, 160, .inl (w 6))), (w7, .inl (cI, 20, .inl (w 7))), (w8, .inl (cI, 20, .inl (w 8))), (w9, .inl (cI, 20, .inl (w 9)))]) H := hP
    have hD : va_D A ([(wa, .inr (4, [.int 8, .int v, .int (w 0 2), .ref w1, .ref w2, .ref w3, .ref w4, .ref w5, .ref w6, .ref w7, .ref w8, .ref w9])), (w1, .inl (cI, 64, .inl (w 1))), (w2, .inl (cI, 10, .inl (w 2))), (w3, .inl (cI, 10, .inl (w 3))), (w4, .inl (cI, 20, .inl (w 4))), (w5, .inl (cI, 20, .inl (w 5))), (w6, .inl (cI, 160, .inl (w 6))), (w7, .inl (cI, 20, .inl (w 7))), (w8, .inl (cI, 20, .inl (w 8))), (w9, .inl (cI, 20, .inl (w 9)))]) := hD
    refine lv_aload_n hx hb dX4_becomeNew_20 rfl (lv_at hl 0 rfl) ?_
    refine lv_iconst (v := 0) hx hb dX4_becomeNew_21 (by decide) ?_
    refine va_put (D := D) (ci := 4) (v := .int 0) (ty := .int) (C := RX4) (T := TX4) (N := 12) hx hb hts inT4 tyX4 tyX4_ok nmX4 hown hK hP hD hS 0 rfl rfl 2 (by decide) (hts _ mT_81) (fun _ h9 => h9) rfl (by decide +kernel) rfl rfl (Nat.le_of_ble_eq_true rfl) dX4_becomeNew_22 (fun H locs hP hD hS => ?_)
    have hP : va_P D vwCl ([(wa, .inr (4, [.int 8, .int v, .int 0, .ref w1, .ref w2, .ref w3, .ref w4, .ref w5, .ref w6, .ref w7, .ref w8, .ref w9])), (w1, .inl (cI, 64, .inl (w 1))), (w2, .inl (cI, 10, .inl (w 2))), (w3, .inl (cI, 10, .inl (w 3))), (w4, .inl (cI, 20, .inl (w 4))), (w5, .inl (cI, 20, .inl (w 5))), (w6, .inl (cI, 160, .inl (w 6))), (w7, .inl (cI, 20, .inl (w 7))), (w8, .inl (cI, 20, .inl (w 8))), (w9, .inl (cI, 20, .inl (w 9)))]) H := hP
    have hD : va_D A ([(wa, .inr (4, [.int 8, .int v, .int 0, .ref w1, .ref w2, .ref w3, .ref w4, .ref w5, .ref w6, .ref w7, .ref w8, .ref w9])), (w1, .inl (cI, 64, .inl (w 1))), (w2, .inl (cI, 10, .inl (w 2))), (w3, .inl (cI, 10, .inl (w 3))), (w4, .inl (cI, 20, .inl (w 4))), (w5, .inl (cI, 20, .inl (w 5))), (w6, .inl (cI, 160, .inl (w 6))), (w7, .inl (cI, 20, .inl (w 7))), (w8, .inl (cI, 20, .inl (w 8))), (w9, .inl (cI, 20, .inl (w 9)))]) := hD
    refine lv_iconst (v := 0) hx hb dX4_becomeNew_25 (by decide) ?_
    refine lv_istore (lv' := [(4, .int 0), (0, .ref wa), (1, .int x), (2, .int y), (3, .int v)]) hx hb dX4_becomeNew_26 hl (by decide) rfl (fun ls hl => ?_)
    have kx28 : ∀ (x4_28 : Int32) (w_28 : Ob) (H : Heap) (locs : List Loc) (ls : Array Slot), k_becomeNew_28 x4_28 w_28 = some u → va_P D vwCl (cWeb cI wa w1 w2 w3 w4 w5 w6 w7 w8 w9 w_28) H → va_D A (cWeb cI wa w1 w2 w3 w4 w5 w6 w7 w8 w9 w_28) → va_S A s.heap H locs → lv_has ls 6 [(0, .ref wa), (1, .int x), (2, .int y), (3, .int v), (4, .int x4_28)] → W p l e ({ frames := 2, cells := 0, slots := 0, locals := 45 } : Room) s m ([.ref wa, .int x, .int y, .int v] : List Value).toArray below meth c H locs 0 0 Q (F0 m 83 ls []) := by
      intro x4_28 w_28 H locs ls hf hP hD hS hl
      rw [k_becomeNew_28] at hf
      refine lv_iconst (v := 0) hx hb dX4_becomeNew_83 (by decide) ?_
      refine lv_istore (lv' := [(4, .int 0), (0, .ref wa), (1, .int x), (2, .int y), (3, .int v)]) hx hb dX4_becomeNew_84 hl (by decide) rfl (fun ls hl => ?_)
      have kx86 : ∀ (x4_86 : Int32) (w_86 : Ob) (H : Heap) (locs : List Loc) (ls : Array Slot), k_becomeNew_86 x4_86 w_86 = some u → va_P D vwCl (cWeb cI wa w1 w2 w3 w4 w5 w6 w7 w8 w9 w_86) H → va_D A (cWeb cI wa w1 w2 w3 w4 w5 w6 w7 w8 w9 w_86) → va_S A s.heap H locs → lv_has ls 6 [(0, .ref wa), (1, .int x), (2, .int y), (3, .int v), (4, .int x4_86)] → W p l e ({ frames := 2, cells := 0, slots := 0, locals := 45 } : Room) s m ([.ref wa, .int x, .int y, .int v] : List Value).toArray below meth c H locs 0 0 Q (F0 m 115 ls []) := by
        intro x4_86 w_86 H locs ls hf hP hD hS hl
        rw [k_becomeNew_86] at hf
        exact hret _ _ w_86 _ _ hf dX4_becomeNew_115 hP hD hS
      have lh86 : ∀ (fu86 : Nat) (x4_86 : Int32) (w_86 : Ob) (H : Heap) (locs : List Loc) (ls : Array Slot), lp_becomeNew_86 k_becomeNew_86 fu86 x4_86 w_86 = some u → va_P D vwCl (cWeb cI wa w1 w2 w3 w4 w5 w6 w7 w8 w9 w_86) H → va_D A (cWeb cI wa w1 w2 w3 w4 w5 w6 w7 w8 w9 w_86) → va_S A s.heap H locs → lv_has ls 6 [(0, .ref wa), (1, .int x), (2, .int y), (3, .int v), (4, .int x4_86)] → W p l e ({ frames := 2, cells := 0, slots := 0, locals := 45 } : Room) s m ([.ref wa, .int x, .int y, .int v] : List Value).toArray below meth c H locs 0 0 Q (F0 m 86 ls []) := by
        intro fu86
        induction fu86 with
        | zero => intro x4_86 w_86 H locs ls hf hP hD hS hl; exact no_none hf
        | succ fu86 ih86 =>
          intro x4_86 w_86 H locs ls hf hP hD hS hl
          rw [lp_becomeNew_86] at hf
          refine lv_iload hx hb dX4_becomeNew_86 (lv_at hl 4 rfl) ?_
          refine lv_bipush (v := 10) hx hb dX4_becomeNew_88 (by decide) ?_
          refine lv_icmp_ge (tgt := 115) hx hb dX4_becomeNew_90 (by decide) (fun c90 => ?_) (fun c90 => ?_)
          · have hf := ite_t c90 hf
            exact kx86 x4_86 w_86 _ _ _ hf hP hD hS (lv_sub hl [0, 1, 2, 3, 4] rfl)
          · have hf := ite_f c90 hf
            refine lv_aload_n hx hb dX4_becomeNew_93 rfl (lv_at hl 0 rfl) ?_
            refine va_get (D := D) (ci := 4) (v := .ref w2) (C := RX4) (T := TX4) (N := 12) hx hb hts inT4 hown hK hP 0 rfl rfl 4 (by decide) (hts _ mT_86) (fun _ h9 => h9) rfl dX4_becomeNew_94 ?_
            refine lv_iload hx hb dX4_becomeNew_97 (lv_at hl 4 rfl) ?_
            refine lv_iconst (v := 0) hx hb dX4_becomeNew_99 (by decide) ?_
            obtain ⟨b100, hf⟩ := gd_some hf
            refine va_iast (n := 10) (f := w_86 2) hx hb hK hP hD hS 2 0 rfl rfl (ck_in b100) dX4_becomeNew_100 (fun H locs hP hD hS => ?_)
            have hP : va_P D vwCl ([(wa, .inr (4, [.int (w_86 0 0), .int (w_86 0 1), .int (w_86 0 2), .ref w1, .ref w2, .ref w3, .ref w4, .ref w5, .ref w6, .ref w7, .ref w8, .ref w9])), (w1, .inl (cI, 64, .inl (w_86 1))), (w2, .inl (cI, 10, .inl (upd (w_86 2) (Int32.toNatClampNeg x4_86) 0))), (w3, .inl (cI, 10, .inl (w_86 3))), (w4, .inl (cI, 20, .inl (w_86 4))), (w5, .inl (cI, 20, .inl (w_86 5))), (w6, .inl (cI, 160, .inl (w_86 6))), (w7, .inl (cI, 20, .inl (w_86 7))), (w8, .inl (cI, 20, .inl (w_86 8))), (w9, .inl (cI, 20, .inl (w_86 9)))]) H := hP
            have hD : va_D A ([(wa, .inr (4, [.int (w_86 0 0), .int (w_86 0 1), .int (w_86 0 2), .ref w1, .ref w2, .ref w3, .ref w4, .ref w5, .ref w6, .ref w7, .ref w8, .ref w9])), (w1, .inl (cI, 64, .inl (w_86 1))), (w2, .inl (cI, 10, .inl (upd (w_86 2) (Int32.toNatClampNeg x4_86) 0))), (w3, .inl (cI, 10, .inl (w_86 3))), (w4, .inl (cI, 20, .inl (w_86 4))), (w5, .inl (cI, 20, .inl (w_86 5))), (w6, .inl (cI, 160, .inl (w_86 6))), (w7, .inl (cI, 20, .inl (w_86 7))), (w8, .inl (cI, 20, .inl (w_86 8))), (w9, .inl (cI, 20, .inl (w_86 9)))]) := hD
            refine lv_aload_n hx hb dX4_becomeNew_101 rfl (lv_at hl 0 rfl) ?_
            refine va_get (D := D) (ci := 4) (v := .ref w3) (C := RX4) (T := TX4) (N := 12) hx hb hts inT4 hown hK hP 0 rfl rfl 5 (by decide) (hts _ mT_88) (fun _ h9 => h9) rfl dX4_becomeNew_102 ?_
            refine lv_iload hx hb dX4_becomeNew_105 (lv_at hl 4 rfl) ?_
            refine lv_iconst (v := 0) hx hb dX4_becomeNew_107 (by decide) ?_
            obtain ⟨b108, hf⟩ := gd_some hf
            refine va_iast (n := 10) (f := w_86 3) hx hb hK hP hD hS 3 0 rfl rfl (ck_in b108) dX4_becomeNew_108 (fun H locs hP hD hS => ?_)
            have hP : va_P D vwCl ([(wa, .inr (4, [.int (w_86 0 0), .int (w_86 0 1), .int (w_86 0 2), .ref w1, .ref w2, .ref w3, .ref w4, .ref w5, .ref w6, .ref w7, .ref w8, .ref w9])), (w1, .inl (cI, 64, .inl (w_86 1))), (w2, .inl (cI, 10, .inl (upd (w_86 2) (Int32.toNatClampNeg x4_86) 0))), (w3, .inl (cI, 10, .inl (upd (w_86 3) (Int32.toNatClampNeg x4_86) 0))), (w4, .inl (cI, 20, .inl (w_86 4))), (w5, .inl (cI, 20, .inl (w_86 5))), (w6, .inl (cI, 160, .inl (w_86 6))), (w7, .inl (cI, 20, .inl (w_86 7))), (w8, .inl (cI, 20, .inl (w_86 8))), (w9, .inl (cI, 20, .inl (w_86 9)))]) H := hP
            have hD : va_D A ([(wa, .inr (4, [.int (w_86 0 0), .int (w_86 0 1), .int (w_86 0 2), .ref w1, .ref w2, .ref w3, .ref w4, .ref w5, .ref w6, .ref w7, .ref w8, .ref w9])), (w1, .inl (cI, 64, .inl (w_86 1))), (w2, .inl (cI, 10, .inl (upd (w_86 2) (Int32.toNatClampNeg x4_86) 0))), (w3, .inl (cI, 10, .inl (upd (w_86 3) (Int32.toNatClampNeg x4_86) 0))), (w4, .inl (cI, 20, .inl (w_86 4))), (w5, .inl (cI, 20, .inl (w_86 5))), (w6, .inl (cI, 160, .inl (w_86 6))), (w7, .inl (cI, 20, .inl (w_86 7))), (w8, .inl (cI, 20, .inl (w_86 8))), (w9, .inl (cI, 20, .inl (w_86 9)))]) := hD
            refine lv_iinc (v := x4_86 + 1) (lv' := [(4, .int (x4_86 + 1)), (0, .ref wa), (1, .int x), (2, .int y), (3, .int v)]) hx hb dX4_becomeNew_109 hl (k := 4) rfl rfl (by decide) rfl (fun ls hl => ?_)
            refine lv_goto (tgt := 86) hx hb dX4_becomeNew_112 (by decide) ?_
            exact ih86 (x4_86 + 1) (sA (sA w_86 2 (upd (w_86 2) (Int32.toNatClampNeg x4_86) 0)) 3 (upd (w_86 3) (Int32.toNatClampNeg x4_86) 0)) _ _ _ hf hP hD hS (lv_sub hl [1, 2, 3, 4, 0] rfl)
      exact lh86 10000 0 w_28 _ _ _ hf hP hD hS (lv_sub hl [1, 2, 3, 4, 0] rfl)
    have lh28 : ∀ (fu28 : Nat) (x4_28 : Int32) (w_28 : Ob) (H : Heap) (locs : List Loc) (ls : Array Slot), lp_becomeNew_28 x k_becomeNew_28 fu28 x4_28 w_28 = some u → va_P D vwCl (cWeb cI wa w1 w2 w3 w4 w5 w6 w7 w8 w9 w_28) H → va_D A (cWeb cI wa w1 w2 w3 w4 w5 w6 w7 w8 w9 w_28) → va_S A s.heap H locs → lv_has ls 6 [(0, .ref wa), (1, .int x), (2, .int y), (3, .int v), (4, .int x4_28)] → W p l e ({ frames := 2, cells := 0, slots := 0, locals := 45 } : Room) s m ([.ref wa, .int x, .int y, .int v] : List Value).toArray below meth c H locs 0 0 Q (F0 m 28 ls []) := by
      intro fu28
      induction fu28 with
      | zero => intro x4_28 w_28 H locs ls hf hP hD hS hl; exact no_none hf
      | succ fu28 ih28 =>
        intro x4_28 w_28 H locs ls hf hP hD hS hl
        rw [lp_becomeNew_28] at hf
        refine lv_iload hx hb dX4_becomeNew_28 (lv_at hl 4 rfl) ?_
        refine lv_aload_n hx hb dX4_becomeNew_30 rfl (lv_at hl 0 rfl) ?_
        refine va_get (D := D) (ci := 4) (v := .int (w_28 0 0)) (C := RX4) (T := TX4) (N := 12) hx hb hts inT4 hown hK hP 0 rfl rfl 0 (by decide) (hts _ mT_75) (fun _ h9 => h9) rfl dX4_becomeNew_31 ?_
        refine lv_icmp_ge (tgt := 83) hx hb dX4_becomeNew_34 (by decide) (fun c34 => ?_) (fun c34 => ?_)
        · have hf := ite_t c34 hf
          exact kx28 x4_28 w_28 _ _ _ hf hP hD hS (lv_sub hl [0, 1, 2, 3, 4] rfl)
        · have hf := ite_f c34 hf
          refine lv_iconst (v := 0) hx hb dX4_becomeNew_37 (by decide) ?_
          refine lv_istore (lv' := [(5, .int 0), (0, .ref wa), (1, .int x), (2, .int y), (3, .int v), (4, .int x4_28)]) hx hb dX4_becomeNew_38 hl (by decide) rfl (fun ls hl => ?_)
          have kx40 : ∀ (x5_40 : Int32) (w_40 : Ob) (H : Heap) (locs : List Loc) (ls : Array Slot), (k_becomeNew_40 x4_28 ((lp_becomeNew_28 x k_becomeNew_28 fu28))) x5_40 w_40 = some u → va_P D vwCl (cWeb cI wa w1 w2 w3 w4 w5 w6 w7 w8 w9 w_40) H → va_D A (cWeb cI wa w1 w2 w3 w4 w5 w6 w7 w8 w9 w_40) → va_S A s.heap H locs → lv_has ls 6 [(0, .ref wa), (1, .int x), (2, .int y), (3, .int v), (4, .int x4_28), (5, .int x5_40)] → W p l e ({ frames := 2, cells := 0, slots := 0, locals := 45 } : Room) s m ([.ref wa, .int x, .int y, .int v] : List Value).toArray below meth c H locs 0 0 Q (F0 m 77 ls []) := by
            intro x5_40 w_40 H locs ls hf hP hD hS hl
            rw [k_becomeNew_40] at hf
            refine lv_iinc (v := x4_28 + 1) (lv' := [(4, .int (x4_28 + 1)), (0, .ref wa), (1, .int x), (2, .int y), (3, .int v), (5, .int x5_40)]) hx hb dX4_becomeNew_77 hl (k := 4) rfl rfl (by decide) rfl (fun ls hl => ?_)
            refine lv_goto (tgt := 28) hx hb dX4_becomeNew_80 (by decide) ?_
            exact ih28 (x4_28 + 1) w_40 _ _ _ hf hP hD hS (lv_sub hl [1, 2, 3, 4, 0] rfl)
          have lh40 : ∀ (fu40 : Nat) (x5_40 : Int32) (w_40 : Ob) (H : Heap) (locs : List Loc) (ls : Array Slot), lp_becomeNew_40 x x4_28 (k_becomeNew_40 x4_28 ((lp_becomeNew_28 x k_becomeNew_28 fu28))) fu40 x5_40 w_40 = some u → va_P D vwCl (cWeb cI wa w1 w2 w3 w4 w5 w6 w7 w8 w9 w_40) H → va_D A (cWeb cI wa w1 w2 w3 w4 w5 w6 w7 w8 w9 w_40) → va_S A s.heap H locs → lv_has ls 6 [(0, .ref wa), (1, .int x), (2, .int y), (3, .int v), (4, .int x4_28), (5, .int x5_40)] → W p l e ({ frames := 2, cells := 0, slots := 0, locals := 45 } : Room) s m ([.ref wa, .int x, .int y, .int v] : List Value).toArray below meth c H locs 0 0 Q (F0 m 40 ls []) := by
            intro fu40
            induction fu40 with
            | zero => intro x5_40 w_40 H locs ls hf hP hD hS hl; exact no_none hf
            | succ fu40 ih40 =>
              intro x5_40 w_40 H locs ls hf hP hD hS hl
              rw [lp_becomeNew_40] at hf
              refine lv_iload hx hb dX4_becomeNew_40 (lv_at hl 5 rfl) ?_
              refine lv_aload_n hx hb dX4_becomeNew_42 rfl (lv_at hl 0 rfl) ?_
              refine va_get (D := D) (ci := 4) (v := .int (w_40 0 0)) (C := RX4) (T := TX4) (N := 12) hx hb hts inT4 hown hK hP 0 rfl rfl 0 (by decide) (hts _ mT_75) (fun _ h9 => h9) rfl dX4_becomeNew_43 ?_
              refine lv_icmp_ge (tgt := 77) hx hb dX4_becomeNew_46 (by decide) (fun c46 => ?_) (fun c46 => ?_)
              · have hf := ite_t c46 hf
                exact kx40 x5_40 w_40 _ _ _ hf hP hD hS (lv_sub hl [0, 1, 2, 3, 4, 5] rfl)
              · have hf := ite_f c46 hf
                refine lv_aload_n hx hb dX4_becomeNew_49 rfl (lv_at hl 0 rfl) ?_
                refine va_get (D := D) (ci := 4) (v := .ref w1) (C := RX4) (T := TX4) (N := 12) hx hb hts inT4 hown hK hP 0 rfl rfl 3 (by decide) (hts _ mT_84) (fun _ h9 => h9) rfl dX4_becomeNew_50 ?_
                refine lv_iload hx hb dX4_becomeNew_53 (lv_at hl 4 rfl) ?_
                refine lv_bipush (v := 8) hx hb dX4_becomeNew_55 (by decide) ?_
                refine lv_imul hx hb dX4_becomeNew_57 ?_
                refine lv_iload hx hb dX4_becomeNew_58 (lv_at hl 5 rfl) ?_
                refine lv_iadd hx hb dX4_becomeNew_60 ?_
                refine lv_aload_n hx hb dX4_becomeNew_61 rfl (lv_at hl 0 rfl) ?_
                refine lv_iload_n hx hb dX4_becomeNew_62 rfl (lv_at hl 1 rfl) ?_
                refine lv_iload hx hb dX4_becomeNew_63 (lv_at hl 4 rfl) ?_
                refine lv_iload hx hb dX4_becomeNew_65 (lv_at hl 5 rfl) ?_
                obtain ⟨q67, h67, hf⟩ := bd_some hf
                refine kx_rv (As := [.int x, .int x4_28, .int x5_40]) (rest := [.int ((x4_28 * 8) + x5_40), .ref w1]) hx hb hml hown hts hk hP hl.1 s_yX4_joinedByOrder v_yX4_joinedByOrder (c_joinedByOrder l D cI cZ cR wa w1 w2 w3 w4 w5 w6 w7 w8 w9 w_40 x x4_28 x5_40 _ h67) mT_219 rfl rfl ⟨Nat.le_of_ble_eq_true rfl, Nat.le_of_ble_eq_true rfl⟩ (ci := 4) (q0 := 0) rfl rfl rfl (Nat.le_of_ble_eq_true rfl) ⟨Nat.zero_le _, Nat.zero_le _⟩ dX4_becomeNew_67 ?_
                obtain ⟨b70, hf⟩ := gd_some hf
                refine va_iast (n := 64) (f := w_40 1) hx hb hK hP hD hS 1 0 rfl rfl (ck_in b70) dX4_becomeNew_70 (fun H locs hP hD hS => ?_)
                have hP : va_P D vwCl ([(wa, .inr (4, [.int (w_40 0 0), .int (w_40 0 1), .int (w_40 0 2), .ref w1, .ref w2, .ref w3, .ref w4, .ref w5, .ref w6, .ref w7, .ref w8, .ref w9])), (w1, .inl (cI, 64, .inl (upd (w_40 1) (Int32.toNatClampNeg ((x4_28 * 8) + x5_40)) q67))), (w2, .inl (cI, 10, .inl (w_40 2))), (w3, .inl (cI, 10, .inl (w_40 3))), (w4, .inl (cI, 20, .inl (w_40 4))), (w5, .inl (cI, 20, .inl (w_40 5))), (w6, .inl (cI, 160, .inl (w_40 6))), (w7, .inl (cI, 20, .inl (w_40 7))), (w8, .inl (cI, 20, .inl (w_40 8))), (w9, .inl (cI, 20, .inl (w_40 9)))]) H := hP
                have hD : va_D A ([(wa, .inr (4, [.int (w_40 0 0), .int (w_40 0 1), .int (w_40 0 2), .ref w1, .ref w2, .ref w3, .ref w4, .ref w5, .ref w6, .ref w7, .ref w8, .ref w9])), (w1, .inl (cI, 64, .inl (upd (w_40 1) (Int32.toNatClampNeg ((x4_28 * 8) + x5_40)) q67))), (w2, .inl (cI, 10, .inl (w_40 2))), (w3, .inl (cI, 10, .inl (w_40 3))), (w4, .inl (cI, 20, .inl (w_40 4))), (w5, .inl (cI, 20, .inl (w_40 5))), (w6, .inl (cI, 160, .inl (w_40 6))), (w7, .inl (cI, 20, .inl (w_40 7))), (w8, .inl (cI, 20, .inl (w_40 8))), (w9, .inl (cI, 20, .inl (w_40 9)))]) := hD
                refine lv_iinc (v := x5_40 + 1) (lv' := [(5, .int (x5_40 + 1)), (0, .ref wa), (1, .int x), (2, .int y), (3, .int v), (4, .int x4_28)]) hx hb dX4_becomeNew_71 hl (k := 5) rfl rfl (by decide) rfl (fun ls hl => ?_)
                refine lv_goto (tgt := 40) hx hb dX4_becomeNew_74 (by decide) ?_
                exact ih40 (x5_40 + 1) (sA w_40 1 (upd (w_40 1) (Int32.toNatClampNeg ((x4_28 * 8) + x5_40)) q67)) _ _ _ hf hP hD hS (lv_sub hl [1, 2, 3, 4, 5, 0] rfl)
          exact lh40 10000 0 w_28 _ _ _ hf hP hD hS (lv_sub hl [1, 2, 3, 4, 5, 0] rfl)
    exact lh28 10000 0 (sI (sI (sI w 0 8) 1 v) 2 0) _ _ _ hf hP hD hS (lv_sub hl [1, 2, 3, 4, 0] rfl)
theorem s_yX4_addWay : kMS yX4_addWay cX4_addWay 5 (some .int) 2 := ⟨mT_473, mT_52, by decide +kernel⟩
theorem v_yX4_addWay : kMV yX4_addWay := ⟨mT_471, mT_472⟩
def k_addWay_43 (w : Ob) (x4_43 : Int32) (w_43 : Ob) : Option (Int32 × Ob) := some (w 0 2, sI w_43 2 ((w_43 0 2) + 1))
def lp_addWay_43 (w : Ob) (kk0 : Int32 → Ob → Option (Int32 × Ob)) : Nat → Int32 → Ob → Option (Int32 × Ob)
  | 0, _, _ => none
  | fu43 + 1, x4_43, w_43 => if 8 ≤ x4_43 then (kk0 x4_43 w_43) else (gd (ck (((w 0 2) * 8) + x4_43) 160) ((lp_addWay_43 w kk0 fu43) (x4_43 + 1) (sA w_43 6 (upd (w_43 6) (Int32.toNatClampNeg (((w 0 2) * 8) + x4_43)) x4_43))))
def f_addWay (w : Ob) (x : Int32) (y : Int32) : Option (Int32 × Ob) := gd (ck (w 0 2) 20) (gd (ck (w 0 2) 20) (gd (ck (w 0 2) 20) (gd (ck (w 0 2) 20) (gd (ck (w 0 2) 20) (lp_addWay_43 w (k_addWay_43 w) 10000 0 (sA (sA (sA (sA (sA w 4 (upd (w 4) (Int32.toNatClampNeg (w 0 2)) x)) 5 (upd (w 5) (Int32.toNatClampNeg (w 0 2)) y)) 7 (upd (w 7) (Int32.toNatClampNeg (w 0 2)) 0)) 8 (upd (w 8) (Int32.toNatClampNeg (w 0 2)) 0)) 9 (upd (w 9) (Int32.toNatClampNeg (w 0 2)) 0)))))))
set_option maxHeartbeats 4000000 in
set_option maxRecDepth 100000 in
theorem c_addWay (l : Launch) (D : va_G) (cI cZ cR : ClassId) (wa w1 w2 w3 w4 w5 w6 w7 w8 w9 : Nat) (w : Ob) (x : Int32) (y : Int32) (sz : Nat) (r : Int32) (u : Ob) (hf : f_addWay w x y = some (r, u)) : kCi l yX4_addWay cX4_addWay 5 (some .int) { frames := 0, cells := 0, slots := 0, locals := 0 } [.ref wa, .int x, .int y] D cI cZ cR (cWeb cI wa w1 w2 w3 w4 w5 w6 w7 w8 w9 w) sz (cWeb cI wa w1 w2 w3 w4 w5 w6 w7 w8 w9 u) r := by
  refine kMwi (wf := (fun u : Ob => cWeb cI wa w1 w2 w3 w4 w5 w6 w7 w8 w9 u)) (u := u) (by decide) (Nat.le_of_ble_eq_true rfl) ?_
  intro p e s m below meth c Q A hx hb hml hown hts hk hP hD hA hS hret ls hl
  have hS0 := hS
  have hK := hk.1
  have hl : lv_has ls 5 [(0, .ref wa), (1, .int x), (2, .int y)] := hl
  rw [f_addWay] at hf
  refine lv_aload_n hx hb dX4_addWay_0 rfl (lv_at hl 0 rfl) ?_
  refine va_get (D := D) (ci := 4) (v := .int (w 0 2)) (C := RX4) (T := TX4) (N := 12) hx hb hts inT4 hown hK hP 0 rfl rfl 2 (by decide) (hts _ mT_81) (fun _ h9 => h9) rfl dX4_addWay_1 ?_
  refine lv_istore_n (lv' := [(3, .int (w 0 2)), (0, .ref wa), (1, .int x), (2, .int y)]) hx hb dX4_addWay_4 rfl hl (by decide) rfl (fun ls hl => ?_)
  refine lv_aload_n hx hb dX4_addWay_5 rfl (lv_at hl 1 rfl) ?_
  refine va_get (D := D) (ci := 4) (v := .ref w4) (C := RX4) (T := TX4) (N := 12) hx hb hts inT4 hown hK hP 0 rfl rfl 6 (by decide) (hts _ mT_91) (fun _ h9 => h9) rfl dX4_addWay_6 ?_
  refine lv_iload_n hx hb dX4_addWay_9 rfl (lv_at hl 0 rfl) ?_
  refine lv_iload_n hx hb dX4_addWay_10 rfl (lv_at hl 2 rfl) ?_
  obtain ⟨b11, hf⟩ := gd_some hf
  refine va_iast (n := 20) (f := w 4) hx hb hK hP hD hS 4 0 rfl rfl (ck_in b11) dX4_addWay_11 (fun H locs hP hD hS => ?_)
  have hP : va_P D vwCl ([(wa, .inr (4, [.int (w 0 0), .int (w 0 1), .int (w 0 2), .ref w1, .ref w2, .ref w3, .ref w4, .ref w5, .ref w6, .ref w7, .ref w8, .ref w9])), (w1, .inl (cI, 64, .inl (w 1))), (w2, .inl (cI, 10, .inl (w 2))), (w3, .inl (cI, 10, .inl (w 3))), (w4, .inl (cI, 20, .inl (upd (w 4) (Int32.toNatClampNeg (w 0 2)) x))), (w5, .inl (cI, 20, .inl (w 5))), (w6, .inl (cI, 160, .inl (w 6))), (w7, .inl (cI, 20, .inl (w 7))), (w8, .inl (cI, 20, .inl (w 8))), (w9, .inl (cI, 20, .inl (w 9)))]) H := hP
  have hD : va_D A ([(wa, .inr (4, [.int (w 0 0), .int (w 0 1), .int (w 0 2), .ref w1, .ref w2, .ref w3, .ref w4, .ref w5, .ref w6, .ref w7, .ref w8, .ref w9])), (w1, .inl (cI, 64, .inl (w 1))), (w2, .inl (cI, 10, .inl (w 2))), (w3, .inl (cI, 10, .inl (w 3))), (w4, .inl (cI, 20, .inl (upd (w 4) (Int32.toNatClampNeg (w 0 2)) x))), (w5, .inl (cI, 20, .inl (w 5))), (w6, .inl (cI, 160, .inl (w 6))), (w7, .inl (cI, 20, .inl (w 7))), (w8, .inl (cI, 20, .inl (w 8))), (w9, .inl (cI, 20, .inl (w 9)))]) := hD
  refine lv_aload_n hx hb dX4_addWay_12 rfl (lv_at hl 1 rfl) ?_
  refine va_get (D := D) (ci := 4) (v := .ref w5) (C := RX4) (T := TX4) (N := 12) hx hb hts inT4 hown hK hP 0 rfl rfl 7 (by decide) (hts _ mT_94) (fun _ h9 => h9) rfl dX4_addWay_13 ?_
  refine lv_iload_n hx hb dX4_addWay_16 rfl (lv_at hl 0 rfl) ?_
  refine lv_iload_n hx hb dX4_addWay_17 rfl (lv_at hl 3 rfl) ?_
  obtain ⟨b18, hf⟩ := gd_some hf
  refine va_iast (n := 20) (f := w 5) hx hb hK hP hD hS 5 0 rfl rfl (ck_in b18) dX4_addWay_18 (fun H locs hP hD hS => ?_)
  have hP : va_P D vwCl ([(wa, .inr (4, [.int (w 0 0), .int (w 0 1), .int (w 0 2), .ref w1, .ref w2, .ref w3, .ref w4, .ref w5, .ref w6, .ref w7, .ref w8, .ref w9])), (w1, .inl (cI, 64, .inl (w 1))), (w2, .inl (cI, 10, .inl (w 2))), (w3, .inl (cI, 10, .inl (w 3))), (w4, .inl (cI, 20, .inl (upd (w 4) (Int32.toNatClampNeg (w 0 2)) x))), (w5, .inl (cI, 20, .inl (upd (w 5) (Int32.toNatClampNeg (w 0 2)) y))), (w6, .inl (cI, 160, .inl (w 6))), (w7, .inl (cI, 20, .inl (w 7))), (w8, .inl (cI, 20, .inl (w 8))), (w9, .inl (cI, 20, .inl (w 9)))]) H := hP
  have hD : va_D A ([(wa, .inr (4, [.int (w 0 0), .int (w 0 1), .int (w 0 2), .ref w1, .ref w2, .ref w3, .ref w4, .ref w5, .ref w6, .ref w7, .ref w8, .ref w9])), (w1, .inl (cI, 64, .inl (w 1))), (w2, .inl (cI, 10, .inl (w 2))), (w3, .inl (cI, 10, .inl (w 3))), (w4, .inl (cI, 20, .inl (upd (w 4) (Int32.toNatClampNeg (w 0 2)) x))), (w5, .inl (cI, 20, .inl (upd (w 5) (Int32.toNatClampNeg (w 0 2)) y))), (w6, .inl (cI, 160, .inl (w 6))), (w7, .inl (cI, 20, .inl (w 7))), (w8, .inl (cI, 20, .inl (w 8))), (w9, .inl (cI, 20, .inl (w 9)))]) := hD
  refine lv_aload_n hx hb dX4_addWay_19 rfl (lv_at hl 1 rfl) ?_
  refine va_get (D := D) (ci := 4) (v := .ref w7) (C := RX4) (T := TX4) (N := 12) hx hb hts inT4 hown hK hP 0 rfl rfl 9 (by decide) (hts _ mT_99) (fun _ h9 => h9) rfl dX4_addWay_20 ?_
  refine lv_iload_n hx hb dX4_addWay_23 rfl (lv_at hl 0 rfl) ?_
  refine lv_iconst (v := 0) hx hb dX4_addWay_24 (by decide) ?_
  obtain ⟨b25, hf⟩ := gd_some hf
  refine va_iast (n := 20) (f := w 7) hx hb hK hP hD hS 7 0 rfl rfl (ck_in b25) dX4_addWay_25 (fun H locs hP hD hS => ?_)
  have hP : va_P D vwCl ([(wa, .inr (4, [.int (w 0 0), .int (w 0 1), .int (w 0 2), .ref w1, .ref w2, .ref w3, .ref w4, .ref w5, .ref w6, .ref w7, .ref w8, .ref w9])), (w1, .inl (cI, 64, .inl (w 1))), (w2, .inl (cI, 10, .inl (w 2))), (w3, .inl (cI, 10, .inl (w 3))), (w4, .inl (cI, 20, .inl (upd (w 4) (Int32.toNatClampNeg (w 0 2)) x))), (w5, .inl (cI, 20, .inl (upd (w 5) (Int32.toNatClampNeg (w 0 2)) y))), (w6, .inl (cI, 160, .inl (w 6))), (w7, .inl (cI, 20, .inl (upd (w 7) (Int32.toNatClampNeg (w 0 2)) 0))), (w8, .inl (cI, 20, .inl (w 8))), (w9, .inl (cI, 20, .inl (w 9)))]) H := hP
  have hD : va_D A ([(wa, .inr (4, [.int (w 0 0), .int (w 0 1), .int (w 0 2), .ref w1, .ref w2, .ref w3, .ref w4, .ref w5, .ref w6, .ref w7, .ref w8, .ref w9])), (w1, .inl (cI, 64, .inl (w 1))), (w2, .inl (cI, 10, .inl (w 2))), (w3, .inl (cI, 10, .inl (w 3))), (w4, .inl (cI, 20, .inl (upd (w 4) (Int32.toNatClampNeg (w 0 2)) x))), (w5, .inl (cI, 20, .inl (upd (w 5) (Int32.toNatClampNeg (w 0 2)) y))), (w6, .inl (cI, 160, .inl (w 6))), (w7, .inl (cI, 20, .inl (upd (w 7) (Int32.toNatClampNeg (w 0 2)) 0))), (w8, .inl (cI, 20, .inl (w 8))), (w9, .inl (cI, 20, .inl (w 9)))]) := hD
  refine lv_aload_n hx hb dX4_addWay_26 rfl (lv_at hl 1 rfl) ?_
  refine va_get (D := D) (ci := 4) (v := .ref w8) (C := RX4) (T := TX4) (N := 12) hx hb hts inT4 hown hK hP 0 rfl rfl 10 (by decide) (hts _ mT_101) (fun _ h9 => h9) rfl dX4_addWay_27 ?_
  refine lv_iload_n hx hb dX4_addWay_30 rfl (lv_at hl 0 rfl) ?_
  refine lv_iconst (v := 0) hx hb dX4_addWay_31 (by decide) ?_
  obtain ⟨b32, hf⟩ := gd_some hf
  refine va_iast (n := 20) (f := w 8) hx hb hK hP hD hS 8 0 rfl rfl (ck_in b32) dX4_addWay_32 (fun H locs hP hD hS => ?_)
  have hP : va_P D vwCl ([(wa, .inr (4, [.int (w 0 0), .int (w 0 1), .int (w 0 2), .ref w1, .ref w2, .ref w3, .ref w4, .ref w5, .ref w6, .ref w7, .ref w8, .ref w9])), (w1, .inl (cI, 64, .inl (w 1))), (w2, .inl (cI, 10, .inl (w 2))), (w3, .inl (cI, 10, .inl (w 3))), (w4, .inl (cI, 20, .inl (upd (w 4) (Int32.toNatClampNeg (w 0 2)) x))), (w5, .inl (cI, 20, .inl (upd (w 5) (Int32.toNatClampNeg (w 0 2)) y))), (w6, .inl (cI, 160, .inl (w 6))), (w7, .inl (cI, 20, .inl (upd (w 7) (Int32.toNatClampNeg (w 0 2)) 0))), (w8, .inl (cI, 20, .inl (upd (w 8) (Int32.toNatClampNeg (w 0 2)) 0))), (w9, .inl (cI, 20, .inl (w 9)))]) H := hP
  have hD : va_D A ([(wa, .inr (4, [.int (w 0 0), .int (w 0 1), .int (w 0 2), .ref w1, .ref w2, .ref w3, .ref w4, .ref w5, .ref w6, .ref w7, .ref w8, .ref w9])), (w1, .inl (cI, 64, .inl (w 1))), (w2, .inl (cI, 10, .inl (w 2))), (w3, .inl (cI, 10, .inl (w 3))), (w4, .inl (cI, 20, .inl (upd (w 4) (Int32.toNatClampNeg (w 0 2)) x))), (w5, .inl (cI, 20, .inl (upd (w 5) (Int32.toNatClampNeg (w 0 2)) y))), (w6, .inl (cI, 160, .inl (w 6))), (w7, .inl (cI, 20, .inl (upd (w 7) (Int32.toNatClampNeg (w 0 2)) 0))), (w8, .inl (cI, 20, .inl (upd (w 8) (Int32.toNatClampNeg (w 0 2)) 0))), (w9, .inl (cI, 20, .inl (w 9)))]) := hD
  refine lv_aload_n hx hb dX4_addWay_33 rfl (lv_at hl 1 rfl) ?_
  refine va_get (D := D) (ci := 4) (v := .ref w9) (C := RX4) (T := TX4) (N := 12) hx hb hts inT4 hown hK hP 0 rfl rfl 11 (by decide) (hts _ mT_103) (fun _ h9 => h9) rfl dX4_addWay_34 ?_
  refine lv_iload_n hx hb dX4_addWay_37 rfl (lv_at hl 0 rfl) ?_
  refine lv_iconst (v := 0) hx hb dX4_addWay_38 (by decide) ?_
  obtain ⟨b39, hf⟩ := gd_some hf
  refine va_iast (n := 20) (f := w 9) hx hb hK hP hD hS 9 0 rfl rfl (ck_in b39) dX4_addWay_39 (fun H locs hP hD hS => ?_)
  have hP : va_P D vwCl ([(wa, .inr (4, [.int (w 0 0), .int (w 0 1), .int (w 0 2), .ref w1, .ref w2, .ref w3, .ref w4, .ref w5, .ref w6, .ref w7, .ref w8, .ref w9])), (w1, .inl (cI, 64, .inl (w 1))), (w2, .inl (cI, 10, .inl (w 2))), (w3, .inl (cI, 10, .inl (w 3))), (w4, .inl (cI, 20, .inl (upd (w 4) (Int32.toNatClampNeg (w 0 2)) x))), (w5, .inl (cI, 20, .inl (upd (w 5) (Int32.toNatClampNeg (w 0 2)) y))), (w6, .inl (cI, 160, .inl (w 6))), (w7, .inl (cI, 20, .inl (upd (w 7) (Int32.toNatClampNeg (w 0 2)) 0))), (w8, .inl (cI, 20, .inl (upd (w 8) (Int32.toNatClampNeg (w 0 2)) 0))), (w9, .inl (cI, 20, .inl (upd (w 9) (Int32.toNatClampNeg (w 0 2)) 0)))]) H := hP
  have hD : va_D A ([(wa, .inr (4, [.int (w 0 0), .int (w 0 1), .int (w 0 2), .ref w1, .ref w2, .ref w3, .ref w4, .ref w5, .ref w6, .ref w7, .ref w8, .ref w9])), (w1, .inl (cI, 64, .inl (w 1))), (w2, .inl (cI, 10, .inl (w 2))), (w3, .inl (cI, 10, .inl (w 3))), (w4, .inl (cI, 20, .inl (upd (w 4) (Int32.toNatClampNeg (w 0 2)) x))), (w5, .inl (cI, 20, .inl (upd (w 5) (Int32.toNatClampNeg (w 0 2)) y))), (w6, .inl (cI, 160, .inl (w 6))), (w7, .inl (cI, 20, .inl (upd (w 7) (Int32.toNatClampNeg (w 0 2)) 0))), (w8, .inl (cI, 20, .inl (upd (w 8) (Int32.toNatClampNeg (w 0 2)) 0))), (w9, .inl (cI, 20, .inl (upd (w 9) (Int32.toNatClampNeg (w 0 2)) 0)))]) := hD
  refine lv_iconst (v := 0) hx hb dX4_addWay_40 (by decide) ?_
  refine lv_istore (lv' := [(4, .int 0), (3, .int (w 0 2)), (0, .ref wa), (1, .int x), (2, .int y)]) hx hb dX4_addWay_41 hl (by decide) rfl (fun ls hl => ?_)
  have kx43 : ∀ (x4_43 : Int32) (w_43 : Ob) (H : Heap) (locs : List Loc) (ls : Array Slot), (k_addWay_43 w) x4_43 w_43 = some (r, u) → va_P D vwCl (cWeb cI wa w1 w2 w3 w4 w5 w6 w7 w8 w9 w_43) H → va_D A (cWeb cI wa w1 w2 w3 w4 w5 w6 w7 w8 w9 w_43) → va_S A s.heap H locs → lv_has ls 5 [(0, .ref wa), (1, .int x), (2, .int y), (3, .int (w 0 2)), (4, .int x4_43)] → W p l e ({ frames := 0, cells := 0, slots := 0, locals := 0 } : Room) s m ([.ref wa, .int x, .int y] : List Value).toArray below meth c H locs 0 0 Q (F0 m 70 ls []) := by
    intro x4_43 w_43 H locs ls hf hP hD hS hl
    rw [k_addWay_43] at hf
    refine lv_aload_n hx hb dX4_addWay_70 rfl (lv_at hl 0 rfl) ?_
    refine lv_dup hx hb dX4_addWay_71 rfl ?_
    refine va_get (D := D) (ci := 4) (v := .int (w_43 0 2)) (C := RX4) (T := TX4) (N := 12) hx hb hts inT4 hown hK hP 0 rfl rfl 2 (by decide) (hts _ mT_81) (fun _ h9 => h9) rfl dX4_addWay_72 ?_
    refine lv_iconst (v := 1) hx hb dX4_addWay_75 (by decide) ?_
    refine lv_iadd hx hb dX4_addWay_76 ?_
    refine va_put (D := D) (ci := 4) (v := .int ((w_43 0 2) + 1)) (ty := .int) (C := RX4) (T := TX4) (N := 12) hx hb hts inT4 tyX4 tyX4_ok nmX4 hown hK hP hD hS 0 rfl rfl 2 (by decide) (hts _ mT_81) (fun _ h9 => h9) rfl (by decide +kernel) rfl rfl (Nat.le_of_ble_eq_true rfl) dX4_addWay_77 (fun H locs hP hD hS => ?_)
    have hP : va_P D vwCl ([(wa, .inr (4, [.int (w_43 0 0), .int (w_43 0 1), .int ((w_43 0 2) + 1), .ref w1, .ref w2, .ref w3, .ref w4, .ref w5, .ref w6, .ref w7, .ref w8, .ref w9])), (w1, .inl (cI, 64, .inl (w_43 1))), (w2, .inl (cI, 10, .inl (w_43 2))), (w3, .inl (cI, 10, .inl (w_43 3))), (w4, .inl (cI, 20, .inl (w_43 4))), (w5, .inl (cI, 20, .inl (w_43 5))), (w6, .inl (cI, 160, .inl (w_43 6))), (w7, .inl (cI, 20, .inl (w_43 7))), (w8, .inl (cI, 20, .inl (w_43 8))), (w9, .inl (cI, 20, .inl (w_43 9)))]) H := hP
    have hD : va_D A ([(wa, .inr (4, [.int (w_43 0 0), .int (w_43 0 1), .int ((w_43 0 2) + 1), .ref w1, .ref w2, .ref w3, .ref w4, .ref w5, .ref w6, .ref w7, .ref w8, .ref w9])), (w1, .inl (cI, 64, .inl (w_43 1))), (w2, .inl (cI, 10, .inl (w_43 2))), (w3, .inl (cI, 10, .inl (w_43 3))), (w4, .inl (cI, 20, .inl (w_43 4))), (w5, .inl (cI, 20, .inl (w_43 5))), (w6, .inl (cI, 160, .inl (w_43 6))), (w7, .inl (cI, 20, .inl (w_43 7))), (w8, .inl (cI, 20, .inl (w_43 8))), (w9, .inl (cI, 20, .inl (w_43 9)))]) := hD
    refine lv_iload_n hx hb dX4_addWay_80 rfl (lv_at hl 3 rfl) ?_
    exact hret _ _ _ (sI w_43 2 ((w_43 0 2) + 1)) _ _ hf dX4_addWay_81 hP hD hS
  have lh43 : ∀ (fu43 : Nat) (x4_43 : Int32) (w_43 : Ob) (H : Heap) (locs : List Loc) (ls : Array Slot), lp_addWay_43 w (k_addWay_43 w) fu43 x4_43 w_43 = some (r, u) → va_P D vwCl (cWeb cI wa w1 w2 w3 w4 w5 w6 w7 w8 w9 w_43) H → va_D A (cWeb cI wa w1 w2 w3 w4 w5 w6 w7 w8 w9 w_43) → va_S A s.heap H locs → lv_has ls 5 [(0, .ref wa), (1, .int x), (2, .int y), (3, .int (w 0 2)), (4, .int x4_43)] → W p l e ({ frames := 0, cells := 0, slots := 0, locals := 0 } : Room) s m ([.ref wa, .int x, .int y] : List Value).toArray below meth c H locs 0 0 Q (F0 m 43 ls []) := by
    intro fu43
    induction fu43 with
    | zero => intro x4_43 w_43 H locs ls hf hP hD hS hl; exact no_none hf
    | succ fu43 ih43 =>
      intro x4_43 w_43 H locs ls hf hP hD hS hl
      rw [lp_addWay_43] at hf
      refine lv_iload hx hb dX4_addWay_43 (lv_at hl 4 rfl) ?_
      refine lv_bipush (v := 8) hx hb dX4_addWay_45 (by decide) ?_
      refine lv_icmp_ge (tgt := 70) hx hb dX4_addWay_47 (by decide) (fun c47 => ?_) (fun c47 => ?_)
      · have hf := ite_t c47 hf
        exact kx43 x4_43 w_43 _ _ _ hf hP hD hS (lv_sub hl [0, 1, 2, 3, 4] rfl)
      · have hf := ite_f c47 hf
        refine lv_aload_n hx hb dX4_addWay_50 rfl (lv_at hl 0 rfl) ?_
        refine va_get (D := D) (ci := 4) (v := .ref w6) (C := RX4) (T := TX4) (N := 12) hx hb hts inT4 hown hK hP 0 rfl rfl 8 (by decide) (hts _ mT_97) (fun _ h9 => h9) rfl dX4_addWay_51 ?_
        refine lv_iload_n hx hb dX4_addWay_54 rfl (lv_at hl 3 rfl) ?_
        refine lv_bipush (v := 8) hx hb dX4_addWay_55 (by decide) ?_
        refine lv_imul hx hb dX4_addWay_57 ?_
        refine lv_iload hx hb dX4_addWay_58 (lv_at hl 4 rfl) ?_
        refine lv_iadd hx hb dX4_addWay_60 ?_
        refine lv_iload hx hb dX4_addWay_61 (lv_at hl 4 rfl) ?_
        obtain ⟨b63, hf⟩ := gd_some hf
        refine va_iast (n := 160) (f := w_43 6) hx hb hK hP hD hS 6 0 rfl rfl (ck_in b63) dX4_addWay_63 (fun H locs hP hD hS => ?_)
        have hP : va_P D vwCl ([(wa, .inr (4, [.int (w_43 0 0), .int (w_43 0 1), .int (w_43 0 2), .ref w1, .ref w2, .ref w3, .ref w4, .ref w5, .ref w6, .ref w7, .ref w8, .ref w9])), (w1, .inl (cI, 64, .inl (w_43 1))), (w2, .inl (cI, 10, .inl (w_43 2))), (w3, .inl (cI, 10, .inl (w_43 3))), (w4, .inl (cI, 20, .inl (w_43 4))), (w5, .inl (cI, 20, .inl (w_43 5))), (w6, .inl (cI, 160, .inl (upd (w_43 6) (Int32.toNatClampNeg (((w 0 2) * 8) + x4_43)) x4_43))), (w7, .inl (cI, 20, .inl (w_43 7))), (w8, .inl (cI, 20, .inl (w_43 8))), (w9, .inl (cI, 20, .inl (w_43 9)))]) H := hP
        have hD : va_D A ([(wa, .inr (4, [.int (w_43 0 0), .int (w_43 0 1), .int (w_43 0 2), .ref w1, .ref w2, .ref w3, .ref w4, .ref w5, .ref w6, .ref w7, .ref w8, .ref w9])), (w1, .inl (cI, 64, .inl (w_43 1))), (w2, .inl (cI, 10, .inl (w_43 2))), (w3, .inl (cI, 10, .inl (w_43 3))), (w4, .inl (cI, 20, .inl (w_43 4))), (w5, .inl (cI, 20, .inl (w_43 5))), (w6, .inl (cI, 160, .inl (upd (w_43 6) (Int32.toNatClampNeg (((w 0 2) * 8) + x4_43)) x4_43))), (w7, .inl (cI, 20, .inl (w_43 7))), (w8, .inl (cI, 20, .inl (w_43 8))), (w9, .inl (cI, 20, .inl (w_43 9)))]) := hD
        refine lv_iinc (v := x4_43 + 1) (lv' := [(4, .int (x4_43 + 1)), (0, .ref wa), (1, .int x), (2, .int y), (3, .int (w 0 2))]) hx hb dX4_addWay_64 hl (k := 4) rfl rfl (by decide) rfl (fun ls hl => ?_)
        refine lv_goto (tgt := 43) hx hb dX4_addWay_67 (by decide) ?_
        exact ih43 (x4_43 + 1) (sA w_43 6 (upd (w_43 6) (Int32.toNatClampNeg (((w 0 2) * 8) + x4_43)) x4_43)) _ _ _ hf hP hD hS (lv_sub hl [1, 2, 3, 4, 0] rfl)
  exact lh43 10000 0 (sA (sA (sA (sA (sA w 4 (upd (w 4) (Int32.toNatClampNeg (w 0 2)) x)) 5 (upd (w 5) (Int32.toNatClampNeg (w 0 2)) y)) 7 (upd (w 7) (Int32.toNatClampNeg (w 0 2)) 0)) 8 (upd (w 8) (Int32.toNatClampNeg (w 0 2)) 0)) 9 (upd (w 9) (Int32.toNatClampNeg (w 0 2)) 0)) _ _ _ hf hP hD hS (lv_sub hl [2, 3, 4, 1, 0] rfl)
theorem s_yX4_removeWay : kMS yX4_removeWay cX4_removeWay 3 none 1 := ⟨mT_481, mT_52, by decide +kernel⟩
theorem v_yX4_removeWay : kMV yX4_removeWay := ⟨mT_479, mT_480⟩
def f_removeWay (w : Ob) (x : Int32) : Option Ob := gd (cpy (x + 1) x (((w 0 2) - x) - 1) 20 20) (gd (cpy (x + 1) x (((w 0 2) - x) - 1) 20 20) (gd (cpy (x + 1) x (((w 0 2) - x) - 1) 20 20) (gd (cpy (x + 1) x (((w 0 2) - x) - 1) 20 20) (gd (cpy (x + 1) x (((w 0 2) - x) - 1) 20 20) (gd (cpy ((x + 1) * 8) (x * 8) ((((w 0 2) - x) - 1) * 8) 160 160) (some (sI (sA (sA (sA (sA (sA (sA w 4 (va_cpy (w 4) (w 4) (Int32.toNatClampNeg (x + 1)) (Int32.toNatClampNeg x) (Int32.toNatClampNeg (((w 0 2) - x) - 1)))) 5 (va_cpy (w 5) (w 5) (Int32.toNatClampNeg (x + 1)) (Int32.toNatClampNeg x) (Int32.toNatClampNeg (((w 0 2) - x) - 1)))) 7 (va_cpy (w 7) (w 7) (Int32.toNatClampNeg (x + 1)) (Int32.toNatClampNeg x) (Int32.toNatClampNeg (((w 0 2) - x) - 1)))) 8 (va_cpy (w 8) (w 8) (Int32.toNatClampNeg (x + 1)) (Int32.toNatClampNeg x) (Int32.toNatClampNeg (((w 0 2) - x) - 1)))) 9 (va_cpy (w 9) (w 9) (Int32.toNatClampNeg (x + 1)) (Int32.toNatClampNeg x) (Int32.toNatClampNeg (((w 0 2) - x) - 1)))) 6 (va_cpy (w 6) (w 6) (Int32.toNatClampNeg ((x + 1) * 8)) (Int32.toNatClampNeg (x * 8)) (Int32.toNatClampNeg ((((w 0 2) - x) - 1) * 8)))) 2 ((w 0 2) - 1))))))))
set_option maxHeartbeats 4000000 in
set_option maxRecDepth 100000 in
theorem c_removeWay (l : Launch) (D : va_G) (cI cZ cR : ClassId) (wa w1 w2 w3 w4 w5 w6 w7 w8 w9 : Nat) (w : Ob) (x : Int32) (sz : Nat) (u : Ob) (hf : f_removeWay w x = some u) : kCv l yX4_removeWay cX4_removeWay 3 none { frames := 1, cells := 0, slots := 0, locals := 40 } [.ref wa, .int x] D cI cZ cR (cWeb cI wa w1 w2 w3 w4 w5 w6 w7 w8 w9 w) sz (cWeb cI wa w1 w2 w3 w4 w5 w6 w7 w8 w9 u) := by
  refine kMwv (wf := (fun u : Ob => cWeb cI wa w1 w2 w3 w4 w5 w6 w7 w8 w9 u)) (u := u) (by decide) (Nat.le_of_ble_eq_true rfl) ?_
  intro p e s m below meth c Q A hx hb hml hown hts hk hP hD hA hS hret ls hl
  have hS0 := hS
  have hK := hk.1
  have hl : lv_has ls 3 [(0, .ref wa), (1, .int x)] := hl
  rw [f_removeWay] at hf
  refine lv_aload_n hx hb dX4_removeWay_0 rfl (lv_at hl 0 rfl) ?_
  refine va_get (D := D) (ci := 4) (v := .int (w 0 2)) (C := RX4) (T := TX4) (N := 12) hx hb hts inT4 hown hK hP 0 rfl rfl 2 (by decide) (hts _ mT_81) (fun _ h9 => h9) rfl dX4_removeWay_1 ?_
  refine lv_iload_n hx hb dX4_removeWay_4 rfl (lv_at hl 1 rfl) ?_
  refine lv_isub hx hb dX4_removeWay_5 ?_
  refine lv_iconst (v := 1) hx hb dX4_removeWay_6 (by decide) ?_
  refine lv_isub hx hb dX4_removeWay_7 ?_
  refine lv_istore_n (lv' := [(2, .int (((w 0 2) - x) - 1)), (0, .ref wa), (1, .int x)]) hx hb dX4_removeWay_8 rfl hl (by decide) rfl (fun ls hl => ?_)
  refine lv_aload_n hx hb dX4_removeWay_9 rfl (lv_at hl 1 rfl) ?_
  refine va_get (D := D) (ci := 4) (v := .ref w4) (C := RX4) (T := TX4) (N := 12) hx hb hts inT4 hown hK hP 0 rfl rfl 6 (by decide) (hts _ mT_91) (fun _ h9 => h9) rfl dX4_removeWay_10 ?_
  refine lv_iload_n hx hb dX4_removeWay_13 rfl (lv_at hl 2 rfl) ?_
  refine lv_iconst (v := 1) hx hb dX4_removeWay_14 (by decide) ?_
  refine lv_iadd hx hb dX4_removeWay_15 ?_
  refine lv_aload_n hx hb dX4_removeWay_16 rfl (lv_at hl 1 rfl) ?_
  refine va_get (D := D) (ci := 4) (v := .ref w4) (C := RX4) (T := TX4) (N := 12) hx hb hts inT4 hown hK hP 0 rfl rfl 6 (by decide) (hts _ mT_91) (fun _ h9 => h9) rfl dX4_removeWay_17 ?_
  refine lv_iload_n hx hb dX4_removeWay_20 rfl (lv_at hl 2 rfl) ?_
  refine lv_iload_n hx hb dX4_removeWay_21 rfl (lv_at hl 0 rfl) ?_
  obtain ⟨b22, hf⟩ := gd_some hf
  refine va_copyi (rest := []) (f := w 4) (g := w 4) (ty := .int) hx hb (hml.trans hl.1.symm) hown (hts _ mT_448) (hts _ mT_450) (hts _ mT_449) (hts _ mT_60) hK hP hD hS 4 4 0 0 rfl rfl rfl rfl rfl (cpy_1 b22) (cpy_2 b22) (cpy_3 b22) (cpy_4 b22) (cpy_5 b22) (fun _ _ => rfl) (Nat.le_of_ble_eq_true rfl) (Nat.le_of_ble_eq_true rfl) dX4_removeWay_22 (fun H locs hP hD hS => ?_)
  have hP : va_P D vwCl ([(wa, .inr (4, [.int (w 0 0), .int (w 0 1), .int (w 0 2), .ref w1, .ref w2, .ref w3, .ref w4, .ref w5, .ref w6, .ref w7, .ref w8, .ref w9])), (w1, .inl (cI, 64, .inl (w 1))), (w2, .inl (cI, 10, .inl (w 2))), (w3, .inl (cI, 10, .inl (w 3))), (w4, .inl (cI, 20, .inl (va_cpy (w 4) (w 4) (Int32.toNatClampNeg (x + 1)) (Int32.toNatClampNeg x) (Int32.toNatClampNeg (((w 0 2) - x) - 1))))), (w5, .inl (cI, 20, .inl (w 5))), (w6, .inl (cI, 160, .inl (w 6))), (w7, .inl (cI, 20, .inl (w 7))), (w8, .inl (cI, 20, .inl (w 8))), (w9, .inl (cI, 20, .inl (w 9)))]) H := hP
  have hD : va_D A ([(wa, .inr (4, [.int (w 0 0), .int (w 0 1), .int (w 0 2), .ref w1, .ref w2, .ref w3, .ref w4, .ref w5, .ref w6, .ref w7, .ref w8, .ref w9])), (w1, .inl (cI, 64, .inl (w 1))), (w2, .inl (cI, 10, .inl (w 2))), (w3, .inl (cI, 10, .inl (w 3))), (w4, .inl (cI, 20, .inl (va_cpy (w 4) (w 4) (Int32.toNatClampNeg (x + 1)) (Int32.toNatClampNeg x) (Int32.toNatClampNeg (((w 0 2) - x) - 1))))), (w5, .inl (cI, 20, .inl (w 5))), (w6, .inl (cI, 160, .inl (w 6))), (w7, .inl (cI, 20, .inl (w 7))), (w8, .inl (cI, 20, .inl (w 8))), (w9, .inl (cI, 20, .inl (w 9)))]) := hD
  refine lv_aload_n hx hb dX4_removeWay_25 rfl (lv_at hl 1 rfl) ?_
  refine va_get (D := D) (ci := 4) (v := .ref w5) (C := RX4) (T := TX4) (N := 12) hx hb hts inT4 hown hK hP 0 rfl rfl 7 (by decide) (hts _ mT_94) (fun _ h9 => h9) rfl dX4_removeWay_26 ?_
  refine lv_iload_n hx hb dX4_removeWay_29 rfl (lv_at hl 2 rfl) ?_
  refine lv_iconst (v := 1) hx hb dX4_removeWay_30 (by decide) ?_
  refine lv_iadd hx hb dX4_removeWay_31 ?_
  refine lv_aload_n hx hb dX4_removeWay_32 rfl (lv_at hl 1 rfl) ?_
  refine va_get (D := D) (ci := 4) (v := .ref w5) (C := RX4) (T := TX4) (N := 12) hx hb hts inT4 hown hK hP 0 rfl rfl 7 (by decide) (hts _ mT_94) (fun _ h9 => h9) rfl dX4_removeWay_33 ?_
  refine lv_iload_n hx hb dX4_removeWay_36 rfl (lv_at hl 2 rfl) ?_
  refine lv_iload_n hx hb dX4_removeWay_37 rfl (lv_at hl 0 rfl) ?_
  obtain ⟨b38, hf⟩ := gd_some hf
  refine va_copyi (rest := []) (f := w 5) (g := w 5) (ty := .int) hx hb (hml.trans hl.1.symm) hown (hts _ mT_448) (hts _ mT_450) (hts _ mT_449) (hts _ mT_60) hK hP hD hS 5 5 0 0 rfl rfl rfl rfl rfl (cpy_1 b38) (cpy_2 b38) (cpy_3 b38) (cpy_4 b38) (cpy_5 b38) (fun _ _ => rfl) (Nat.le_of_ble_eq_true rfl) (Nat.le_of_ble_eq_true rfl) dX4_removeWay_38 (fun H locs hP hD hS => ?_)
  have hP : va_P D vwCl ([(wa, .inr (4, [.int (w 0 0), .int (w 0 1), .int (w 0 2), .ref w1, .ref w2, .ref w3, .ref w4, .ref w5, .ref w6, .ref w7, .ref w8, .ref w9])), (w1, .inl (cI, 64, .inl (w 1))), (w2, .inl (cI, 10, .inl (w 2))), (w3, .inl (cI, 10, .inl (w 3))), (w4, .inl (cI, 20, .inl (va_cpy (w 4) (w 4) (Int32.toNatClampNeg (x + 1)) (Int32.toNatClampNeg x) (Int32.toNatClampNeg (((w 0 2) - x) - 1))))), (w5, .inl (cI, 20, .inl (va_cpy (w 5) (w 5) (Int32.toNatClampNeg (x + 1)) (Int32.toNatClampNeg x) (Int32.toNatClampNeg (((w 0 2) - x) - 1))))), (w6, .inl (cI, 160, .inl (w 6))), (w7, .inl (cI, 20, .inl (w 7))), (w8, .inl (cI, 20, .inl (w 8))), (w9, .inl (cI, 20, .inl (w 9)))]) H := hP
  have hD : va_D A ([(wa, .inr (4, [.int (w 0 0), .int (w 0 1), .int (w 0 2), .ref w1, .ref w2, .ref w3, .ref w4, .ref w5, .ref w6, .ref w7, .ref w8, .ref w9])), (w1, .inl (cI, 64, .inl (w 1))), (w2, .inl (cI, 10, .inl (w 2))), (w3, .inl (cI, 10, .inl (w 3))), (w4, .inl (cI, 20, .inl (va_cpy (w 4) (w 4) (Int32.toNatClampNeg (x + 1)) (Int32.toNatClampNeg x) (Int32.toNatClampNeg (((w 0 2) - x) - 1))))), (w5, .inl (cI, 20, .inl (va_cpy (w 5) (w 5) (Int32.toNatClampNeg (x + 1)) (Int32.toNatClampNeg x) (Int32.toNatClampNeg (((w 0 2) - x) - 1))))), (w6, .inl (cI, 160, .inl (w 6))), (w7, .inl (cI, 20, .inl (w 7))), (w8, .inl (cI, 20, .inl (w 8))), (w9, .inl (cI, 20, .inl (w 9)))]) := hD
  refine lv_aload_n hx hb dX4_removeWay_41 rfl (lv_at hl 1 rfl) ?_
  refine va_get (D := D) (ci := 4) (v := .ref w7) (C := RX4) (T := TX4) (N := 12) hx hb hts inT4 hown hK hP 0 rfl rfl 9 (by decide) (hts _ mT_99) (fun _ h9 => h9) rfl dX4_removeWay_42 ?_
  refine lv_iload_n hx hb dX4_removeWay_45 rfl (lv_at hl 2 rfl) ?_
  refine lv_iconst (v := 1) hx hb dX4_removeWay_46 (by decide) ?_
  refine lv_iadd hx hb dX4_removeWay_47 ?_
  refine lv_aload_n hx hb dX4_removeWay_48 rfl (lv_at hl 1 rfl) ?_
  refine va_get (D := D) (ci := 4) (v := .ref w7) (C := RX4) (T := TX4) (N := 12) hx hb hts inT4 hown hK hP 0 rfl rfl 9 (by decide) (hts _ mT_99) (fun _ h9 => h9) rfl dX4_removeWay_49 ?_
  refine lv_iload_n hx hb dX4_removeWay_52 rfl (lv_at hl 2 rfl) ?_
  refine lv_iload_n hx hb dX4_removeWay_53 rfl (lv_at hl 0 rfl) ?_
  obtain ⟨b54, hf⟩ := gd_some hf
  refine va_copyi (rest := []) (f := w 7) (g := w 7) (ty := .int) hx hb (hml.trans hl.1.symm) hown (hts _ mT_448) (hts _ mT_450) (hts _ mT_449) (hts _ mT_60) hK hP hD hS 7 7 0 0 rfl rfl rfl rfl rfl (cpy_1 b54) (cpy_2 b54) (cpy_3 b54) (cpy_4 b54) (cpy_5 b54) (fun _ _ => rfl) (Nat.le_of_ble_eq_true rfl) (Nat.le_of_ble_eq_true rfl) dX4_removeWay_54 (fun H locs hP hD hS => ?_)
  have hP : va_P D vwCl ([(wa, .inr (4, [.int (w 0 0), .int (w 0 1), .int (w 0 2), .ref w1, .ref w2, .ref w3, .ref w4, .ref w5, .ref w6, .ref w7, .ref w8, .ref w9])), (w1, .inl (cI, 64, .inl (w 1))), (w2, .inl (cI, 10, .inl (w 2))), (w3, .inl (cI, 10, .inl (w 3))), (w4, .inl (cI, 20, .inl (va_cpy (w 4) (w 4) (Int32.toNatClampNeg (x + 1)) (Int32.toNatClampNeg x) (Int32.toNatClampNeg (((w 0 2) - x) - 1))))), (w5, .inl (cI, 20, .inl (va_cpy (w 5) (w 5) (Int32.toNatClampNeg (x + 1)) (Int32.toNatClampNeg x) (Int32.toNatClampNeg (((w 0 2) - x) - 1))))), (w6, .inl (cI, 160, .inl (w 6))), (w7, .inl (cI, 20, .inl (va_cpy (w 7) (w 7) (Int32.toNatClampNeg (x + 1)) (Int32.toNatClampNeg x) (Int32.toNatClampNeg (((w 0 2) - x) - 1))))), (w8, .inl (cI, 20, .inl (w 8))), (w9, .inl (cI, 20, .inl (w 9)))]) H := hP
  have hD : va_D A ([(wa, .inr (4, [.int (w 0 0), .int (w 0 1), .int (w 0 2), .ref w1, .ref w2, .ref w3, .ref w4, .ref w5, .ref w6, .ref w7, .ref w8, .ref w9])), (w1, .inl (cI, 64, .inl (w 1))), (w2, .inl (cI, 10, .inl (w 2))), (w3, .inl (cI, 10, .inl (w 3))), (w4, .inl (cI, 20, .inl (va_cpy (w 4) (w 4) (Int32.toNatClampNeg (x + 1)) (Int32.toNatClampNeg x) (Int32.toNatClampNeg (((w 0 2) - x) - 1))))), (w5, .inl (cI, 20, .inl (va_cpy (w 5) (w 5) (Int32.toNatClampNeg (x + 1)) (Int32.toNatClampNeg x) (Int32.toNatClampNeg (((w 0 2) - x) - 1))))), (w6, .inl (cI, 160, .inl (w 6))), (w7, .inl (cI, 20, .inl (va_cpy (w 7) (w 7) (Int32.toNatClampNeg (x + 1)) (Int32.toNatClampNeg x) (Int32.toNatClampNeg (((w 0 2) - x) - 1))))), (w8, .inl (cI, 20, .inl (w 8))), (w9, .inl (cI, 20, .inl (w 9)))]) := hD
  refine lv_aload_n hx hb dX4_removeWay_57 rfl (lv_at hl 1 rfl) ?_
  refine va_get (D := D) (ci := 4) (v := .ref w8) (C := RX4) (T := TX4) (N := 12) hx hb hts inT4 hown hK hP 0 rfl rfl 10 (by decide) (hts _ mT_101) (fun _ h9 => h9) rfl dX4_removeWay_58 ?_
  refine lv_iload_n hx hb dX4_removeWay_61 rfl (lv_at hl 2 rfl) ?_
  refine lv_iconst (v := 1) hx hb dX4_removeWay_62 (by decide) ?_
  refine lv_iadd hx hb dX4_removeWay_63 ?_
  refine lv_aload_n hx hb dX4_removeWay_64 rfl (lv_at hl 1 rfl) ?_
  refine va_get (D := D) (ci := 4) (v := .ref w8) (C := RX4) (T := TX4) (N := 12) hx hb hts inT4 hown hK hP 0 rfl rfl 10 (by decide) (hts _ mT_101) (fun _ h9 => h9) rfl dX4_removeWay_65 ?_
  refine lv_iload_n hx hb dX4_removeWay_68 rfl (lv_at hl 2 rfl) ?_
  refine lv_iload_n hx hb dX4_removeWay_69 rfl (lv_at hl 0 rfl) ?_
  obtain ⟨b70, hf⟩ := gd_some hf
  refine va_copyi (rest := []) (f := w 8) (g := w 8) (ty := .int) hx hb (hml.trans hl.1.symm) hown (hts _ mT_448) (hts _ mT_450) (hts _ mT_449) (hts _ mT_60) hK hP hD hS 8 8 0 0 rfl rfl rfl rfl rfl (cpy_1 b70) (cpy_2 b70) (cpy_3 b70) (cpy_4 b70) (cpy_5 b70) (fun _ _ => rfl) (Nat.le_of_ble_eq_true rfl) (Nat.le_of_ble_eq_true rfl) dX4_removeWay_70 (fun H locs hP hD hS => ?_)
  have hP : va_P D vwCl ([(wa, .inr (4, [.int (w 0 0), .int (w 0 1), .int (w 0 2), .ref w1, .ref w2, .ref w3, .ref w4, .ref w5, .ref w6, .ref w7, .ref w8, .ref w9])), (w1, .inl (cI, 64, .inl (w 1))), (w2, .inl (cI, 10, .inl (w 2))), (w3, .inl (cI, 10, .inl (w 3))), (w4, .inl (cI, 20, .inl (va_cpy (w 4) (w 4) (Int32.toNatClampNeg (x + 1)) (Int32.toNatClampNeg x) (Int32.toNatClampNeg (((w 0 2) - x) - 1))))), (w5, .inl (cI, 20, .inl (va_cpy (w 5) (w 5) (Int32.toNatClampNeg (x + 1)) (Int32.toNatClampNeg x) (Int32.toNatClampNeg (((w 0 2) - x) - 1))))), (w6, .inl (cI, 160, .inl (w 6))), (w7, .inl (cI, 20, .inl (va_cpy (w 7) (w 7) (Int32.toNatClampNeg (x + 1)) (Int32.toNatClampNeg x) (Int32.toNatClampNeg (((w 0 2) - x) - 1))))), (w8, .inl (cI, 20, .inl (va_cpy (w 8) (w 8) (Int32.toNatClampNeg (x + 1)) (Int32.toNatClampNeg x) (Int32.toNatClampNeg (((w 0 2) - x) - 1))))), (w9, .inl (cI, 20, .inl (w 9)))]) H := hP
  have hD : va_D A ([(wa, .inr (4, [.int (w 0 0), .int (w 0 1), .int (w 0 2), .ref w1, .ref w2, .ref w3, .ref w4, .ref w5, .ref w6, .ref w7, .ref w8, .ref w9])), (w1, .inl (cI, 64, .inl (w 1))), (w2, .inl (cI, 10, .inl (w 2))), (w3, .inl (cI, 10, .inl (w 3))), (w4, .inl (cI, 20, .inl (va_cpy (w 4) (w 4) (Int32.toNatClampNeg (x + 1)) (Int32.toNatClampNeg x) (Int32.toNatClampNeg (((w 0 2) - x) - 1))))), (w5, .inl (cI, 20, .inl (va_cpy (w 5) (w 5) (Int32.toNatClampNeg (x + 1)) (Int32.toNatClampNeg x) (Int32.toNatClampNeg (((w 0 2) - x) - 1))))), (w6, .inl (cI, 160, .inl (w 6))), (w7, .inl (cI, 20, .inl (va_cpy (w 7) (w 7) (Int32.toNatClampNeg (x + 1)) (Int32.toNatClampNeg x) (Int32.toNatClampNeg (((w 0 2) - x) - 1))))), (w8, .inl (cI, 20, .inl (va_cpy (w 8) (w 8) (Int32.toNatClampNeg (x + 1)) (Int32.toNatClampNeg x) (Int32.toNatClampNeg (((w 0 2) - x) - 1))))), (w9, .inl (cI, 20, .inl (w 9)))]) := hD
  refine lv_aload_n hx hb dX4_removeWay_73 rfl (lv_at hl 1 rfl) ?_
  refine va_get (D := D) (ci := 4) (v := .ref w9) (C := RX4) (T := TX4) (N := 12) hx hb hts inT4 hown hK hP 0 rfl rfl 11 (by decide) (hts _ mT_103) (fun _ h9 => h9) rfl dX4_removeWay_74 ?_
  refine lv_iload_n hx hb dX4_removeWay_77 rfl (lv_at hl 2 rfl) ?_
  refine lv_iconst (v := 1) hx hb dX4_removeWay_78 (by decide) ?_
  refine lv_iadd hx hb dX4_removeWay_79 ?_
  refine lv_aload_n hx hb dX4_removeWay_80 rfl (lv_at hl 1 rfl) ?_
  refine va_get (D := D) (ci := 4) (v := .ref w9) (C := RX4) (T := TX4) (N := 12) hx hb hts inT4 hown hK hP 0 rfl rfl 11 (by decide) (hts _ mT_103) (fun _ h9 => h9) rfl dX4_removeWay_81 ?_
  refine lv_iload_n hx hb dX4_removeWay_84 rfl (lv_at hl 2 rfl) ?_
  refine lv_iload_n hx hb dX4_removeWay_85 rfl (lv_at hl 0 rfl) ?_
  obtain ⟨b86, hf⟩ := gd_some hf
  refine va_copyi (rest := []) (f := w 9) (g := w 9) (ty := .int) hx hb (hml.trans hl.1.symm) hown (hts _ mT_448) (hts _ mT_450) (hts _ mT_449) (hts _ mT_60) hK hP hD hS 9 9 0 0 rfl rfl rfl rfl rfl (cpy_1 b86) (cpy_2 b86) (cpy_3 b86) (cpy_4 b86) (cpy_5 b86) (fun _ _ => rfl) (Nat.le_of_ble_eq_true rfl) (Nat.le_of_ble_eq_true rfl) dX4_removeWay_86 (fun H locs hP hD hS => ?_)
  have hP : va_P D vwCl ([(wa, .inr (4, [.int (w 0 0), .int (w 0 1), .int (w 0 2), .ref w1, .ref w2, .ref w3, .ref w4, .ref w5, .ref w6, .ref w7, .ref w8, .ref w9])), (w1, .inl (cI, 64, .inl (w 1))), (w2, .inl (cI, 10, .inl (w 2))), (w3, .inl (cI, 10, .inl (w 3))), (w4, .inl (cI, 20, .inl (va_cpy (w 4) (w 4) (Int32.toNatClampNeg (x + 1)) (Int32.toNatClampNeg x) (Int32.toNatClampNeg (((w 0 2) - x) - 1))))), (w5, .inl (cI, 20, .inl (va_cpy (w 5) (w 5) (Int32.toNatClampNeg (x + 1)) (Int32.toNatClampNeg x) (Int32.toNatClampNeg (((w 0 2) - x) - 1))))), (w6, .inl (cI, 160, .inl (w 6))), (w7, .inl (cI, 20, .inl (va_cpy (w 7) (w 7) (Int32.toNatClampNeg (x + 1)) (Int32.toNatClampNeg x) (Int32.toNatClampNeg (((w 0 2) - x) - 1))))), (w8, .inl (cI, 20, .inl (va_cpy (w 8) (w 8) (Int32.toNatClampNeg (x + 1)) (Int32.toNatClampNeg x) (Int32.toNatClampNeg (((w 0 2) - x) - 1))))), (w9, .inl (cI, 20, .inl (va_cpy (w 9) (w 9) (Int32.toNatClampNeg (x + 1)) (Int32.toNatClampNeg x) (Int32.toNatClampNeg (((w 0 2) - x) - 1)))))]) H := hP
  have hD : va_D A ([(wa, .inr (4, [.int (w 0 0), .int (w 0 1), .int (w 0 2), .ref w1, .ref w2, .ref w3, .ref w4, .ref w5, .ref w6, .ref w7, .ref w8, .ref w9])), (w1, .inl (cI, 64, .inl (w 1))), (w2, .inl (cI, 10, .inl (w 2))), (w3, .inl (cI, 10, .inl (w 3))), (w4, .inl (cI, 20, .inl (va_cpy (w 4) (w 4) (Int32.toNatClampNeg (x + 1)) (Int32.toNatClampNeg x) (Int32.toNatClampNeg (((w 0 2) - x) - 1))))), (w5, .inl (cI, 20, .inl (va_cpy (w 5) (w 5) (Int32.toNatClampNeg (x + 1)) (Int32.toNatClampNeg x) (Int32.toNatClampNeg (((w 0 2) - x) - 1))))), (w6, .inl (cI, 160, .inl (w 6))), (w7, .inl (cI, 20, .inl (va_cpy (w 7) (w 7) (Int32.toNatClampNeg (x + 1)) (Int32.toNatClampNeg x) (Int32.toNatClampNeg (((w 0 2) - x) - 1))))), (w8, .inl (cI, 20, .inl (va_cpy (w 8) (w 8) (Int32.toNatClampNeg (x + 1)) (Int32.toNatClampNeg x) (Int32.toNatClampNeg (((w 0 2) - x) - 1))))), (w9, .inl (cI, 20, .inl (va_cpy (w 9) (w 9) (Int32.toNatClampNeg (x + 1)) (Int32.toNatClampNeg x) (Int32.toNatClampNeg (((w 0 2) - x) - 1)))))]) := hD
  refine lv_aload_n hx hb dX4_removeWay_89 rfl (lv_at hl 1 rfl) ?_
  refine va_get (D := D) (ci := 4) (v := .ref w6) (C := RX4) (T := TX4) (N := 12) hx hb hts inT4 hown hK hP 0 rfl rfl 8 (by decide) (hts _ mT_97) (fun _ h9 => h9) rfl dX4_removeWay_90 ?_
  refine lv_iload_n hx hb dX4_removeWay_93 rfl (lv_at hl 2 rfl) ?_
  refine lv_iconst (v := 1) hx hb dX4_removeWay_94 (by decide) ?_
  refine lv_iadd hx hb dX4_removeWay_95 ?_
  refine lv_bipush (v := 8) hx hb dX4_removeWay_96 (by decide) ?_
  refine lv_imul hx hb dX4_removeWay_98 ?_
  refine lv_aload_n hx hb dX4_removeWay_99 rfl (lv_at hl 1 rfl) ?_
  refine va_get (D := D) (ci := 4) (v := .ref w6) (C := RX4) (T := TX4) (N := 12) hx hb hts inT4 hown hK hP 0 rfl rfl 8 (by decide) (hts _ mT_97) (fun _ h9 => h9) rfl dX4_removeWay_100 ?_
  refine lv_iload_n hx hb dX4_removeWay_103 rfl (lv_at hl 2 rfl) ?_
  refine lv_bipush (v := 8) hx hb dX4_removeWay_104 (by decide) ?_
  refine lv_imul hx hb dX4_removeWay_106 ?_
  refine lv_iload_n hx hb dX4_removeWay_107 rfl (lv_at hl 0 rfl) ?_
  refine lv_bipush (v := 8) hx hb dX4_removeWay_108 (by decide) ?_
  refine lv_imul hx hb dX4_removeWay_110 ?_
  obtain ⟨b111, hf⟩ := gd_some hf
  refine va_copyi (rest := []) (f := w 6) (g := w 6) (ty := .int) hx hb (hml.trans hl.1.symm) hown (hts _ mT_448) (hts _ mT_450) (hts _ mT_449) (hts _ mT_60) hK hP hD hS 6 6 0 0 rfl rfl rfl rfl rfl (cpy_1 b111) (cpy_2 b111) (cpy_3 b111) (cpy_4 b111) (cpy_5 b111) (fun _ _ => rfl) (Nat.le_of_ble_eq_true rfl) (Nat.le_of_ble_eq_true rfl) dX4_removeWay_111 (fun H locs hP hD hS => ?_)
  have hP : va_P D vwCl ([(wa, .inr (4, [.int (w 0 0), .int (w 0 1), .int (w 0 2), .ref w1, .ref w2, .ref w3, .ref w4, .ref w5, .ref w6, .ref w7, .ref w8, .ref w9])), (w1, .inl (cI, 64, .inl (w 1))), (w2, .inl (cI, 10, .inl (w 2))), (w3, .inl (cI, 10, .inl (w 3))), (w4, .inl (cI, 20, .inl (va_cpy (w 4) (w 4) (Int32.toNatClampNeg (x + 1)) (Int32.toNatClampNeg x) (Int32.toNatClampNeg (((w 0 2) - x) - 1))))), (w5, .inl (cI, 20, .inl (va_cpy (w 5) (w 5) (Int32.toNatClampNeg (x + 1)) (Int32.toNatClampNeg x) (Int32.toNatClampNeg (((w 0 2) - x) - 1))))), (w6, .inl (cI, 160, .inl (va_cpy (w 6) (w 6) (Int32.toNatClampNeg ((x + 1) * 8)) (Int32.toNatClampNeg (x * 8)) (Int32.toNatClampNeg ((((w 0 2) - x) - 1) * 8))))), (w7, .inl (cI, 20, .inl (va_cpy (w 7) (w 7) (Int32.toNatClampNeg (x + 1)) (Int32.toNatClampNeg x) (Int32.toNatClampNeg (((w 0 2) - x) - 1))))), (w8, .inl (cI, 20, .inl (va_cpy (w 8) (w 8) (Int32.toNatClampNeg (x + 1)) (Int32.toNatClampNeg x) (Int32.toNatClampNeg (((w 0 2) - x) - 1))))), (w9, .inl (cI, 20, .inl (va_cpy (w 9) (w 9) (Int32.toNatClampNeg (x + 1)) (Int32.toNatClampNeg x) (Int32.toNatClampNeg (((w 0 2) - x) - 1)))))]) H := hP
  have hD : va_D A ([(wa, .inr (4, [.int (w 0 0), .int (w 0 1), .int (w 0 2), .ref w1, .ref w2, .ref w3, .ref w4, .ref w5, .ref w6, .ref w7, .ref w8, .ref w9])), (w1, .inl (cI, 64, .inl (w 1))), (w2, .inl (cI, 10, .inl (w 2))), (w3, .inl (cI, 10, .inl (w 3))), (w4, .inl (cI, 20, .inl (va_cpy (w 4) (w 4) (Int32.toNatClampNeg (x + 1)) (Int32.toNatClampNeg x) (Int32.toNatClampNeg (((w 0 2) - x) - 1))))), (w5, .inl (cI, 20, .inl (va_cpy (w 5) (w 5) (Int32.toNatClampNeg (x + 1)) (Int32.toNatClampNeg x) (Int32.toNatClampNeg (((w 0 2) - x) - 1))))), (w6, .inl (cI, 160, .inl (va_cpy (w 6) (w 6) (Int32.toNatClampNeg ((x + 1) * 8)) (Int32.toNatClampNeg (x * 8)) (Int32.toNatClampNeg ((((w 0 2) - x) - 1) * 8))))), (w7, .inl (cI, 20, .inl (va_cpy (w 7) (w 7) (Int32.toNatClampNeg (x + 1)) (Int32.toNatClampNeg x) (Int32.toNatClampNeg (((w 0 2) - x) - 1))))), (w8, .inl (cI, 20, .inl (va_cpy (w 8) (w 8) (Int32.toNatClampNeg (x + 1)) (Int32.toNatClampNeg x) (Int32.toNatClampNeg (((w 0 2) - x) - 1))))), (w9, .inl (cI, 20, .inl (va_cpy (w 9) (w 9) (Int32.toNatClampNeg (x + 1)) (Int32.toNatClampNeg x) (Int32.toNatClampNeg (((w 0 2) - x) - 1)))))]) := hD
  refine lv_aload_n hx hb dX4_removeWay_114 rfl (lv_at hl 1 rfl) ?_
  refine lv_dup hx hb dX4_removeWay_115 rfl ?_
  refine va_get (D := D) (ci := 4) (v := .int (w 0 2)) (C := RX4) (T := TX4) (N := 12) hx hb hts inT4 hown hK hP 0 rfl rfl 2 (by decide) (hts _ mT_81) (fun _ h9 => h9) rfl dX4_removeWay_116 ?_
  refine lv_iconst (v := 1) hx hb dX4_removeWay_119 (by decide) ?_
  refine lv_isub hx hb dX4_removeWay_120 ?_
  refine va_put (D := D) (ci := 4) (v := .int ((w 0 2) - 1)) (ty := .int) (C := RX4) (T := TX4) (N := 12) hx hb hts inT4 tyX4 tyX4_ok nmX4 hown hK hP hD hS 0 rfl rfl 2 (by decide) (hts _ mT_81) (fun _ h9 => h9) rfl (by decide +kernel) rfl rfl (Nat.le_of_ble_eq_true rfl) dX4_removeWay_121 (fun H locs hP hD hS => ?_)
  have hP : va_P D vwCl ([(wa, .inr (4, [.int (w 0 0), .int (w 0 1), .int ((w 0 2) - 1), .ref w1, .ref w2, .ref w3, .ref w4, .ref w5, .ref w6, .ref w7, .ref w8, .ref w9])), (w1, .inl (cI, 64, .inl (w 1))), (w2, .inl (cI, 10, .inl (w 2))), (w3, .inl (cI, 10, .inl (w 3))), (w4, .inl (cI, 20, .inl (va_cpy (w 4) (w 4) (Int32.toNatClampNeg (x + 1)) (Int32.toNatClampNeg x) (Int32.toNatClampNeg (((w 0 2) - x) - 1))))), (w5, .inl (cI, 20, .inl (va_cpy (w 5) (w 5) (Int32.toNatClampNeg (x + 1)) (Int32.toNatClampNeg x) (Int32.toNatClampNeg (((w 0 2) - x) - 1))))), (w6, .inl (cI, 160, .inl (va_cpy (w 6) (w 6) (Int32.toNatClampNeg ((x + 1) * 8)) (Int32.toNatClampNeg (x * 8)) (Int32.toNatClampNeg ((((w 0 2) - x) - 1) * 8))))), (w7, .inl (cI, 20, .inl (va_cpy (w 7) (w 7) (Int32.toNatClampNeg (x + 1)) (Int32.toNatClampNeg x) (Int32.toNatClampNeg (((w 0 2) - x) - 1))))), (w8, .inl (cI, 20, .inl (va_cpy (w 8) (w 8) (Int32.toNatClampNeg (x + 1)) (Int32.toNatClampNeg x) (Int32.toNatClampNeg (((w 0 2) - x) - 1))))), (w9, .inl (cI, 20, .inl (va_cpy (w 9) (w 9) (Int32.toNatClampNeg (x + 1)) (Int32.toNatClampNeg x) (Int32.toNatClampNeg (((w 0 2) - x) - 1)))))]) H := hP
  have hD : va_D A ([(wa, .inr (4, [.int (w 0 0), .int (w 0 1), .int ((w 0 2) - 1), .ref w1, .ref w2, .ref w3, .ref w4, .ref w5, .ref w6, .ref w7, .ref w8, .ref w9])), (w1, .inl (cI, 64, .inl (w 1))), (w2, .inl (cI, 10, .inl (w 2))), (w3, .inl (cI, 10, .inl (w 3))), (w4, .inl (cI, 20, .inl (va_cpy (w 4) (w 4) (Int32.toNatClampNeg (x + 1)) (Int32.toNatClampNeg x) (Int32.toNatClampNeg (((w 0 2) - x) - 1))))), (w5, .inl (cI, 20, .inl (va_cpy (w 5) (w 5) (Int32.toNatClampNeg (x + 1)) (Int32.toNatClampNeg x) (Int32.toNatClampNeg (((w 0 2) - x) - 1))))), (w6, .inl (cI, 160, .inl (va_cpy (w 6) (w 6) (Int32.toNatClampNeg ((x + 1) * 8)) (Int32.toNatClampNeg (x * 8)) (Int32.toNatClampNeg ((((w 0 2) - x) - 1) * 8))))), (w7, .inl (cI, 20, .inl (va_cpy (w 7) (w 7) (Int32.toNatClampNeg (x + 1)) (Int32.toNatClampNeg x) (Int32.toNatClampNeg (((w 0 2) - x) - 1))))), (w8, .inl (cI, 20, .inl (va_cpy (w 8) (w 8) (Int32.toNatClampNeg (x + 1)) (Int32.toNatClampNeg x) (Int32.toNatClampNeg (((w 0 2) - x) - 1))))), (w9, .inl (cI, 20, .inl (va_cpy (w 9) (w 9) (Int32.toNatClampNeg (x + 1)) (Int32.toNatClampNeg x) (Int32.toNatClampNeg (((w 0 2) - x) - 1)))))]) := hD
  exact hret _ _ (sI (sA (sA (sA (sA (sA (sA w 4 (va_cpy (w 4) (w 4) (Int32.toNatClampNeg (x + 1)) (Int32.toNatClampNeg x) (Int32.toNatClampNeg (((w 0 2) - x) - 1)))) 5 (va_cpy (w 5) (w 5) (Int32.toNatClampNeg (x + 1)) (Int32.toNatClampNeg x) (Int32.toNatClampNeg (((w 0 2) - x) - 1)))) 7 (va_cpy (w 7) (w 7) (Int32.toNatClampNeg (x + 1)) (Int32.toNatClampNeg x) (Int32.toNatClampNeg (((w 0 2) - x) - 1)))) 8 (va_cpy (w 8) (w 8) (Int32.toNatClampNeg (x + 1)) (Int32.toNatClampNeg x) (Int32.toNatClampNeg (((w 0 2) - x) - 1)))) 9 (va_cpy (w 9) (w 9) (Int32.toNatClampNeg (x + 1)) (Int32.toNatClampNeg x) (Int32.toNatClampNeg (((w 0 2) - x) - 1)))) 6 (va_cpy (w 6) (w 6) (Int32.toNatClampNeg ((x + 1) * 8)) (Int32.toNatClampNeg (x * 8)) (Int32.toNatClampNeg ((((w 0 2) - x) - 1) * 8)))) 2 ((w 0 2) - 1)) _ _ hf dX4_removeWay_124 hP hD hS
theorem s_yX4_become : kMS yX4_become cX4_become 2 none 1 := ⟨mT_447, mT_52, by decide +kernel⟩
theorem v_yX4_become : kMV yX4_become := ⟨mT_445, mT_446⟩
def f_become (w : Ob) (v : Ob) : Option Ob := gd (cpy 0 0 64 64 64) (gd (cpy 0 0 10 10 10) (gd (cpy 0 0 10 10 10) (gd (cpy 0 0 20 20 20) (gd (cpy 0 0 20 20 20) (gd (cpy 0 0 160 160 160) (gd (cpy 0 0 20 20 20) (gd (cpy 0 0 20 20 20) (gd (cpy 0 0 20 20 20) (some (sA (sA (sA (sA (sA (sA (sA (sA (sA (sI (sI (sI w 0 (v 0 0)) 1 (v 0 1)) 2 (v 0 2)) 1 (va_cpy (v 1) (w 1) (Int32.toNatClampNeg 0) (Int32.toNatClampNeg 0) (Int32.toNatClampNeg 64))) 2 (va_cpy (v 2) (w 2) (Int32.toNatClampNeg 0) (Int32.toNatClampNeg 0) (Int32.toNatClampNeg 10))) 3 (va_cpy (v 3) (w 3) (Int32.toNatClampNeg 0) (Int32.toNatClampNeg 0) (Int32.toNatClampNeg 10))) 4 (va_cpy (v 4) (w 4) (Int32.toNatClampNeg 0) (Int32.toNatClampNeg 0) (Int32.toNatClampNeg 20))) 5 (va_cpy (v 5) (w 5) (Int32.toNatClampNeg 0) (Int32.toNatClampNeg 0) (Int32.toNatClampNeg 20))) 6 (va_cpy (v 6) (w 6) (Int32.toNatClampNeg 0) (Int32.toNatClampNeg 0) (Int32.toNatClampNeg 160))) 7 (va_cpy (v 7) (w 7) (Int32.toNatClampNeg 0) (Int32.toNatClampNeg 0) (Int32.toNatClampNeg 20))) 8 (va_cpy (v 8) (w 8) (Int32.toNatClampNeg 0) (Int32.toNatClampNeg 0) (Int32.toNatClampNeg 20))) 9 (va_cpy (v 9) (w 9) (Int32.toNatClampNeg 0) (Int32.toNatClampNeg 0) (Int32.toNatClampNeg 20))))))))))))
set_option maxHeartbeats 4000000 in
set_option maxRecDepth 100000 in
theorem c_become (l : Launch) (D : va_G) (cI cZ cR : ClassId) (wa w1 w2 w3 w4 w5 w6 w7 w8 w9 va v1 v2 v3 v4 v5 v6 v7 v8 v9 : Nat) (w : Ob) (v : Ob) (sz : Nat) (u : Ob) (hf : f_become w v = some u) : kCv l yX4_become cX4_become 2 none { frames := 1, cells := 0, slots := 0, locals := 40 } [.ref wa, .ref va] D cI cZ cR (cWeb cI wa w1 w2 w3 w4 w5 w6 w7 w8 w9 w ++ (cWeb cI va v1 v2 v3 v4 v5 v6 v7 v8 v9 v)) sz (cWeb cI wa w1 w2 w3 w4 w5 w6 w7 w8 w9 u ++ (cWeb cI va v1 v2 v3 v4 v5 v6 v7 v8 v9 v)) := by
  refine kMwv (wf := (fun u : Ob => cWeb cI wa w1 w2 w3 w4 w5 w6 w7 w8 w9 u ++ (cWeb cI va v1 v2 v3 v4 v5 v6 v7 v8 v9 v))) (u := u) (by decide) (Nat.le_of_ble_eq_true rfl) ?_
  intro p e s m below meth c Q A hx hb hml hown hts hk hP hD hA hS hret ls hl
  have hS0 := hS
  have hK := hk.1
  have hl : lv_has ls 2 [(0, .ref wa), (1, .ref va)] := hl
  rw [f_become] at hf
  refine lv_aload_n hx hb dX4_become_0 rfl (lv_at hl 0 rfl) ?_
  refine lv_aload_n hx hb dX4_become_1 rfl (lv_at hl 1 rfl) ?_
  refine va_get (D := D) (ci := 4) (v := .int (v 0 0)) (C := RX4) (T := TX4) (N := 12) hx hb hts inT4 hown hK hP 10 rfl rfl 0 (by decide) (hts _ mT_75) (fun _ h9 => h9) rfl dX4_become_2 ?_
  refine va_put (D := D) (ci := 4) (v := .int (v 0 0)) (ty := .int) (C := RX4) (T := TX4) (N := 12) hx hb hts inT4 tyX4 tyX4_ok nmX4 hown hK hP hD hS 0 rfl rfl 0 (by decide) (hts _ mT_75) (fun _ h9 => h9) rfl (by decide +kernel) rfl rfl (Nat.le_of_ble_eq_true rfl) dX4_become_5 (fun H locs hP hD hS => ?_)
  have hP : va_P D vwCl ([(wa, .inr (4, [.int (v 0 0), .int (w 0 1), .int (w 0 2), .ref w1, .ref w2, .ref w3, .ref w4, .ref w5, .ref w6, .ref w7, .ref w8, .ref w9])), (w1, .inl (cI, 64, .inl (w 1))), (w2, .inl (cI, 10, .inl (w 2))), (w3, .inl (cI, 10, .inl (w 3))), (w4, .inl (cI, 20, .inl (w 4))), (w5, .inl (cI, 20, .inl (w 5))), (w6, .inl (cI, 160, .inl (w 6))), (w7, .inl (cI, 20, .inl (w 7))), (w8, .inl (cI, 20, .inl (w 8))), (w9, .inl (cI, 20, .inl (w 9)))] ++ (cWeb cI va v1 v2 v3 v4 v5 v6 v7 v8 v9 v)) H := hP
  have hD : va_D A ([(wa, .inr (4, [.int (v 0 0), .int (w 0 1), .int (w 0 2), .ref w1, .ref w2, .ref w3, .ref w4, .ref w5, .ref w6, .ref w7, .ref w8, .ref w9])), (w1, .inl (cI, 64, .inl (w 1))), (w2, .inl (cI, 10, .inl (w 2))), (w3, .inl (cI, 10, .inl (w 3))), (w4, .inl (cI, 20, .inl (w 4))), (w5, .inl (cI, 20, .inl (w 5))), (w6, .inl (cI, 160, .inl (w 6))), (w7, .inl (cI, 20, .inl (w 7))), (w8, .inl (cI, 20, .inl (w 8))), (w9, .inl (cI, 20, .inl (w 9)))] ++ (cWeb cI va v1 v2 v3 v4 v5 v6 v7 v8 v9 v)) := hD
  refine lv_aload_n hx hb dX4_become_8 rfl (lv_at hl 0 rfl) ?_
  refine lv_aload_n hx hb dX4_become_9 rfl (lv_at hl 1 rfl) ?_
  refine va_get (D := D) (ci := 4) (v := .int (v 0 1)) (C := RX4) (T := TX4) (N := 12) hx hb hts inT4 hown hK hP 10 rfl rfl 1 (by decide) (hts _ mT_79) (fun _ h9 => h9) rfl dX4_become_10 ?_
  refine va_put (D := D) (ci := 4) (v := .int (v 0 1)) (ty := .int) (C := RX4) (T := TX4) (N := 12) hx hb hts inT4 tyX4 tyX4_ok nmX4 hown hK hP hD hS 0 rfl rfl 1 (by decide) (hts _ mT_79) (fun _ h9 => h9) rfl (by decide +kernel) rfl rfl (Nat.le_of_ble_eq_true rfl) dX4_become_13 (fun H locs hP hD hS => ?_)
  have hP : va_P D vwCl ([(wa, .inr (4, [.int (v 0 0), .int (v 0 1), .int (w 0 2), .ref w1, .ref w2, .ref w3, .ref w4, .ref w5, .ref w6, .ref w7, .ref w8, .ref w9])), (w1, .inl (cI, 64, .inl (w 1))), (w2, .inl (cI, 10, .inl (w 2))), (w3, .inl (cI, 10, .inl (w 3))), (w4, .inl (cI, 20, .inl (w 4))), (w5, .inl (cI, 20, .inl (w 5))), (w6, .inl (cI, 160, .inl (w 6))), (w7, .inl (cI, 20, .inl (w 7))), (w8, .inl (cI, 20, .inl (w 8))), (w9, .inl (cI, 20, .inl (w 9)))] ++ (cWeb cI va v1 v2 v3 v4 v5 v6 v7 v8 v9 v)) H := hP
  have hD : va_D A ([(wa, .inr (4, [.int (v 0 0), .int (v 0 1), .int (w 0 2), .ref w1, .ref w2, .ref w3, .ref w4, .ref w5, .ref w6, .ref w7, .ref w8, .ref w9])), (w1, .inl (cI, 64, .inl (w 1))), (w2, .inl (cI, 10, .inl (w 2))), (w3, .inl (cI, 10, .inl (w 3))), (w4, .inl (cI, 20, .inl (w 4))), (w5, .inl (cI, 20, .inl (w 5))), (w6, .inl (cI, 160, .inl (w 6))), (w7, .inl (cI, 20, .inl (w 7))), (w8, .inl (cI, 20, .inl (w 8))), (w9, .inl (cI, 20, .inl (w 9)))] ++ (cWeb cI va v1 v2 v3 v4 v5 v6 v7 v8 v9 v)) := hD
  refine lv_aload_n hx hb dX4_become_16 rfl (lv_at hl 0 rfl) ?_
  refine lv_aload_n hx hb dX4_become_17 rfl (lv_at hl 1 rfl) ?_
  refine va_get (D := D) (ci := 4) (v := .int (v 0 2)) (C := RX4) (T := TX4) (N := 12) hx hb hts inT4 hown hK hP 10 rfl rfl 2 (by decide) (hts _ mT_81) (fun _ h9 => h9) rfl dX4_become_18 ?_
  refine va_put (D := D) (ci := 4) (v := .int (v 0 2)) (ty := .int) (C := RX4) (T := TX4) (N := 12) hx hb hts inT4 tyX4 tyX4_ok nmX4 hown hK hP hD hS 0 rfl rfl 2 (by decide) (hts _ mT_81) (fun _ h9 => h9) rfl (by decide +kernel) rfl rfl (Nat.le_of_ble_eq_true rfl) dX4_become_21 (fun H locs hP hD hS => ?_)
  have hP : va_P D vwCl ([(wa, .inr (4, [.int (v 0 0), .int (v 0 1), .int (v 0 2), .ref w1, .ref w2, .ref w3, .ref w4, .ref w5, .ref w6, .ref w7, .ref w8, .ref w9])), (w1, .inl (cI, 64, .inl (w 1))), (w2, .inl (cI, 10, .inl (w 2))), (w3, .inl (cI, 10, .inl (w 3))), (w4, .inl (cI, 20, .inl (w 4))), (w5, .inl (cI, 20, .inl (w 5))), (w6, .inl (cI, 160, .inl (w 6))), (w7, .inl (cI, 20, .inl (w 7))), (w8, .inl (cI, 20, .inl (w 8))), (w9, .inl (cI, 20, .inl (w 9)))] ++ (cWeb cI va v1 v2 v3 v4 v5 v6 v7 v8 v9 v)) H := hP
  have hD : va_D A ([(wa, .inr (4, [.int (v 0 0), .int (v 0 1), .int (v 0 2), .ref w1, .ref w2, .ref w3, .ref w4, .ref w5, .ref w6, .ref w7, .ref w8, .ref w9])), (w1, .inl (cI, 64, .inl (w 1))), (w2, .inl (cI, 10, .inl (w 2))), (w3, .inl (cI, 10, .inl (w 3))), (w4, .inl (cI, 20, .inl (w 4))), (w5, .inl (cI, 20, .inl (w 5))), (w6, .inl (cI, 160, .inl (w 6))), (w7, .inl (cI, 20, .inl (w 7))), (w8, .inl (cI, 20, .inl (w 8))), (w9, .inl (cI, 20, .inl (w 9)))] ++ (cWeb cI va v1 v2 v3 v4 v5 v6 v7 v8 v9 v)) := hD
  refine lv_aload_n hx hb dX4_become_24 rfl (lv_at hl 1 rfl) ?_
  refine va_get (D := D) (ci := 4) (v := .ref v1) (C := RX4) (T := TX4) (N := 12) hx hb hts inT4 hown hK hP 10 rfl rfl 3 (by decide) (hts _ mT_84) (fun _ h9 => h9) rfl dX4_become_25 ?_
  refine lv_iconst (v := 0) hx hb dX4_become_28 (by decide) ?_
  refine lv_aload_n hx hb dX4_become_29 rfl (lv_at hl 0 rfl) ?_
  refine va_get (D := D) (ci := 4) (v := .ref w1) (C := RX4) (T := TX4) (N := 12) hx hb hts inT4 hown hK hP 0 rfl rfl 3 (by decide) (hts _ mT_84) (fun _ h9 => h9) rfl dX4_become_30 ?_
  refine lv_iconst (v := 0) hx hb dX4_become_33 (by decide) ?_
  refine lv_bipush (v := 64) hx hb dX4_become_34 (by decide) ?_
  obtain ⟨b36, hf⟩ := gd_some hf
  refine va_copyi (rest := []) (f := v 1) (g := w 1) (ty := .int) hx hb (hml.trans hl.1.symm) hown (hts _ mT_448) (hts _ mT_450) (hts _ mT_449) (hts _ mT_60) hK hP hD hS 11 1 0 0 rfl rfl rfl rfl rfl (cpy_1 b36) (cpy_2 b36) (cpy_3 b36) (cpy_4 b36) (cpy_5 b36) (fun _ _ => rfl) (Nat.le_of_ble_eq_true rfl) (Nat.le_of_ble_eq_true rfl) dX4_become_36 (fun H locs hP hD hS => ?_)
  have hP : va_P D vwCl ([(wa, .inr (4, [.int (v 0 0), .int (v 0 1), .int (v 0 2), .ref w1, .ref w2, .ref w3, .ref w4, .ref w5, .ref w6, .ref w7, .ref w8, .ref w9])), (w1, .inl (cI, 64, .inl (va_cpy (v 1) (w 1) (Int32.toNatClampNeg 0) (Int32.toNatClampNeg 0) (Int32.toNatClampNeg 64)))), (w2, .inl (cI, 10, .inl (w 2))), (w3, .inl (cI, 10, .inl (w 3))), (w4, .inl (cI, 20, .inl (w 4))), (w5, .inl (cI, 20, .inl (w 5))), (w6, .inl (cI, 160, .inl (w 6))), (w7, .inl (cI, 20, .inl (w 7))), (w8, .inl (cI, 20, .inl (w 8))), (w9, .inl (cI, 20, .inl (w 9)))] ++ (cWeb cI va v1 v2 v3 v4 v5 v6 v7 v8 v9 v)) H := hP
  have hD : va_D A ([(wa, .inr (4, [.int (v 0 0), .int (v 0 1), .int (v 0 2), .ref w1, .ref w2, .ref w3, .ref w4, .ref w5, .ref w6, .ref w7, .ref w8, .ref w9])), (w1, .inl (cI, 64, .inl (va_cpy (v 1) (w 1) (Int32.toNatClampNeg 0) (Int32.toNatClampNeg 0) (Int32.toNatClampNeg 64)))), (w2, .inl (cI, 10, .inl (w 2))), (w3, .inl (cI, 10, .inl (w 3))), (w4, .inl (cI, 20, .inl (w 4))), (w5, .inl (cI, 20, .inl (w 5))), (w6, .inl (cI, 160, .inl (w 6))), (w7, .inl (cI, 20, .inl (w 7))), (w8, .inl (cI, 20, .inl (w 8))), (w9, .inl (cI, 20, .inl (w 9)))] ++ (cWeb cI va v1 v2 v3 v4 v5 v6 v7 v8 v9 v)) := hD
  refine lv_aload_n hx hb dX4_become_39 rfl (lv_at hl 1 rfl) ?_
  refine va_get (D := D) (ci := 4) (v := .ref v2) (C := RX4) (T := TX4) (N := 12) hx hb hts inT4 hown hK hP 10 rfl rfl 4 (by decide) (hts _ mT_86) (fun _ h9 => h9) rfl dX4_become_40 ?_
  refine lv_iconst (v := 0) hx hb dX4_become_43 (by decide) ?_
  refine lv_aload_n hx hb dX4_become_44 rfl (lv_at hl 0 rfl) ?_
  refine va_get (D := D) (ci := 4) (v := .ref w2) (C := RX4) (T := TX4) (N := 12) hx hb hts inT4 hown hK hP 0 rfl rfl 4 (by decide) (hts _ mT_86) (fun _ h9 => h9) rfl dX4_become_45 ?_
  refine lv_iconst (v := 0) hx hb dX4_become_48 (by decide) ?_
  refine lv_bipush (v := 10) hx hb dX4_become_49 (by decide) ?_
  obtain ⟨b51, hf⟩ := gd_some hf
  refine va_copyi (rest := []) (f := v 2) (g := w 2) (ty := .int) hx hb (hml.trans hl.1.symm) hown (hts _ mT_448) (hts _ mT_450) (hts _ mT_449) (hts _ mT_60) hK hP hD hS 12 2 0 0 rfl rfl rfl rfl rfl (cpy_1 b51) (cpy_2 b51) (cpy_3 b51) (cpy_4 b51) (cpy_5 b51) (fun _ _ => rfl) (Nat.le_of_ble_eq_true rfl) (Nat.le_of_ble_eq_true rfl) dX4_become_51 (fun H locs hP hD hS => ?_)
  have hP : va_P D vwCl ([(wa, .inr (4, [.int (v 0 0), .int (v 0 1), .int (v 0 2), .ref w1, .ref w2, .ref w3, .ref w4, .ref w5, .ref w6, .ref w7, .ref w8, .ref w9])), (w1, .inl (cI, 64, .inl (va_cpy (v 1) (w 1) (Int32.toNatClampNeg 0) (Int32.toNatClampNeg 0) (Int32.toNatClampNeg 64)))), (w2, .inl (cI, 10, .inl (va_cpy (v 2) (w 2) (Int32.toNatClampNeg 0) (Int32.toNatClampNeg 0) (Int32.toNatClampNeg 10)))), (w3, .inl (cI, 10, .inl (w 3))), (w4, .inl (cI, 20, .inl (w 4))), (w5, .inl (cI, 20, .inl (w 5))), (w6, .inl (cI, 160, .inl (w 6))), (w7, .inl (cI, 20, .inl (w 7))), (w8, .inl (cI, 20, .inl (w 8))), (w9, .inl (cI, 20, .inl (w 9)))] ++ (cWeb cI va v1 v2 v3 v4 v5 v6 v7 v8 v9 v)) H := hP
  have hD : va_D A ([(wa, .inr (4, [.int (v 0 0), .int (v 0 1), .int (v 0 2), .ref w1, .ref w2, .ref w3, .ref w4, .ref w5, .ref w6, .ref w7, .ref w8, .ref w9])), (w1, .inl (cI, 64, .inl (va_cpy (v 1) (w 1) (Int32.toNatClampNeg 0) (Int32.toNatClampNeg 0) (Int32.toNatClampNeg 64)))), (w2, .inl (cI, 10, .inl (va_cpy (v 2) (w 2) (Int32.toNatClampNeg 0) (Int32.toNatClampNeg 0) (Int32.toNatClampNeg 10)))), (w3, .inl (cI, 10, .inl (w 3))), (w4, .inl (cI, 20, .inl (w 4))), (w5, .inl (cI, 20, .inl (w 5))), (w6, .inl (cI, 160, .inl (w 6))), (w7, .inl (cI, 20, .inl (w 7))), (w8, .inl (cI, 20, .inl (w 8))), (w9, .inl (cI, 20, .inl (w 9)))] ++ (cWeb cI va v1 v2 v3 v4 v5 v6 v7 v8 v9 v)) := hD
  refine lv_aload_n hx hb dX4_become_54 rfl (lv_at hl 1 rfl) ?_
  refine va_get (D := D) (ci := 4) (v := .ref v3) (C := RX4) (T := TX4) (N := 12) hx hb hts inT4 hown hK hP 10 rfl rfl 5 (by decide) (hts _ mT_88) (fun _ h9 => h9) rfl dX4_become_55 ?_
  refine lv_iconst (v := 0) hx hb dX4_become_58 (by decide) ?_
  refine lv_aload_n hx hb dX4_become_59 rfl (lv_at hl 0 rfl) ?_
  refine va_get (D := D) (ci := 4) (v := .ref w3) (C := RX4) (T := TX4) (N := 12) hx hb hts inT4 hown hK hP 0 rfl rfl 5 (by decide) (hts _ mT_88) (fun _ h9 => h9) rfl dX4_become_60 ?_
  refine lv_iconst (v := 0) hx hb dX4_become_63 (by decide) ?_
  refine lv_bipush (v := 10) hx hb dX4_become_64 (by decide) ?_
  obtain ⟨b66, hf⟩ := gd_some hf
  refine va_copyi (rest := []) (f := v 3) (g := w 3) (ty := .int) hx hb (hml.trans hl.1.symm) hown (hts _ mT_448) (hts _ mT_450) (hts _ mT_449) (hts _ mT_60) hK hP hD hS 13 3 0 0 rfl rfl rfl rfl rfl (cpy_1 b66) (cpy_2 b66) (cpy_3 b66) (cpy_4 b66) (cpy_5 b66) (fun _ _ => rfl) (Nat.le_of_ble_eq_true rfl) (Nat.le_of_ble_eq_true rfl) dX4_become_66 (fun H locs hP hD hS => ?_)
  have hP : va_P D vwCl ([(wa, .inr (4, [.int (v 0 0), .int (v 0 1), .int (v 0 2), .ref w1, .ref w2, .ref w3, .ref w4, .ref w5, .ref w6, .ref w7, .ref w8, .ref w9])), (w1, .inl (cI, 64, .inl (va_cpy (v 1) (w 1) (Int32.toNatClampNeg 0) (Int32.toNatClampNeg 0) (Int32.toNatClampNeg 64)))), (w2, .inl (cI, 10, .inl (va_cpy (v 2) (w 2) (Int32.toNatClampNeg 0) (Int32.toNatClampNeg 0) (Int32.toNatClampNeg 10)))), (w3, .inl (cI, 10, .inl (va_cpy (v 3) (w 3) (Int32.toNatClampNeg 0) (Int32.toNatClampNeg 0) (Int32.toNatClampNeg 10)))), (w4, .inl (cI, 20, .inl (w 4))), (w5, .inl (cI, 20, .inl (w 5))), (w6, .inl (cI, 160, .inl (w 6))), (w7, .inl (cI, 20, .inl (w 7))), (w8, .inl (cI, 20, .inl (w 8))), (w9, .inl (cI, 20, .inl (w 9)))] ++ (cWeb cI va v1 v2 v3 v4 v5 v6 v7 v8 v9 v)) H := hP
  have hD : va_D A ([(wa, .inr (4, [.int (v 0 0), .int (v 0 1), .int (v 0 2), .ref w1, .ref w2, .ref w3, .ref w4, .ref w5, .ref w6, .ref w7, .ref w8, .ref w9])), (w1, .inl (cI, 64, .inl (va_cpy (v 1) (w 1) (Int32.toNatClampNeg 0) (Int32.toNatClampNeg 0) (Int32.toNatClampNeg 64)))), (w2, .inl (cI, 10, .inl (va_cpy (v 2) (w 2) (Int32.toNatClampNeg 0) (Int32.toNatClampNeg 0) (Int32.toNatClampNeg 10)))), (w3, .inl (cI, 10, .inl (va_cpy (v 3) (w 3) (Int32.toNatClampNeg 0) (Int32.toNatClampNeg 0) (Int32.toNatClampNeg 10)))), (w4, .inl (cI, 20, .inl (w 4))), (w5, .inl (cI, 20, .inl (w 5))), (w6, .inl (cI, 160, .inl (w 6))), (w7, .inl (cI, 20, .inl (w 7))), (w8, .inl (cI, 20, .inl (w 8))), (w9, .inl (cI, 20, .inl (w 9)))] ++ (cWeb cI va v1 v2 v3 v4 v5 v6 v7 v8 v9 v)) := hD
  refine lv_aload_n hx hb dX4_become_69 rfl (lv_at hl 1 rfl) ?_
  refine va_get (D := D) (ci := 4) (v := .ref v4) (C := RX4) (T := TX4) (N := 12) hx hb hts inT4 hown hK hP 10 rfl rfl 6 (by decide) (hts _ mT_91) (fun _ h9 => h9) rfl dX4_become_70 ?_
  refine lv_iconst (v := 0) hx hb dX4_become_73 (by decide) ?_
  refine lv_aload_n hx hb dX4_become_74 rfl (lv_at hl 0 rfl) ?_
  refine va_get (D := D) (ci := 4) (v := .ref w4) (C := RX4) (T := TX4) (N := 12) hx hb hts inT4 hown hK hP 0 rfl rfl 6 (by decide) (hts _ mT_91) (fun _ h9 => h9) rfl dX4_become_75 ?_
  refine lv_iconst (v := 0) hx hb dX4_become_78 (by decide) ?_
  refine lv_bipush (v := 20) hx hb dX4_become_79 (by decide) ?_
  obtain ⟨b81, hf⟩ := gd_some hf
  refine va_copyi (rest := []) (f := v 4) (g := w 4) (ty := .int) hx hb (hml.trans hl.1.symm) hown (hts _ mT_448) (hts _ mT_450) (hts _ mT_449) (hts _ mT_60) hK hP hD hS 14 4 0 0 rfl rfl rfl rfl rfl (cpy_1 b81) (cpy_2 b81) (cpy_3 b81) (cpy_4 b81) (cpy_5 b81) (fun _ _ => rfl) (Nat.le_of_ble_eq_true rfl) (Nat.le_of_ble_eq_true rfl) dX4_become_81 (fun H locs hP hD hS => ?_)
  have hP : va_P D vwCl ([(wa, .inr (4, [.int (v 0 0), .int (v 0 1), .int (v 0 2), .ref w1, .ref w2, .ref w3, .ref w4, .ref w5, .ref w6, .ref w7, .ref w8, .ref w9])), (w1, .inl (cI, 64, .inl (va_cpy (v 1) (w 1) (Int32.toNatClampNeg 0) (Int32.toNatClampNeg 0) (Int32.toNatClampNeg 64)))), (w2, .inl (cI, 10, .inl (va_cpy (v 2) (w 2) (Int32.toNatClampNeg 0) (Int32.toNatClampNeg 0) (Int32.toNatClampNeg 10)))), (w3, .inl (cI, 10, .inl (va_cpy (v 3) (w 3) (Int32.toNatClampNeg 0) (Int32.toNatClampNeg 0) (Int32.toNatClampNeg 10)))), (w4, .inl (cI, 20, .inl (va_cpy (v 4) (w 4) (Int32.toNatClampNeg 0) (Int32.toNatClampNeg 0) (Int32.toNatClampNeg 20)))), (w5, .inl (cI, 20, .inl (w 5))), (w6, .inl (cI, 160, .inl (w 6))), (w7, .inl (cI, 20, .inl (w 7))), (w8, .inl (cI, 20, .inl (w 8))), (w9, .inl (cI, 20, .inl (w 9)))] ++ (cWeb cI va v1 v2 v3 v4 v5 v6 v7 v8 v9 v)) H := hP
  have hD : va_D A ([(wa, .inr (4, [.int (v 0 0), .int (v 0 1), .int (v 0 2), .ref w1, .ref w2, .ref w3, .ref w4, .ref w5, .ref w6, .ref w7, .ref w8, .ref w9])), (w1, .inl (cI, 64, .inl (va_cpy (v 1) (w 1) (Int32.toNatClampNeg 0) (Int32.toNatClampNeg 0) (Int32.toNatClampNeg 64)))), (w2, .inl (cI, 10, .inl (va_cpy (v 2) (w 2) (Int32.toNatClampNeg 0) (Int32.toNatClampNeg 0) (Int32.toNatClampNeg 10)))), (w3, .inl (cI, 10, .inl (va_cpy (v 3) (w 3) (Int32.toNatClampNeg 0) (Int32.toNatClampNeg 0) (Int32.toNatClampNeg 10)))), (w4, .inl (cI, 20, .inl (va_cpy (v 4) (w 4) (Int32.toNatClampNeg 0) (Int32.toNatClampNeg 0) (Int32.toNatClampNeg 20)))), (w5, .inl (cI, 20, .inl (w 5))), (w6, .inl (cI, 160, .inl (w 6))), (w7, .inl (cI, 20, .inl (w 7))), (w8, .inl (cI, 20, .inl (w 8))), (w9, .inl (cI, 20, .inl (w 9)))] ++ (cWeb cI va v1 v2 v3 v4 v5 v6 v7 v8 v9 v)) := hD
  refine lv_aload_n hx hb dX4_become_84 rfl (lv_at hl 1 rfl) ?_
  refine va_get (D := D) (ci := 4) (v := .ref v5) (C := RX4) (T := TX4) (N := 12) hx hb hts inT4 hown hK hP 10 rfl rfl 7 (by decide) (hts _ mT_94) (fun _ h9 => h9) rfl dX4_become_85 ?_
  refine lv_iconst (v := 0) hx hb dX4_become_88 (by decide) ?_
  refine lv_aload_n hx hb dX4_become_89 rfl (lv_at hl 0 rfl) ?_
  refine va_get (D := D) (ci := 4) (v := .ref w5) (C := RX4) (T := TX4) (N := 12) hx hb hts inT4 hown hK hP 0 rfl rfl 7 (by decide) (hts _ mT_94) (fun _ h9 => h9) rfl dX4_become_90 ?_
  refine lv_iconst (v := 0) hx hb dX4_become_93 (by decide) ?_
  refine lv_bipush (v := 20) hx hb dX4_become_94 (by decide) ?_
  obtain ⟨b96, hf⟩ := gd_some hf
  refine va_copyi (rest := []) (f := v 5) (g := w 5) (ty := .int) hx hb (hml.trans hl.1.symm) hown (hts _ mT_448) (hts _ mT_450) (hts _ mT_449) (hts _ mT_60) hK hP hD hS 15 5 0 0 rfl rfl rfl rfl rfl (cpy_1 b96) (cpy_2 b96) (cpy_3 b96) (cpy_4 b96) (cpy_5 b96) (fun _ _ => rfl) (Nat.le_of_ble_eq_true rfl) (Nat.le_of_ble_eq_true rfl) dX4_become_96 (fun H locs hP hD hS => ?_)
  have hP : va_P D vwCl ([(wa, .inr (4, [.int (v 0 0), .int (v 0 1), .int (v 0 2), .ref w1, .ref w2, .ref w3, .ref w4, .ref w5, .ref w6, .ref w7, .ref w8, .ref w9])), (w1, .inl (cI, 64, .inl (va_cpy (v 1) (w 1) (Int32.toNatClampNeg 0) (Int32.toNatClampNeg 0) (Int32.toNatClampNeg 64)))), (w2, .inl (cI, 10, .inl (va_cpy (v 2) (w 2) (Int32.toNatClampNeg 0) (Int32.toNatClampNeg 0) (Int32.toNatClampNeg 10)))), (w3, .inl (cI, 10, .inl (va_cpy (v 3) (w 3) (Int32.toNatClampNeg 0) (Int32.toNatClampNeg 0) (Int32.toNatClampNeg 10)))), (w4, .inl (cI, 20, .inl (va_cpy (v 4) (w 4) (Int32.toNatClampNeg 0) (Int32.toNatClampNeg 0) (Int32.toNatClampNeg 20)))), (w5, .inl (cI, 20, .inl (va_cpy (v 5) (w 5) (Int32.toNatClampNeg 0) (Int32.toNatClampNeg 0) (Int32.toNatClampNeg 20)))), (w6, .inl (cI, 160, .inl (w 6))), (w7, .inl (cI, 20, .inl (w 7))), (w8, .inl (cI, 20, .inl (w 8))), (w9, .inl (cI, 20, .inl (w 9)))] ++ (cWeb cI va v1 v2 v3 v4 v5 v6 v7 v8 v9 v)) H := hP
  have hD : va_D A ([(wa, .inr (4, [.int (v 0 0), .int (v 0 1), .int (v 0 2), .ref w1, .ref w2, .ref w3, .ref w4, .ref w5, .ref w6, .ref w7, .ref w8, .ref w9])), (w1, .inl (cI, 64, .inl (va_cpy (v 1) (w 1) (Int32.toNatClampNeg 0) (Int32.toNatClampNeg 0) (Int32.toNatClampNeg 64)))), (w2, .inl (cI, 10, .inl (va_cpy (v 2) (w 2) (Int32.toNatClampNeg 0) (Int32.toNatClampNeg 0) (Int32.toNatClampNeg 10)))), (w3, .inl (cI, 10, .inl (va_cpy (v 3) (w 3) (Int32.toNatClampNeg 0) (Int32.toNatClampNeg 0) (Int32.toNatClampNeg 10)))), (w4, .inl (cI, 20, .inl (va_cpy (v 4) (w 4) (Int32.toNatClampNeg 0) (Int32.toNatClampNeg 0) (Int32.toNatClampNeg 20)))), (w5, .inl (cI, 20, .inl (va_cpy (v 5) (w 5) (Int32.toNatClampNeg 0) (Int32.toNatClampNeg 0) (Int32.toNatClampNeg 20)))), (w6, .inl (cI, 160, .inl (w 6))), (w7, .inl (cI, 20, .inl (w 7))), (w8, .inl (cI, 20, .inl (w 8))), (w9, .inl (cI, 20, .inl (w 9)))] ++ (cWeb cI va v1 v2 v3 v4 v5 v6 v7 v8 v9 v)) := hD
  refine lv_aload_n hx hb dX4_become_99 rfl (lv_at hl 1 rfl) ?_
  refine va_get (D := D) (ci := 4) (v := .ref v6) (C := RX4) (T := TX4) (N := 12) hx hb hts inT4 hown hK hP 10 rfl rfl 8 (by decide) (hts _ mT_97) (fun _ h9 => h9) rfl dX4_become_100 ?_
  refine lv_iconst (v := 0) hx hb dX4_become_103 (by decide) ?_
  refine lv_aload_n hx hb dX4_become_104 rfl (lv_at hl 0 rfl) ?_
  refine va_get (D := D) (ci := 4) (v := .ref w6) (C := RX4) (T := TX4) (N := 12) hx hb hts inT4 hown hK hP 0 rfl rfl 8 (by decide) (hts _ mT_97) (fun _ h9 => h9) rfl dX4_become_105 ?_
  refine lv_iconst (v := 0) hx hb dX4_become_108 (by decide) ?_
  refine lv_sipush (v := 160) hx hb dX4_become_109 (by decide) ?_
  obtain ⟨b112, hf⟩ := gd_some hf
  refine va_copyi (rest := []) (f := v 6) (g := w 6) (ty := .int) hx hb (hml.trans hl.1.symm) hown (hts _ mT_448) (hts _ mT_450) (hts _ mT_449) (hts _ mT_60) hK hP hD hS 16 6 0 0 rfl rfl rfl rfl rfl (cpy_1 b112) (cpy_2 b112) (cpy_3 b112) (cpy_4 b112) (cpy_5 b112) (fun _ _ => rfl) (Nat.le_of_ble_eq_true rfl) (Nat.le_of_ble_eq_true rfl) dX4_become_112 (fun H locs hP hD hS => ?_)
  have hP : va_P D vwCl ([(wa, .inr (4, [.int (v 0 0), .int (v 0 1), .int (v 0 2), .ref w1, .ref w2, .ref w3, .ref w4, .ref w5, .ref w6, .ref w7, .ref w8, .ref w9])), (w1, .inl (cI, 64, .inl (va_cpy (v 1) (w 1) (Int32.toNatClampNeg 0) (Int32.toNatClampNeg 0) (Int32.toNatClampNeg 64)))), (w2, .inl (cI, 10, .inl (va_cpy (v 2) (w 2) (Int32.toNatClampNeg 0) (Int32.toNatClampNeg 0) (Int32.toNatClampNeg 10)))), (w3, .inl (cI, 10, .inl (va_cpy (v 3) (w 3) (Int32.toNatClampNeg 0) (Int32.toNatClampNeg 0) (Int32.toNatClampNeg 10)))), (w4, .inl (cI, 20, .inl (va_cpy (v 4) (w 4) (Int32.toNatClampNeg 0) (Int32.toNatClampNeg 0) (Int32.toNatClampNeg 20)))), (w5, .inl (cI, 20, .inl (va_cpy (v 5) (w 5) (Int32.toNatClampNeg 0) (Int32.toNatClampNeg 0) (Int32.toNatClampNeg 20)))), (w6, .inl (cI, 160, .inl (va_cpy (v 6) (w 6) (Int32.toNatClampNeg 0) (Int32.toNatClampNeg 0) (Int32.toNatClampNeg 160)))), (w7, .inl (cI, 20, .inl (w 7))), (w8, .inl (cI, 20, .inl (w 8))), (w9, .inl (cI, 20, .inl (w 9)))] ++ (cWeb cI va v1 v2 v3 v4 v5 v6 v7 v8 v9 v)) H := hP
  have hD : va_D A ([(wa, .inr (4, [.int (v 0 0), .int (v 0 1), .int (v 0 2), .ref w1, .ref w2, .ref w3, .ref w4, .ref w5, .ref w6, .ref w7, .ref w8, .ref w9])), (w1, .inl (cI, 64, .inl (va_cpy (v 1) (w 1) (Int32.toNatClampNeg 0) (Int32.toNatClampNeg 0) (Int32.toNatClampNeg 64)))), (w2, .inl (cI, 10, .inl (va_cpy (v 2) (w 2) (Int32.toNatClampNeg 0) (Int32.toNatClampNeg 0) (Int32.toNatClampNeg 10)))), (w3, .inl (cI, 10, .inl (va_cpy (v 3) (w 3) (Int32.toNatClampNeg 0) (Int32.toNatClampNeg 0) (Int32.toNatClampNeg 10)))), (w4, .inl (cI, 20, .inl (va_cpy (v 4) (w 4) (Int32.toNatClampNeg 0) (Int32.toNatClampNeg 0) (Int32.toNatClampNeg 20)))), (w5, .inl (cI, 20, .inl (va_cpy (v 5) (w 5) (Int32.toNatClampNeg 0) (Int32.toNatClampNeg 0) (Int32.toNatClampNeg 20)))), (w6, .inl (cI, 160, .inl (va_cpy (v 6) (w 6) (Int32.toNatClampNeg 0) (Int32.toNatClampNeg 0) (Int32.toNatClampNeg 160)))), (w7, .inl (cI, 20, .inl (w 7))), (w8, .inl (cI, 20, .inl (w 8))), (w9, .inl (cI, 20, .inl (w 9)))] ++ (cWeb cI va v1 v2 v3 v4 v5 v6 v7 v8 v9 v)) := hD
  refine lv_aload_n hx hb dX4_become_115 rfl (lv_at hl 1 rfl) ?_
  refine va_get (D := D) (ci := 4) (v := .ref v7) (C := RX4) (T := TX4) (N := 12) hx hb hts inT4 hown hK hP 10 rfl rfl 9 (by decide) (hts _ mT_99) (fun _ h9 => h9) rfl dX4_become_116 ?_
  refine lv_iconst (v := 0) hx hb dX4_become_119 (by decide) ?_
  refine lv_aload_n hx hb dX4_become_120 rfl (lv_at hl 0 rfl) ?_
  refine va_get (D := D) (ci := 4) (v := .ref w7) (C := RX4) (T := TX4) (N := 12) hx hb hts inT4 hown hK hP 0 rfl rfl 9 (by decide) (hts _ mT_99) (fun _ h9 => h9) rfl dX4_become_121 ?_
  refine lv_iconst (v := 0) hx hb dX4_become_124 (by decide) ?_
  refine lv_bipush (v := 20) hx hb dX4_become_125 (by decide) ?_
  obtain ⟨b127, hf⟩ := gd_some hf
  refine va_copyi (rest := []) (f := v 7) (g := w 7) (ty := .int) hx hb (hml.trans hl.1.symm) hown (hts _ mT_448) (hts _ mT_450) (hts _ mT_449) (hts _ mT_60) hK hP hD hS 17 7 0 0 rfl rfl rfl rfl rfl (cpy_1 b127) (cpy_2 b127) (cpy_3 b127) (cpy_4 b127) (cpy_5 b127) (fun _ _ => rfl) (Nat.le_of_ble_eq_true rfl) (Nat.le_of_ble_eq_true rfl) dX4_become_127 (fun H locs hP hD hS => ?_)
  have hP : va_P D vwCl ([(wa, .inr (4, [.int (v 0 0), .int (v 0 1), .int (v 0 2), .ref w1, .ref w2, .ref w3, .ref w4, .ref w5, .ref w6, .ref w7, .ref w8, .ref w9])), (w1, .inl (cI, 64, .inl (va_cpy (v 1) (w 1) (Int32.toNatClampNeg 0) (Int32.toNatClampNeg 0) (Int32.toNatClampNeg 64)))), (w2, .inl (cI, 10, .inl (va_cpy (v 2) (w 2) (Int32.toNatClampNeg 0) (Int32.toNatClampNeg 0) (Int32.toNatClampNeg 10)))), (w3, .inl (cI, 10, .inl (va_cpy (v 3) (w 3) (Int32.toNatClampNeg 0) (Int32.toNatClampNeg 0) (Int32.toNatClampNeg 10)))), (w4, .inl (cI, 20, .inl (va_cpy (v 4) (w 4) (Int32.toNatClampNeg 0) (Int32.toNatClampNeg 0) (Int32.toNatClampNeg 20)))), (w5, .inl (cI, 20, .inl (va_cpy (v 5) (w 5) (Int32.toNatClampNeg 0) (Int32.toNatClampNeg 0) (Int32.toNatClampNeg 20)))), (w6, .inl (cI, 160, .inl (va_cpy (v 6) (w 6) (Int32.toNatClampNeg 0) (Int32.toNatClampNeg 0) (Int32.toNatClampNeg 160)))), (w7, .inl (cI, 20, .inl (va_cpy (v 7) (w 7) (Int32.toNatClampNeg 0) (Int32.toNatClampNeg 0) (Int32.toNatClampNeg 20)))), (w8, .inl (cI, 20, .inl (w 8))), (w9, .inl (cI, 20, .inl (w 9)))] ++ (cWeb cI va v1 v2 v3 v4 v5 v6 v7 v8 v9 v)) H := hP
  have hD : va_D A ([(wa, .inr (4, [.int (v 0 0), .int (v 0 1), .int (v 0 2), .ref w1, .ref w2, .ref w3, .ref w4, .ref w5, .ref w6, .ref w7, .ref w8, .ref w9])), (w1, .inl (cI, 64, .inl (va_cpy (v 1) (w 1) (Int32.toNatClampNeg 0) (Int32.toNatClampNeg 0) (Int32.toNatClampNeg 64)))), (w2, .inl (cI, 10, .inl (va_cpy (v 2) (w 2) (Int32.toNatClampNeg 0) (Int32.toNatClampNeg 0) (Int32.toNatClampNeg 10)))), (w3, .inl (cI, 10, .inl (va_cpy (v 3) (w 3) (Int32.toNatClampNeg 0) (Int32.toNatClampNeg 0) (Int32.toNatClampNeg 10)))), (w4, .inl (cI, 20, .inl (va_cpy (v 4) (w 4) (Int32.toNatClampNeg 0) (Int32.toNatClampNeg 0) (Int32.toNatClampNeg 20)))), (w5, .inl (cI, 20, .inl (va_cpy (v 5) (w 5) (Int32.toNatClampNeg 0) (Int32.toNatClampNeg 0) (Int32.toNatClampNeg 20)))), (w6, .inl (cI, 160, .inl (va_cpy (v 6) (w 6) (Int32.toNatClampNeg 0) (Int32.toNatClampNeg 0) (Int32.toNatClampNeg 160)))), (w7, .inl (cI, 20, .inl (va_cpy (v 7) (w 7) (Int32.toNatClampNeg 0) (Int32.toNatClampNeg 0) (Int32.toNatClampNeg 20)))), (w8, .inl (cI, 20, .inl (w 8))), (w9, .inl (cI, 20, .inl (w 9)))] ++ (cWeb cI va v1 v2 v3 v4 v5 v6 v7 v8 v9 v)) := hD
  refine lv_aload_n hx hb dX4_become_130 rfl (lv_at hl 1 rfl) ?_
  refine va_get (D := D) (ci := 4) (v := .ref v8) (C := RX4) (T := TX4) (N := 12) hx hb hts inT4 hown hK hP 10 rfl rfl 10 (by decide) (hts _ mT_101) (fun _ h9 => h9) rfl dX4_become_131 ?_
  refine lv_iconst (v := 0) hx hb dX4_become_134 (by decide) ?_
  refine lv_aload_n hx hb dX4_become_135 rfl (lv_at hl 0 rfl) ?_
  refine va_get (D := D) (ci := 4) (v := .ref w8) (C := RX4) (T := TX4) (N := 12) hx hb hts inT4 hown hK hP 0 rfl rfl 10 (by decide) (hts _ mT_101) (fun _ h9 => h9) rfl dX4_become_136 ?_
  refine lv_iconst (v := 0) hx hb dX4_become_139 (by decide) ?_
  refine lv_bipush (v := 20) hx hb dX4_become_140 (by decide) ?_
  obtain ⟨b142, hf⟩ := gd_some hf
  refine va_copyi (rest := []) (f := v 8) (g := w 8) (ty := .int) hx hb (hml.trans hl.1.symm) hown (hts _ mT_448) (hts _ mT_450) (hts _ mT_449) (hts _ mT_60) hK hP hD hS 18 8 0 0 rfl rfl rfl rfl rfl (cpy_1 b142) (cpy_2 b142) (cpy_3 b142) (cpy_4 b142) (cpy_5 b142) (fun _ _ => rfl) (Nat.le_of_ble_eq_true rfl) (Nat.le_of_ble_eq_true rfl) dX4_become_142 (fun H locs hP hD hS => ?_)
  have hP : va_P D vwCl ([(wa, .inr (4, [.int (v 0 0), .int (v 0 1), .int (v 0 2), .ref w1, .ref w2, .ref w3, .ref w4, .ref w5, .ref w6, .ref w7, .ref w8, .ref w9])), (w1, .inl (cI, 64, .inl (va_cpy (v 1) (w 1) (Int32.toNatClampNeg 0) (Int32.toNatClampNeg 0) (Int32.toNatClampNeg 64)))), (w2, .inl (cI, 10, .inl (va_cpy (v 2) (w 2) (Int32.toNatClampNeg 0) (Int32.toNatClampNeg 0) (Int32.toNatClampNeg 10)))), (w3, .inl (cI, 10, .inl (va_cpy (v 3) (w 3) (Int32.toNatClampNeg 0) (Int32.toNatClampNeg 0) (Int32.toNatClampNeg 10)))), (w4, .inl (cI, 20, .inl (va_cpy (v 4) (w 4) (Int32.toNatClampNeg 0) (Int32.toNatClampNeg 0) (Int32.toNatClampNeg 20)))), (w5, .inl (cI, 20, .inl (va_cpy (v 5) (w 5) (Int32.toNatClampNeg 0) (Int32.toNatClampNeg 0) (Int32.toNatClampNeg 20)))), (w6, .inl (cI, 160, .inl (va_cpy (v 6) (w 6) (Int32.toNatClampNeg 0) (Int32.toNatClampNeg 0) (Int32.toNatClampNeg 160)))), (w7, .inl (cI, 20, .inl (va_cpy (v 7) (w 7) (Int32.toNatClampNeg 0) (Int32.toNatClampNeg 0) (Int32.toNatClampNeg 20)))), (w8, .inl (cI, 20, .inl (va_cpy (v 8) (w 8) (Int32.toNatClampNeg 0) (Int32.toNatClampNeg 0) (Int32.toNatClampNeg 20)))), (w9, .inl (cI, 20, .inl (w 9)))] ++ (cWeb cI va v1 v2 v3 v4 v5 v6 v7 v8 v9 v)) H := hP
  have hD : va_D A ([(wa, .inr (4, [.int (v 0 0), .int (v 0 1), .int (v 0 2), .ref w1, .ref w2, .ref w3, .ref w4, .ref w5, .ref w6, .ref w7, .ref w8, .ref w9])), (w1, .inl (cI, 64, .inl (va_cpy (v 1) (w 1) (Int32.toNatClampNeg 0) (Int32.toNatClampNeg 0) (Int32.toNatClampNeg 64)))), (w2, .inl (cI, 10, .inl (va_cpy (v 2) (w 2) (Int32.toNatClampNeg 0) (Int32.toNatClampNeg 0) (Int32.toNatClampNeg 10)))), (w3, .inl (cI, 10, .inl (va_cpy (v 3) (w 3) (Int32.toNatClampNeg 0) (Int32.toNatClampNeg 0) (Int32.toNatClampNeg 10)))), (w4, .inl (cI, 20, .inl (va_cpy (v 4) (w 4) (Int32.toNatClampNeg 0) (Int32.toNatClampNeg 0) (Int32.toNatClampNeg 20)))), (w5, .inl (cI, 20, .inl (va_cpy (v 5) (w 5) (Int32.toNatClampNeg 0) (Int32.toNatClampNeg 0) (Int32.toNatClampNeg 20)))), (w6, .inl (cI, 160, .inl (va_cpy (v 6) (w 6) (Int32.toNatClampNeg 0) (Int32.toNatClampNeg 0) (Int32.toNatClampNeg 160)))), (w7, .inl (cI, 20, .inl (va_cpy (v 7) (w 7) (Int32.toNatClampNeg 0) (Int32.toNatClampNeg 0) (Int32.toNatClampNeg 20)))), (w8, .inl (cI, 20, .inl (va_cpy (v 8) (w 8) (Int32.toNatClampNeg 0) (Int32.toNatClampNeg 0) (Int32.toNatClampNeg 20)))), (w9, .inl (cI, 20, .inl (w 9)))] ++ (cWeb cI va v1 v2 v3 v4 v5 v6 v7 v8 v9 v)) := hD
  refine lv_aload_n hx hb dX4_become_145 rfl (lv_at hl 1 rfl) ?_
  refine va_get (D := D) (ci := 4) (v := .ref v9) (C := RX4) (T := TX4) (N := 12) hx hb hts inT4 hown hK hP 10 rfl rfl 11 (by decide) (hts _ mT_103) (fun _ h9 => h9) rfl dX4_become_146 ?_
  refine lv_iconst (v := 0) hx hb dX4_become_149 (by decide) ?_
  refine lv_aload_n hx hb dX4_become_150 rfl (lv_at hl 0 rfl) ?_
  refine va_get (D := D) (ci := 4) (v := .ref w9) (C := RX4) (T := TX4) (N := 12) hx hb hts inT4 hown hK hP 0 rfl rfl 11 (by decide) (hts _ mT_103) (fun _ h9 => h9) rfl dX4_become_151 ?_
  refine lv_iconst (v := 0) hx hb dX4_become_154 (by decide) ?_
  refine lv_bipush (v := 20) hx hb dX4_become_155 (by decide) ?_
  obtain ⟨b157, hf⟩ := gd_some hf
  refine va_copyi (rest := []) (f := v 9) (g := w 9) (ty := .int) hx hb (hml.trans hl.1.symm) hown (hts _ mT_448) (hts _ mT_450) (hts _ mT_449) (hts _ mT_60) hK hP hD hS 19 9 0 0 rfl rfl rfl rfl rfl (cpy_1 b157) (cpy_2 b157) (cpy_3 b157) (cpy_4 b157) (cpy_5 b157) (fun _ _ => rfl) (Nat.le_of_ble_eq_true rfl) (Nat.le_of_ble_eq_true rfl) dX4_become_157 (fun H locs hP hD hS => ?_)
  have hP : va_P D vwCl ([(wa, .inr (4, [.int (v 0 0), .int (v 0 1), .int (v 0 2), .ref w1, .ref w2, .ref w3, .ref w4, .ref w5, .ref w6, .ref w7, .ref w8, .ref w9])), (w1, .inl (cI, 64, .inl (va_cpy (v 1) (w 1) (Int32.toNatClampNeg 0) (Int32.toNatClampNeg 0) (Int32.toNatClampNeg 64)))), (w2, .inl (cI, 10, .inl (va_cpy (v 2) (w 2) (Int32.toNatClampNeg 0) (Int32.toNatClampNeg 0) (Int32.toNatClampNeg 10)))), (w3, .inl (cI, 10, .inl (va_cpy (v 3) (w 3) (Int32.toNatClampNeg 0) (Int32.toNatClampNeg 0) (Int32.toNatClampNeg 10)))), (w4, .inl (cI, 20, .inl (va_cpy (v 4) (w 4) (Int32.toNatClampNeg 0) (Int32.toNatClampNeg 0) (Int32.toNatClampNeg 20)))), (w5, .inl (cI, 20, .inl (va_cpy (v 5) (w 5) (Int32.toNatClampNeg 0) (Int32.toNatClampNeg 0) (Int32.toNatClampNeg 20)))), (w6, .inl (cI, 160, .inl (va_cpy (v 6) (w 6) (Int32.toNatClampNeg 0) (Int32.toNatClampNeg 0) (Int32.toNatClampNeg 160)))), (w7, .inl (cI, 20, .inl (va_cpy (v 7) (w 7) (Int32.toNatClampNeg 0) (Int32.toNatClampNeg 0) (Int32.toNatClampNeg 20)))), (w8, .inl (cI, 20, .inl (va_cpy (v 8) (w 8) (Int32.toNatClampNeg 0) (Int32.toNatClampNeg 0) (Int32.toNatClampNeg 20)))), (w9, .inl (cI, 20, .inl (va_cpy (v 9) (w 9) (Int32.toNatClampNeg 0) (Int32.toNatClampNeg 0) (Int32.toNatClampNeg 20))))] ++ (cWeb cI va v1 v2 v3 v4 v5 v6 v7 v8 v9 v)) H := hP
  have hD : va_D A ([(wa, .inr (4, [.int (v 0 0), .int (v 0 1), .int (v 0 2), .ref w1, .ref w2, .ref w3, .ref w4, .ref w5, .ref w6, .ref w7, .ref w8, .ref w9])), (w1, .inl (cI, 64, .inl (va_cpy (v 1) (w 1) (Int32.toNatClampNeg 0) (Int32.toNatClampNeg 0) (Int32.toNatClampNeg 64)))), (w2, .inl (cI, 10, .inl (va_cpy (v 2) (w 2) (Int32.toNatClampNeg 0) (Int32.toNatClampNeg 0) (Int32.toNatClampNeg 10)))), (w3, .inl (cI, 10, .inl (va_cpy (v 3) (w 3) (Int32.toNatClampNeg 0) (Int32.toNatClampNeg 0) (Int32.toNatClampNeg 10)))), (w4, .inl (cI, 20, .inl (va_cpy (v 4) (w 4) (Int32.toNatClampNeg 0) (Int32.toNatClampNeg 0) (Int32.toNatClampNeg 20)))), (w5, .inl (cI, 20, .inl (va_cpy (v 5) (w 5) (Int32.toNatClampNeg 0) (Int32.toNatClampNeg 0) (Int32.toNatClampNeg 20)))), (w6, .inl (cI, 160, .inl (va_cpy (v 6) (w 6) (Int32.toNatClampNeg 0) (Int32.toNatClampNeg 0) (Int32.toNatClampNeg 160)))), (w7, .inl (cI, 20, .inl (va_cpy (v 7) (w 7) (Int32.toNatClampNeg 0) (Int32.toNatClampNeg 0) (Int32.toNatClampNeg 20)))), (w8, .inl (cI, 20, .inl (va_cpy (v 8) (w 8) (Int32.toNatClampNeg 0) (Int32.toNatClampNeg 0) (Int32.toNatClampNeg 20)))), (w9, .inl (cI, 20, .inl (va_cpy (v 9) (w 9) (Int32.toNatClampNeg 0) (Int32.toNatClampNeg 0) (Int32.toNatClampNeg 20))))] ++ (cWeb cI va v1 v2 v3 v4 v5 v6 v7 v8 v9 v)) := hD
  exact hret _ _ (sA (sA (sA (sA (sA (sA (sA (sA (sA (sI (sI (sI w 0 (v 0 0)) 1 (v 0 1)) 2 (v 0 2)) 1 (va_cpy (v 1) (w 1) (Int32.toNatClampNeg 0) (Int32.toNatClampNeg 0) (Int32.toNatClampNeg 64))) 2 (va_cpy (v 2) (w 2) (Int32.toNatClampNeg 0) (Int32.toNatClampNeg 0) (Int32.toNatClampNeg 10))) 3 (va_cpy (v 3) (w 3) (Int32.toNatClampNeg 0) (Int32.toNatClampNeg 0) (Int32.toNatClampNeg 10))) 4 (va_cpy (v 4) (w 4) (Int32.toNatClampNeg 0) (Int32.toNatClampNeg 0) (Int32.toNatClampNeg 20))) 5 (va_cpy (v 5) (w 5) (Int32.toNatClampNeg 0) (Int32.toNatClampNeg 0) (Int32.toNatClampNeg 20))) 6 (va_cpy (v 6) (w 6) (Int32.toNatClampNeg 0) (Int32.toNatClampNeg 0) (Int32.toNatClampNeg 160))) 7 (va_cpy (v 7) (w 7) (Int32.toNatClampNeg 0) (Int32.toNatClampNeg 0) (Int32.toNatClampNeg 20))) 8 (va_cpy (v 8) (w 8) (Int32.toNatClampNeg 0) (Int32.toNatClampNeg 0) (Int32.toNatClampNeg 20))) 9 (va_cpy (v 9) (w 9) (Int32.toNatClampNeg 0) (Int32.toNatClampNeg 0) (Int32.toNatClampNeg 20))) _ _ hf dX4_become_160 hP hD hS
theorem s_yX2_rebuild : kMS yX2_rebuild cX2_rebuild 3 none 1 := ⟨mT_311, mT_57, by decide +kernel⟩
theorem v_yX2_rebuild : kMV yX2_rebuild := ⟨mT_309, mT_310⟩
def k_rebuild_2 (x2_2 : Int32) (jd_2 : Ob) : Option Ob := some jd_2
def lp_rebuild_2 (w : Ob) (kk0 : Int32 → Ob → Option Ob) : Nat → Int32 → Ob → Option Ob
  | 0, _, _ => none
  | fu2 + 1, x2_2, jd_2 => if (w 0 1) ≤ x2_2 then (kk0 x2_2 jd_2) else (bd (f_isKept w x2_2) (fun q17 => if q17 = 0 then (bd (f_together w (jd_2 1) x2_2 (-1)) (fun q39 => gd (ck x2_2 10) ((lp_rebuild_2 w kk0 fu2) (x2_2 + 1) (sA jd_2 1 (upd (jd_2 1) (Int32.toNatClampNeg x2_2) q39))))) else (gd (ck x2_2 10) (gd (ck x2_2 10) ((lp_rebuild_2 w kk0 fu2) (x2_2 + 1) (sA jd_2 1 (upd (jd_2 1) (Int32.toNatClampNeg x2_2) ((w 3) (Int32.toNatClampNeg x2_2)))))))))
def f_rebuild (jd : Ob) (w : Ob) : Option Ob := lp_rebuild_2 w k_rebuild_2 10000 0 jd
set_option maxHeartbeats 4000000 in
set_option maxRecDepth 100000 in
theorem c_rebuild (l : Launch) (D : va_G) (cI cZ cR : ClassId) (jda jd1 wa w1 w2 w3 w4 w5 w6 w7 w8 w9 : Nat) (jd : Ob) (w : Ob) (sz : Nat) (u : Ob) (hf : f_rebuild jd w = some u) : kCv l yX2_rebuild cX2_rebuild 3 none { frames := 3, cells := 0, slots := 0, locals := 73 } [.ref jda, .ref wa] D cI cZ cR (cJudge cI jda jd1 jd ++ (cWeb cI wa w1 w2 w3 w4 w5 w6 w7 w8 w9 w)) sz (cJudge cI jda jd1 u ++ (cWeb cI wa w1 w2 w3 w4 w5 w6 w7 w8 w9 w)) := by
  refine kMwv (wf := (fun u : Ob => cJudge cI jda jd1 u ++ (cWeb cI wa w1 w2 w3 w4 w5 w6 w7 w8 w9 w))) (u := u) (by decide) (Nat.le_of_ble_eq_true rfl) ?_
  intro p e s m below meth c Q A hx hb hml hown hts hk hP hD hA hS hret ls hl
  have hS0 := hS
  have hK := hk.1
  have hl : lv_has ls 3 [(0, .ref jda), (1, .ref wa)] := hl
  rw [f_rebuild] at hf
  refine lv_iconst (v := 0) hx hb dX2_rebuild_0 (by decide) ?_
  refine lv_istore_n (lv' := [(2, .int 0), (0, .ref jda), (1, .ref wa)]) hx hb dX2_rebuild_1 rfl hl (by decide) rfl (fun ls hl => ?_)
  have kx2 : ∀ (x2_2 : Int32) (jd_2 : Ob) (H : Heap) (locs : List Loc) (ls : Array Slot), k_rebuild_2 x2_2 jd_2 = some u → va_P D vwCl (cJudge cI jda jd1 jd_2 ++ (cWeb cI wa w1 w2 w3 w4 w5 w6 w7 w8 w9 w)) H → va_D A (cJudge cI jda jd1 jd_2 ++ (cWeb cI wa w1 w2 w3 w4 w5 w6 w7 w8 w9 w)) → va_S A s.heap H locs → lv_has ls 3 [(0, .ref jda), (1, .ref wa), (2, .int x2_2)] → W p l e ({ frames := 3, cells := 0, slots := 0, locals := 73 } : Room) s m ([.ref jda, .ref wa] : List Value).toArray below meth c H locs 0 0 Q (F0 m 49 ls []) := by
    intro x2_2 jd_2 H locs ls hf hP hD hS hl
    rw [k_rebuild_2] at hf
    exact hret _ _ jd_2 _ _ hf dX2_rebuild_49 hP hD hS
  have lh2 : ∀ (fu2 : Nat) (x2_2 : Int32) (jd_2 : Ob) (H : Heap) (locs : List Loc) (ls : Array Slot), lp_rebuild_2 w k_rebuild_2 fu2 x2_2 jd_2 = some u → va_P D vwCl (cJudge cI jda jd1 jd_2 ++ (cWeb cI wa w1 w2 w3 w4 w5 w6 w7 w8 w9 w)) H → va_D A (cJudge cI jda jd1 jd_2 ++ (cWeb cI wa w1 w2 w3 w4 w5 w6 w7 w8 w9 w)) → va_S A s.heap H locs → lv_has ls 3 [(0, .ref jda), (1, .ref wa), (2, .int x2_2)] → W p l e ({ frames := 3, cells := 0, slots := 0, locals := 73 } : Room) s m ([.ref jda, .ref wa] : List Value).toArray below meth c H locs 0 0 Q (F0 m 2 ls []) := by
    intro fu2
    induction fu2 with
    | zero => intro x2_2 jd_2 H locs ls hf hP hD hS hl; exact no_none hf
    | succ fu2 ih2 =>
      intro x2_2 jd_2 H locs ls hf hP hD hS hl
      rw [lp_rebuild_2] at hf
      refine lv_iload_n hx hb dX2_rebuild_2 rfl (lv_at hl 2 rfl) ?_
      refine lv_aload_n hx hb dX2_rebuild_3 rfl (lv_at hl 1 rfl) ?_
      refine va_get (D := D) (ci := 4) (v := .int (w 0 1)) (C := RX4) (T := TX4) (N := 12) hx hb hts inT4 hown hK hP 2 rfl rfl 1 (by decide) (hts _ mT_78) (fun _ h9 => h9) rfl dX2_rebuild_4 ?_
      refine lv_icmp_ge (tgt := 49) hx hb dX2_rebuild_7 (by decide) (fun c7 => ?_) (fun c7 => ?_)
      · have hf := ite_t c7 hf
        exact kx2 x2_2 jd_2 _ _ _ hf hP hD hS (lv_sub hl [0, 1, 2] rfl)
      · have hf := ite_f c7 hf
        refine lv_aload_n hx hb dX2_rebuild_10 rfl (lv_at hl 0 rfl) ?_
        refine va_get (D := D) (ci := 2) (v := .ref jd1) (C := RX2) (T := TX2) (N := 1) hx hb hts inT2 hown hK hP 0 rfl rfl 0 (by decide) (hts _ mT_210) (fun _ h9 => h9) rfl dX2_rebuild_11 ?_
        refine lv_iload_n hx hb dX2_rebuild_14 rfl (lv_at hl 2 rfl) ?_
        refine lv_aload_n hx hb dX2_rebuild_15 rfl (lv_at hl 1 rfl) ?_
        refine lv_iload_n hx hb dX2_rebuild_16 rfl (lv_at hl 2 rfl) ?_
        obtain ⟨q17, h17, hf⟩ := bd_some hf
        refine kx_rv (As := [.int x2_2]) (rest := [.int x2_2, .ref jd1]) hx hb hml hown hts hk (hP.sub (ws' := cWeb cI wa w1 w2 w3 w4 w5 w6 w7 w8 w9 w) [2, 3, 4, 5, 6, 7, 8, 9, 10, 11] rfl) hl.1 s_yX4_isKept v_yX4_isKept (c_isKept l D cI cZ cR wa w1 w2 w3 w4 w5 w6 w7 w8 w9 w x2_2 _ h17) mT_312 rfl rfl ⟨Nat.le_of_ble_eq_true rfl, Nat.le_of_ble_eq_true rfl⟩ (ci := 4) (q0 := 0) rfl rfl rfl (Nat.le_of_ble_eq_true rfl) ⟨Nat.zero_le _, Nat.zero_le _⟩ dX2_rebuild_17 ?_
        refine lv_if_eq (tgt := 32) hx hb dX2_rebuild_20 (by decide) (fun c20 => ?_) (fun c20 => ?_)
        · have hf := ite_t c20 hf
          refine lv_aload_n hx hb dX2_rebuild_32 rfl (lv_at hl 1 rfl) ?_
          refine lv_iload_n hx hb dX2_rebuild_33 rfl (lv_at hl 2 rfl) ?_
          refine lv_aload_n hx hb dX2_rebuild_34 rfl (lv_at hl 0 rfl) ?_
          refine va_get (D := D) (ci := 2) (v := .ref jd1) (C := RX2) (T := TX2) (N := 1) hx hb hts inT2 hown hK hP 0 rfl rfl 0 (by decide) (hts _ mT_210) (fun _ h9 => h9) rfl dX2_rebuild_35 ?_
          refine lv_iconst (v := (-1)) hx hb dX2_rebuild_38 (by decide) ?_
          obtain ⟨q39, h39, hf⟩ := bd_some hf
          refine kx_rv (As := [.int x2_2, .ref jd1, .int (-1)]) (rest := [.int x2_2, .ref jd1]) hx hb hml hown hts hk (hP.sub (ws' := cWeb cI wa w1 w2 w3 w4 w5 w6 w7 w8 w9 w ++ (cArr cI 10 jd1 (jd_2 1))) [2, 3, 4, 5, 6, 7, 8, 9, 10, 11, 1] rfl) hl.1 s_yX4_together v_yX4_together (c_together l D cI cZ cR wa w1 w2 w3 w4 w5 w6 w7 w8 w9 jd1 w (jd_2 1) x2_2 (-1) _ h39) mT_316 rfl rfl ⟨Nat.le_of_ble_eq_true rfl, Nat.le_of_ble_eq_true rfl⟩ (ci := 4) (q0 := 0) rfl rfl rfl (Nat.le_of_ble_eq_true rfl) ⟨Nat.zero_le _, Nat.zero_le _⟩ dX2_rebuild_39 ?_
          obtain ⟨b42, hf⟩ := gd_some hf
          refine va_iast (n := 10) (f := jd_2 1) hx hb hK hP hD hS 1 0 rfl rfl (ck_in b42) dX2_rebuild_42 (fun H locs hP hD hS => ?_)
          have hP : va_P D vwCl ([(jda, .inr (2, [.ref jd1])), (jd1, .inl (cI, 10, .inl (upd (jd_2 1) (Int32.toNatClampNeg x2_2) q39)))] ++ (cWeb cI wa w1 w2 w3 w4 w5 w6 w7 w8 w9 w)) H := hP
          have hD : va_D A ([(jda, .inr (2, [.ref jd1])), (jd1, .inl (cI, 10, .inl (upd (jd_2 1) (Int32.toNatClampNeg x2_2) q39)))] ++ (cWeb cI wa w1 w2 w3 w4 w5 w6 w7 w8 w9 w)) := hD
          refine lv_iinc (v := x2_2 + 1) (lv' := [(2, .int (x2_2 + 1)), (0, .ref jda), (1, .ref wa)]) hx hb dX2_rebuild_43 hl (k := 2) rfl rfl (by decide) rfl (fun ls hl => ?_)
          refine lv_goto (tgt := 2) hx hb dX2_rebuild_46 (by decide) ?_
          exact ih2 (x2_2 + 1) (sA jd_2 1 (upd (jd_2 1) (Int32.toNatClampNeg x2_2) q39)) _ _ _ hf hP hD hS (lv_sub hl [1, 2, 0] rfl)
        · have hf := ite_f c20 hf
          refine lv_aload_n hx hb dX2_rebuild_23 rfl (lv_at hl 1 rfl) ?_
          refine va_get (D := D) (ci := 4) (v := .ref w3) (C := RX4) (T := TX4) (N := 12) hx hb hts inT4 hown hK hP 2 rfl rfl 5 (by decide) (hts _ mT_89) (fun _ h9 => h9) rfl dX2_rebuild_24 ?_
          refine lv_iload_n hx hb dX2_rebuild_27 rfl (lv_at hl 2 rfl) ?_
          obtain ⟨b28, hf⟩ := gd_some hf
          refine va_iald (n := 10) (f := w 3) hx hb hK hP 5 0 rfl rfl (ck_in b28) dX2_rebuild_28 ?_
          refine lv_goto (tgt := 42) hx hb dX2_rebuild_29 (by decide) ?_
          obtain ⟨b42, hf⟩ := gd_some hf
          refine va_iast (n := 10) (f := jd_2 1) hx hb hK hP hD hS 1 0 rfl rfl (ck_in b42) dX2_rebuild_42 (fun H locs hP hD hS => ?_)
          have hP : va_P D vwCl ([(jda, .inr (2, [.ref jd1])), (jd1, .inl (cI, 10, .inl (upd (jd_2 1) (Int32.toNatClampNeg x2_2) ((w 3) (Int32.toNatClampNeg x2_2)))))] ++ (cWeb cI wa w1 w2 w3 w4 w5 w6 w7 w8 w9 w)) H := hP
          have hD : va_D A ([(jda, .inr (2, [.ref jd1])), (jd1, .inl (cI, 10, .inl (upd (jd_2 1) (Int32.toNatClampNeg x2_2) ((w 3) (Int32.toNatClampNeg x2_2)))))] ++ (cWeb cI wa w1 w2 w3 w4 w5 w6 w7 w8 w9 w)) := hD
          refine lv_iinc (v := x2_2 + 1) (lv' := [(2, .int (x2_2 + 1)), (0, .ref jda), (1, .ref wa)]) hx hb dX2_rebuild_43 hl (k := 2) rfl rfl (by decide) rfl (fun ls hl => ?_)
          refine lv_goto (tgt := 2) hx hb dX2_rebuild_46 (by decide) ?_
          exact ih2 (x2_2 + 1) (sA jd_2 1 (upd (jd_2 1) (Int32.toNatClampNeg x2_2) ((w 3) (Int32.toNatClampNeg x2_2)))) _ _ _ hf hP hD hS (lv_sub hl [1, 2, 0] rfl)
  exact lh2 10000 0 jd _ _ _ hf hP hD hS (lv_sub hl [1, 2, 0] rfl)
theorem s_yX2_refusedAt : kMS yX2_refusedAt cX2_refusedAt 3 (some .int) 1 := ⟨mT_307, mT_57, by decide +kernel⟩
theorem v_yX2_refusedAt : kMV yX2_refusedAt := ⟨mT_305, mT_306⟩
def k_refusedAt_7 (jd : Ob) (x2_7 : Int32) : Option (Int32 × Ob) := some ((-1), jd)
def lp_refusedAt_7 (jd : Ob) (w : Ob) (kk0 : Int32 → Option (Int32 × Ob)) : Nat → Int32 → Option (Int32 × Ob)
  | 0, _ => none
  | fu7 + 1, x2_7 => if (w 0 1) ≤ x2_7 then (kk0 x2_7) else (bd (f_isKept w x2_7) (fun q17 => if q17 = 0 then ((lp_refusedAt_7 jd w kk0 fu7) (x2_7 + 1)) else (bd (f_together w (jd 1) x2_7 (-1)) (fun q31 => gd (ck x2_7 10) (bd (f_isNoMore w q31 ((w 3) (Int32.toNatClampNeg x2_7))) (fun q40 => if q40 = 0 then (some (x2_7, jd)) else ((lp_refusedAt_7 jd w kk0 fu7) (x2_7 + 1))))))))
def f_refusedAt (jd : Ob) (w : Ob) : Option (Int32 × Ob) := bd (f_rebuild jd w) (fun q2 => lp_refusedAt_7 q2 w (k_refusedAt_7 q2) 10000 0)
set_option maxHeartbeats 4000000 in
set_option maxRecDepth 100000 in
theorem c_refusedAt (l : Launch) (D : va_G) (cI cZ cR : ClassId) (jda jd1 wa w1 w2 w3 w4 w5 w6 w7 w8 w9 : Nat) (jd : Ob) (w : Ob) (sz : Nat) (r : Int32) (u : Ob) (hf : f_refusedAt jd w = some (r, u)) : kCi l yX2_refusedAt cX2_refusedAt 3 (some .int) { frames := 4, cells := 0, slots := 0, locals := 95 } [.ref jda, .ref wa] D cI cZ cR (cJudge cI jda jd1 jd ++ (cWeb cI wa w1 w2 w3 w4 w5 w6 w7 w8 w9 w)) sz (cJudge cI jda jd1 u ++ (cWeb cI wa w1 w2 w3 w4 w5 w6 w7 w8 w9 w)) r := by
  refine kMwi (wf := (fun u : Ob => cJudge cI jda jd1 u ++ (cWeb cI wa w1 w2 w3 w4 w5 w6 w7 w8 w9 w))) (u := u) (by decide) (Nat.le_of_ble_eq_true rfl) ?_
  intro p e s m below meth c Q A hx hb hml hown hts hk hP hD hA hS hret ls hl
  have hS0 := hS
  have hK := hk.1
  have hl : lv_has ls 3 [(0, .ref jda), (1, .ref wa)] := hl
  rw [f_refusedAt] at hf
  refine lv_aload_n hx hb dX2_refusedAt_0 rfl (lv_at hl 0 rfl) ?_
  refine lv_aload_n hx hb dX2_refusedAt_1 rfl (lv_at hl 1 rfl) ?_
  obtain ⟨q2, h2, hf⟩ := bd_some hf
  refine kx_wv (As := [.ref wa]) (rest := []) (wc := cJudge cI jda jd1 jd ++ (cWeb cI wa w1 w2 w3 w4 w5 w6 w7 w8 w9 w)) (wr := []) (wd := cJudge cI jda jd1 q2 ++ (cWeb cI wa w1 w2 w3 w4 w5 w6 w7 w8 w9 w)) (wn := cJudge cI jda jd1 q2 ++ (cWeb cI wa w1 w2 w3 w4 w5 w6 w7 w8 w9 w)) hx hb hml hown hts hk hP hD hS hA hl.1 s_yX2_rebuild v_yX2_rebuild (c_rebuild l D cI cZ cR jda jd1 wa w1 w2 w3 w4 w5 w6 w7 w8 w9 jd w s.heap.size _ h2) mT_308 rfl rfl ⟨Nat.le_of_ble_eq_true rfl, Nat.le_of_ble_eq_true rfl⟩ [0, 1, 2, 3, 4, 5, 6, 7, 8, 9, 10, 11] [] [0, 1, 2, 3, 4, 5, 6, 7, 8, 9, 10, 11] rfl rfl (by decide) (by decide) (by decide) (by decide) rfl (ci := 2) (q0 := 0) rfl rfl rfl (Nat.le_of_ble_eq_true rfl) ⟨Nat.zero_le _, Nat.zero_le _⟩ dX2_refusedAt_2 (fun H locs hP hD hS => ?_)
  refine lv_iconst (v := 0) hx hb dX2_refusedAt_5 (by decide) ?_
  refine lv_istore_n (lv' := [(2, .int 0), (0, .ref jda), (1, .ref wa)]) hx hb dX2_refusedAt_6 rfl hl (by decide) rfl (fun ls hl => ?_)
  have kx7 : ∀ (x2_7 : Int32) (H : Heap) (locs : List Loc) (ls : Array Slot), (k_refusedAt_7 q2) x2_7 = some (r, u) → va_P D vwCl (cJudge cI jda jd1 q2 ++ (cWeb cI wa w1 w2 w3 w4 w5 w6 w7 w8 w9 w)) H → va_D A (cJudge cI jda jd1 q2 ++ (cWeb cI wa w1 w2 w3 w4 w5 w6 w7 w8 w9 w)) → va_S A s.heap H locs → lv_has ls 3 [(0, .ref jda), (1, .ref wa), (2, .int x2_7)] → W p l e ({ frames := 4, cells := 0, slots := 0, locals := 95 } : Room) s m ([.ref jda, .ref wa] : List Value).toArray below meth c H locs 0 0 Q (F0 m 54 ls []) := by
    intro x2_7 H locs ls hf hP hD hS hl
    rw [k_refusedAt_7] at hf
    refine lv_iconst (v := (-1)) hx hb dX2_refusedAt_54 (by decide) ?_
    exact hret _ _ _ q2 _ _ hf dX2_refusedAt_55 hP hD hS
  have lh7 : ∀ (fu7 : Nat) (x2_7 : Int32) (H : Heap) (locs : List Loc) (ls : Array Slot), lp_refusedAt_7 q2 w (k_refusedAt_7 q2) fu7 x2_7 = some (r, u) → va_P D vwCl (cJudge cI jda jd1 q2 ++ (cWeb cI wa w1 w2 w3 w4 w5 w6 w7 w8 w9 w)) H → va_D A (cJudge cI jda jd1 q2 ++ (cWeb cI wa w1 w2 w3 w4 w5 w6 w7 w8 w9 w)) → va_S A s.heap H locs → lv_has ls 3 [(0, .ref jda), (1, .ref wa), (2, .int x2_7)] → W p l e ({ frames := 4, cells := 0, slots := 0, locals := 95 } : Room) s m ([.ref jda, .ref wa] : List Value).toArray below meth c H locs 0 0 Q (F0 m 7 ls []) := by
    intro fu7
    induction fu7 with
    | zero => intro x2_7 H locs ls hf hP hD hS hl; exact no_none hf
    | succ fu7 ih7 =>
      intro x2_7 H locs ls hf hP hD hS hl
      rw [lp_refusedAt_7] at hf
      refine lv_iload_n hx hb dX2_refusedAt_7 rfl (lv_at hl 2 rfl) ?_
      refine lv_aload_n hx hb dX2_refusedAt_8 rfl (lv_at hl 1 rfl) ?_
      refine va_get (D := D) (ci := 4) (v := .int (w 0 1)) (C := RX4) (T := TX4) (N := 12) hx hb hts inT4 hown hK hP 2 rfl rfl 1 (by decide) (hts _ mT_78) (fun _ h9 => h9) rfl dX2_refusedAt_9 ?_
      refine lv_icmp_ge (tgt := 54) hx hb dX2_refusedAt_12 (by decide) (fun c12 => ?_) (fun c12 => ?_)
      · have hf := ite_t c12 hf
        exact kx7 x2_7 _ _ _ hf hP hD hS (lv_sub hl [0, 1, 2] rfl)
      · have hf := ite_f c12 hf
        refine lv_aload_n hx hb dX2_refusedAt_15 rfl (lv_at hl 1 rfl) ?_
        refine lv_iload_n hx hb dX2_refusedAt_16 rfl (lv_at hl 2 rfl) ?_
        obtain ⟨q17, h17, hf⟩ := bd_some hf
        refine kx_rv (As := [.int x2_7]) (rest := []) hx hb hml hown hts hk (hP.sub (ws' := cWeb cI wa w1 w2 w3 w4 w5 w6 w7 w8 w9 w) [2, 3, 4, 5, 6, 7, 8, 9, 10, 11] rfl) hl.1 s_yX4_isKept v_yX4_isKept (c_isKept l D cI cZ cR wa w1 w2 w3 w4 w5 w6 w7 w8 w9 w x2_7 _ h17) mT_312 rfl rfl ⟨Nat.le_of_ble_eq_true rfl, Nat.le_of_ble_eq_true rfl⟩ (ci := 4) (q0 := 0) rfl rfl rfl (Nat.le_of_ble_eq_true rfl) ⟨Nat.zero_le _, Nat.zero_le _⟩ dX2_refusedAt_17 ?_
        refine lv_if_eq (tgt := 48) hx hb dX2_refusedAt_20 (by decide) (fun c20 => ?_) (fun c20 => ?_)
        · have hf := ite_t c20 hf
          refine lv_iinc (v := x2_7 + 1) (lv' := [(2, .int (x2_7 + 1)), (0, .ref jda), (1, .ref wa)]) hx hb dX2_refusedAt_48 hl (k := 2) rfl rfl (by decide) rfl (fun ls hl => ?_)
          refine lv_goto (tgt := 7) hx hb dX2_refusedAt_51 (by decide) ?_
          exact ih7 (x2_7 + 1) _ _ _ hf hP hD hS (lv_sub hl [1, 2, 0] rfl)
        · have hf := ite_f c20 hf
          refine lv_aload_n hx hb dX2_refusedAt_23 rfl (lv_at hl 1 rfl) ?_
          refine lv_aload_n hx hb dX2_refusedAt_24 rfl (lv_at hl 1 rfl) ?_
          refine lv_iload_n hx hb dX2_refusedAt_25 rfl (lv_at hl 2 rfl) ?_
          refine lv_aload_n hx hb dX2_refusedAt_26 rfl (lv_at hl 0 rfl) ?_
          refine va_get (D := D) (ci := 2) (v := .ref jd1) (C := RX2) (T := TX2) (N := 1) hx hb hts inT2 hown hK hP 0 rfl rfl 0 (by decide) (hts _ mT_210) (fun _ h9 => h9) rfl dX2_refusedAt_27 ?_
          refine lv_iconst (v := (-1)) hx hb dX2_refusedAt_30 (by decide) ?_
          obtain ⟨q31, h31, hf⟩ := bd_some hf
          refine kx_rv (As := [.int x2_7, .ref jd1, .int (-1)]) (rest := [.ref wa]) hx hb hml hown hts hk (hP.sub (ws' := cWeb cI wa w1 w2 w3 w4 w5 w6 w7 w8 w9 w ++ (cArr cI 10 jd1 (q2 1))) [2, 3, 4, 5, 6, 7, 8, 9, 10, 11, 1] rfl) hl.1 s_yX4_together v_yX4_together (c_together l D cI cZ cR wa w1 w2 w3 w4 w5 w6 w7 w8 w9 jd1 w (q2 1) x2_7 (-1) _ h31) mT_316 rfl rfl ⟨Nat.le_of_ble_eq_true rfl, Nat.le_of_ble_eq_true rfl⟩ (ci := 4) (q0 := 0) rfl rfl rfl (Nat.le_of_ble_eq_true rfl) ⟨Nat.zero_le _, Nat.zero_le _⟩ dX2_refusedAt_31 ?_
          refine lv_aload_n hx hb dX2_refusedAt_34 rfl (lv_at hl 1 rfl) ?_
          refine va_get (D := D) (ci := 4) (v := .ref w3) (C := RX4) (T := TX4) (N := 12) hx hb hts inT4 hown hK hP 2 rfl rfl 5 (by decide) (hts _ mT_89) (fun _ h9 => h9) rfl dX2_refusedAt_35 ?_
          refine lv_iload_n hx hb dX2_refusedAt_38 rfl (lv_at hl 2 rfl) ?_
          obtain ⟨b39, hf⟩ := gd_some hf
          refine va_iald (n := 10) (f := w 3) hx hb hK hP 5 0 rfl rfl (ck_in b39) dX2_refusedAt_39 ?_
          obtain ⟨q40, h40, hf⟩ := bd_some hf
          refine kx_rv (As := [.int q31, .int ((w 3) (Int32.toNatClampNeg x2_7))]) (rest := []) hx hb hml hown hts hk (hP.sub (ws' := cWeb cI wa w1 w2 w3 w4 w5 w6 w7 w8 w9 w) [2, 3, 4, 5, 6, 7, 8, 9, 10, 11] rfl) hl.1 s_yX4_isNoMore v_yX4_isNoMore (c_isNoMore l D cI cZ cR wa w1 w2 w3 w4 w5 w6 w7 w8 w9 w q31 ((w 3) (Int32.toNatClampNeg x2_7)) _ h40) mT_330 rfl rfl ⟨Nat.le_of_ble_eq_true rfl, Nat.le_of_ble_eq_true rfl⟩ (ci := 4) (q0 := 0) rfl rfl rfl (Nat.le_of_ble_eq_true rfl) ⟨Nat.zero_le _, Nat.zero_le _⟩ dX2_refusedAt_40 ?_
          refine lv_if_ne (tgt := 48) hx hb dX2_refusedAt_43 (by decide) (fun c43 => ?_) (fun c43 => ?_)
          · have hf := ite_f c43 hf
            refine lv_iinc (v := x2_7 + 1) (lv' := [(2, .int (x2_7 + 1)), (0, .ref jda), (1, .ref wa)]) hx hb dX2_refusedAt_48 hl (k := 2) rfl rfl (by decide) rfl (fun ls hl => ?_)
            refine lv_goto (tgt := 7) hx hb dX2_refusedAt_51 (by decide) ?_
            exact ih7 (x2_7 + 1) _ _ _ hf hP hD hS (lv_sub hl [1, 2, 0] rfl)
          · have hf := ite_t c43 hf
            refine lv_iload_n hx hb dX2_refusedAt_46 rfl (lv_at hl 2 rfl) ?_
            exact hret _ _ _ q2 _ _ hf dX2_refusedAt_47 hP hD hS
  exact lh7 10000 0 _ _ _ hf hP hD hS (lv_sub hl [1, 2, 0] rfl)
theorem s_yX0_add : kMS yX0_add cX0_add 3 none 2 := ⟨mT_534, mT_55, by decide +kernel⟩
theorem v_yX0_add : kMV yX0_add := ⟨mT_532, mT_533⟩
def f_add (bk : Ob) (x : Int32) (y : Int32) : Option Ob := gd (ck (bk 0 0) 20) (gd (ck (bk 0 0) 20) (some (sI (sA (sA bk 1 (upd (bk 1) (Int32.toNatClampNeg (bk 0 0)) x)) 2 (upd (bk 2) (Int32.toNatClampNeg (bk 0 0)) y)) 0 ((bk 0 0) + 1))))
set_option maxHeartbeats 4000000 in
set_option maxRecDepth 100000 in
theorem c_add (l : Launch) (D : va_G) (cI cZ cR : ClassId) (bka bk1 bk2 : Nat) (bk : Ob) (x : Int32) (y : Int32) (sz : Nat) (u : Ob) (hf : f_add bk x y = some u) : kCv l yX0_add cX0_add 3 none { frames := 0, cells := 0, slots := 0, locals := 0 } [.ref bka, .int x, .int y] D cI cZ cR (cBook cI bka bk1 bk2 bk) sz (cBook cI bka bk1 bk2 u) := by
  refine kMwv (wf := (fun u : Ob => cBook cI bka bk1 bk2 u)) (u := u) (by decide) (Nat.le_of_ble_eq_true rfl) ?_
  intro p e s m below meth c Q A hx hb hml hown hts hk hP hD hA hS hret ls hl
  have hS0 := hS
  have hK := hk.1
  have hl : lv_has ls 3 [(0, .ref bka), (1, .int x), (2, .int y)] := hl
  rw [f_add] at hf
  refine lv_aload_n hx hb dX0_add_0 rfl (lv_at hl 0 rfl) ?_
  refine va_get (D := D) (ci := 0) (v := .ref bk1) (C := RX0) (T := TX0) (N := 3) hx hb hts inT0 hown hK hP 0 rfl rfl 1 (by decide) (hts _ mT_178) (fun _ h9 => h9) rfl dX0_add_1 ?_
  refine lv_aload_n hx hb dX0_add_4 rfl (lv_at hl 0 rfl) ?_
  refine va_get (D := D) (ci := 0) (v := .int (bk 0 0)) (C := RX0) (T := TX0) (N := 3) hx hb hts inT0 hown hK hP 0 rfl rfl 0 (by decide) (hts _ mT_176) (fun _ h9 => h9) rfl dX0_add_5 ?_
  refine lv_iload_n hx hb dX0_add_8 rfl (lv_at hl 1 rfl) ?_
  obtain ⟨b9, hf⟩ := gd_some hf
  refine va_iast (n := 20) (f := bk 1) hx hb hK hP hD hS 1 0 rfl rfl (ck_in b9) dX0_add_9 (fun H locs hP hD hS => ?_)
  have hP : va_P D vwCl ([(bka, .inr (0, [.int (bk 0 0), .ref bk1, .ref bk2])), (bk1, .inl (cI, 20, .inl (upd (bk 1) (Int32.toNatClampNeg (bk 0 0)) x))), (bk2, .inl (cI, 20, .inl (bk 2)))]) H := hP
  have hD : va_D A ([(bka, .inr (0, [.int (bk 0 0), .ref bk1, .ref bk2])), (bk1, .inl (cI, 20, .inl (upd (bk 1) (Int32.toNatClampNeg (bk 0 0)) x))), (bk2, .inl (cI, 20, .inl (bk 2)))]) := hD
  refine lv_aload_n hx hb dX0_add_10 rfl (lv_at hl 0 rfl) ?_
  refine va_get (D := D) (ci := 0) (v := .ref bk2) (C := RX0) (T := TX0) (N := 3) hx hb hts inT0 hown hK hP 0 rfl rfl 2 (by decide) (hts _ mT_179) (fun _ h9 => h9) rfl dX0_add_11 ?_
  refine lv_aload_n hx hb dX0_add_14 rfl (lv_at hl 0 rfl) ?_
  refine va_get (D := D) (ci := 0) (v := .int (bk 0 0)) (C := RX0) (T := TX0) (N := 3) hx hb hts inT0 hown hK hP 0 rfl rfl 0 (by decide) (hts _ mT_176) (fun _ h9 => h9) rfl dX0_add_15 ?_
  refine lv_iload_n hx hb dX0_add_18 rfl (lv_at hl 2 rfl) ?_
  obtain ⟨b19, hf⟩ := gd_some hf
  refine va_iast (n := 20) (f := bk 2) hx hb hK hP hD hS 2 0 rfl rfl (ck_in b19) dX0_add_19 (fun H locs hP hD hS => ?_)
  have hP : va_P D vwCl ([(bka, .inr (0, [.int (bk 0 0), .ref bk1, .ref bk2])), (bk1, .inl (cI, 20, .inl (upd (bk 1) (Int32.toNatClampNeg (bk 0 0)) x))), (bk2, .inl (cI, 20, .inl (upd (bk 2) (Int32.toNatClampNeg (bk 0 0)) y)))]) H := hP
  have hD : va_D A ([(bka, .inr (0, [.int (bk 0 0), .ref bk1, .ref bk2])), (bk1, .inl (cI, 20, .inl (upd (bk 1) (Int32.toNatClampNeg (bk 0 0)) x))), (bk2, .inl (cI, 20, .inl (upd (bk 2) (Int32.toNatClampNeg (bk 0 0)) y)))]) := hD
  refine lv_aload_n hx hb dX0_add_20 rfl (lv_at hl 0 rfl) ?_
  refine lv_dup hx hb dX0_add_21 rfl ?_
  refine va_get (D := D) (ci := 0) (v := .int (bk 0 0)) (C := RX0) (T := TX0) (N := 3) hx hb hts inT0 hown hK hP 0 rfl rfl 0 (by decide) (hts _ mT_176) (fun _ h9 => h9) rfl dX0_add_22 ?_
  refine lv_iconst (v := 1) hx hb dX0_add_25 (by decide) ?_
  refine lv_iadd hx hb dX0_add_26 ?_
  refine va_put (D := D) (ci := 0) (v := .int ((bk 0 0) + 1)) (ty := .int) (C := RX0) (T := TX0) (N := 3) hx hb hts inT0 tyX0 tyX0_ok nmX0 hown hK hP hD hS 0 rfl rfl 0 (by decide) (hts _ mT_176) (fun _ h9 => h9) rfl (by decide +kernel) rfl rfl (Nat.le_of_ble_eq_true rfl) dX0_add_27 (fun H locs hP hD hS => ?_)
  have hP : va_P D vwCl ([(bka, .inr (0, [.int ((bk 0 0) + 1), .ref bk1, .ref bk2])), (bk1, .inl (cI, 20, .inl (upd (bk 1) (Int32.toNatClampNeg (bk 0 0)) x))), (bk2, .inl (cI, 20, .inl (upd (bk 2) (Int32.toNatClampNeg (bk 0 0)) y)))]) H := hP
  have hD : va_D A ([(bka, .inr (0, [.int ((bk 0 0) + 1), .ref bk1, .ref bk2])), (bk1, .inl (cI, 20, .inl (upd (bk 1) (Int32.toNatClampNeg (bk 0 0)) x))), (bk2, .inl (cI, 20, .inl (upd (bk 2) (Int32.toNatClampNeg (bk 0 0)) y)))]) := hD
  exact hret _ _ (sI (sA (sA bk 1 (upd (bk 1) (Int32.toNatClampNeg (bk 0 0)) x)) 2 (upd (bk 2) (Int32.toNatClampNeg (bk 0 0)) y)) 0 ((bk 0 0) + 1)) _ _ hf dX0_add_30 hP hD hS
theorem s_yX0_firstUnlike : kMS yX0_firstUnlike cX0_firstUnlike 4 (some .int) 2 := ⟨mT_378, mT_55, by decide +kernel⟩
theorem v_yX0_firstUnlike : kMV yX0_firstUnlike := ⟨mT_376, mT_377⟩
def k_firstUnlike_2 (x3_2 : Int32) : Option Int32 := some (-1)
def lp_firstUnlike_2 (bk : Ob) (g : Nat → Int32) (x : Int32) (kk0 : Int32 → Option Int32) : Nat → Int32 → Option Int32
  | 0, _ => none
  | fu2 + 1, x3_2 => if (bk 0 0) ≤ x3_2 then (kk0 x3_2) else (gd (ck x3_2 20) (if x ≤ ((bk 1) (Int32.toNatClampNeg x3_2)) then (some x3_2) else (gd (ck x3_2 20) (gd (ck ((bk 1) (Int32.toNatClampNeg x3_2)) 10) (gd (ck x3_2 20) (if (g (Int32.toNatClampNeg ((bk 1) (Int32.toNatClampNeg x3_2)))) = ((bk 2) (Int32.toNatClampNeg x3_2)) then ((lp_firstUnlike_2 bk g x kk0 fu2) (x3_2 + 1)) else (some x3_2)))))))
def f_firstUnlike (bk : Ob) (g : Nat → Int32) (x : Int32) : Option Int32 := lp_firstUnlike_2 bk g x k_firstUnlike_2 10000 0
set_option maxHeartbeats 4000000 in
set_option maxRecDepth 100000 in
theorem c_firstUnlike (l : Launch) (D : va_G) (cI cZ cR : ClassId) (bka bk1 bk2 ga : Nat) (bk : Ob) (g : Nat → Int32) (x : Int32) (r : Int32) (hf : f_firstUnlike bk g x = some r) : kCr l yX0_firstUnlike cX0_firstUnlike 4 (some .int) { frames := 0, cells := 0, slots := 0, locals := 0 } [.ref bka, .ref ga, .int x] D cI cZ cR (cBook cI bka bk1 bk2 bk ++ (cArr cI 10 ga g)) r := by
  refine kMri (by decide) (Nat.le_of_ble_eq_true rfl) ?_
  intro p e s m below meth c Q hx hb hml hown hts hk hP hret ls hl
  have hK := hk.1
  have hl : lv_has ls 4 [(0, .ref bka), (1, .ref ga), (2, .int x)] := hl
  rw [f_firstUnlike] at hf
  refine lv_iconst (v := 0) hx hb dX0_firstUnlike_0 (by decide) ?_
  refine lv_istore_n (lv' := [(3, .int 0), (0, .ref bka), (1, .ref ga), (2, .int x)]) hx hb dX0_firstUnlike_1 rfl hl (by decide) rfl (fun ls hl => ?_)
  have kx2 : ∀ (x3_2 : Int32) (ls : Array Slot), k_firstUnlike_2 x3_2 = some r → lv_has ls 4 [(0, .ref bka), (1, .ref ga), (2, .int x), (3, .int x3_2)] → W p l e ({ frames := 0, cells := 0, slots := 0, locals := 0 } : Room) s m ([.ref bka, .ref ga, .int x] : List Value).toArray below meth c s.heap [] 0 0 Q (F0 m 45 ls []) := by
    intro x3_2 ls hf hl
    rw [k_firstUnlike_2] at hf
    refine lv_iconst (v := (-1)) hx hb dX0_firstUnlike_45 (by decide) ?_
    exact hret _ _ _ hf dX0_firstUnlike_46
  have lh2 : ∀ (fu2 : Nat) (x3_2 : Int32) (ls : Array Slot), lp_firstUnlike_2 bk g x k_firstUnlike_2 fu2 x3_2 = some r → lv_has ls 4 [(0, .ref bka), (1, .ref ga), (2, .int x), (3, .int x3_2)] → W p l e ({ frames := 0, cells := 0, slots := 0, locals := 0 } : Room) s m ([.ref bka, .ref ga, .int x] : List Value).toArray below meth c s.heap [] 0 0 Q (F0 m 2 ls []) := by
    intro fu2
    induction fu2 with
    | zero => intro x3_2 ls hf hl; exact no_none hf
    | succ fu2 ih2 =>
      intro x3_2 ls hf hl
      rw [lp_firstUnlike_2] at hf
      refine lv_iload_n hx hb dX0_firstUnlike_2 rfl (lv_at hl 3 rfl) ?_
      refine lv_aload_n hx hb dX0_firstUnlike_3 rfl (lv_at hl 0 rfl) ?_
      refine va_get (D := D) (ci := 0) (v := .int (bk 0 0)) (C := RX0) (T := TX0) (N := 3) hx hb hts inT0 hown hK hP 0 rfl rfl 0 (by decide) (hts _ mT_176) (fun _ h9 => h9) rfl dX0_firstUnlike_4 ?_
      refine lv_icmp_ge (tgt := 45) hx hb dX0_firstUnlike_7 (by decide) (fun c7 => ?_) (fun c7 => ?_)
      · have hf := ite_t c7 hf
        exact kx2 x3_2 _ hf (lv_sub hl [0, 1, 2, 3] rfl)
      · have hf := ite_f c7 hf
        refine lv_aload_n hx hb dX0_firstUnlike_10 rfl (lv_at hl 0 rfl) ?_
        refine va_get (D := D) (ci := 0) (v := .ref bk1) (C := RX0) (T := TX0) (N := 3) hx hb hts inT0 hown hK hP 0 rfl rfl 1 (by decide) (hts _ mT_178) (fun _ h9 => h9) rfl dX0_firstUnlike_11 ?_
        refine lv_iload_n hx hb dX0_firstUnlike_14 rfl (lv_at hl 3 rfl) ?_
        obtain ⟨b15, hf⟩ := gd_some hf
        refine va_iald (n := 20) (f := bk 1) hx hb hK hP 1 0 rfl rfl (ck_in b15) dX0_firstUnlike_15 ?_
        refine lv_iload_n hx hb dX0_firstUnlike_16 rfl (lv_at hl 2 rfl) ?_
        refine lv_icmp_ge (tgt := 37) hx hb dX0_firstUnlike_17 (by decide) (fun c17 => ?_) (fun c17 => ?_)
        · have hf := ite_t c17 hf
          refine lv_iload_n hx hb dX0_firstUnlike_37 rfl (lv_at hl 3 rfl) ?_
          exact hret _ _ _ hf dX0_firstUnlike_38
        · have hf := ite_f c17 hf
          refine lv_aload_n hx hb dX0_firstUnlike_20 rfl (lv_at hl 1 rfl) ?_
          refine lv_aload_n hx hb dX0_firstUnlike_21 rfl (lv_at hl 0 rfl) ?_
          refine va_get (D := D) (ci := 0) (v := .ref bk1) (C := RX0) (T := TX0) (N := 3) hx hb hts inT0 hown hK hP 0 rfl rfl 1 (by decide) (hts _ mT_178) (fun _ h9 => h9) rfl dX0_firstUnlike_22 ?_
          refine lv_iload_n hx hb dX0_firstUnlike_25 rfl (lv_at hl 3 rfl) ?_
          obtain ⟨b26, hf⟩ := gd_some hf
          refine va_iald (n := 20) (f := bk 1) hx hb hK hP 1 0 rfl rfl (ck_in b26) dX0_firstUnlike_26 ?_
          obtain ⟨b27, hf⟩ := gd_some hf
          refine va_iald (n := 10) (f := g) hx hb hK hP 3 0 rfl rfl (ck_in b27) dX0_firstUnlike_27 ?_
          refine lv_aload_n hx hb dX0_firstUnlike_28 rfl (lv_at hl 0 rfl) ?_
          refine va_get (D := D) (ci := 0) (v := .ref bk2) (C := RX0) (T := TX0) (N := 3) hx hb hts inT0 hown hK hP 0 rfl rfl 2 (by decide) (hts _ mT_179) (fun _ h9 => h9) rfl dX0_firstUnlike_29 ?_
          refine lv_iload_n hx hb dX0_firstUnlike_32 rfl (lv_at hl 3 rfl) ?_
          obtain ⟨b33, hf⟩ := gd_some hf
          refine va_iald (n := 20) (f := bk 2) hx hb hK hP 2 0 rfl rfl (ck_in b33) dX0_firstUnlike_33 ?_
          refine lv_icmp_eq (tgt := 39) hx hb dX0_firstUnlike_34 (by decide) (fun c34 => ?_) (fun c34 => ?_)
          · have hf := ite_t c34 hf
            refine lv_iinc (v := x3_2 + 1) (lv' := [(3, .int (x3_2 + 1)), (0, .ref bka), (1, .ref ga), (2, .int x)]) hx hb dX0_firstUnlike_39 hl (k := 3) rfl rfl (by decide) rfl (fun ls hl => ?_)
            refine lv_goto (tgt := 2) hx hb dX0_firstUnlike_42 (by decide) ?_
            exact ih2 (x3_2 + 1) _ hf (lv_sub hl [1, 2, 3, 0] rfl)
          · have hf := ite_f c34 hf
            refine lv_iload_n hx hb dX0_firstUnlike_37 rfl (lv_at hl 3 rfl) ?_
            exact hret _ _ _ hf dX0_firstUnlike_38
  exact lh2 10000 0 _ hf (lv_sub hl [1, 2, 3, 0] rfl)
