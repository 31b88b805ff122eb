theorem s_yX7_notes : kMS yX7_notes cX7_notes 2 none 0 := ⟨mT_779, mT_59, by decide +kernel⟩
theorem v_yX7_notes : kMV yX7_notes := ⟨mT_778, mT_47⟩
def k_m_notes_52 (x1_52 : Int32) (z_52 : Ob) : Option Ob := some (sI z_52 2 ((z_52 0 2) + 1))
def lp_m_notes_52 (kk0 : Int32 → Ob → Option Ob) : Nat → Int32 → Ob → Option Ob
  | 0, _, _ => none
  | fu52 + 1, x1_52, z_52 => if 367 ≤ x1_52 then (kk0 x1_52 z_52) else (gd (ck x1_52 367) (gd (ck ((367 * (z_52 0 2)) + x1_52) 5872) ((lp_m_notes_52 kk0 fu52) (x1_52 + 1) (sA z_52 2 (upd (z_52 2) (Int32.toNatClampNeg ((367 * (z_52 0 2)) + x1_52)) ((z_52 1) (Int32.toNatClampNeg x1_52)))))))
def k_m_notes_11 (x1_11 : Int32) (z_11 : Ob) : Option Ob := lp_m_notes_52 k_m_notes_52 10000 0 (sI z_11 2 ((z_11 0 2) - 1))
def lp_m_notes_11 (kk0 : Int32 → Ob → Option Ob) : Nat → Int32 → Ob → Option Ob
  | 0, _, _ => none
  | fu11 + 1, x1_11, z_11 => if 5505 ≤ x1_11 then (kk0 x1_11 z_11) else (gd (ck (x1_11 + 367) 5872) (gd (ck x1_11 5872) ((lp_m_notes_11 kk0 fu11) (x1_11 + 1) (sA z_11 2 (upd (z_11 2) (Int32.toNatClampNeg x1_11) ((z_11 2) (Int32.toNatClampNeg (x1_11 + 367))))))))
def f_m_notes (z : Ob) : Option Ob := if (z 0 2) = 16 then (lp_m_notes_11 k_m_notes_11 10000 0 z) else (lp_m_notes_52 k_m_notes_52 10000 0 z)
set_option maxHeartbeats 4000000 in
set_option maxRecDepth 100000 in
theorem c_m_notes (l : Launch) (D : va_G) (cI cZ cR : ClassId) (za z1 z2 z3 z4 z5 z6 z7 z8 z9 : Nat) (z : Ob) (sz : Nat) (u : Ob) (hf : f_m_notes z = some u) : kCv l yX7_notes cX7_notes 2 none { frames := 0, cells := 0, slots := 0, locals := 0 } [.ref za] D cI cZ cR (cModel cI cZ za z1 z2 z3 z4 z5 z6 z7 z8 z9 z) sz (cModel cI cZ za z1 z2 z3 z4 z5 z6 z7 z8 z9 u) := by
  refine kMwv (wf := (fun u : Ob => cModel cI cZ za z1 z2 z3 z4 z5 z6 z7 z8 z9 u)) (u := u) (by decide) (Nat.le_of_ble_eq_true rfl) ?_
  intro p e s m below meth c Q A hx hb hml hown hts hk hP hD hA hS hret ls hl
  have hS0 := hS
  have hK := hk.1
  have hl : lv_has ls 2 [(0, .ref za)] := hl
  rw [f_m_notes] at hf
  refine lv_aload_n hx hb dX7_notes_0 rfl (lv_at hl 0 rfl) ?_
  refine va_get (D := D) (ci := 7) (v := .int (z 0 2)) (C := RX7) (T := TX7) (N := 17) hx hb hts inT7 hown hK hP 0 rfl rfl 2 (by decide) (hts _ mT_568) (fun _ h9 => h9) rfl dX7_notes_1 ?_
  refine lv_bipush (v := 16) hx hb dX7_notes_4 (by decide) ?_
  refine lv_icmp_ne (tgt := 50) hx hb dX7_notes_6 (by decide) (fun c6 => ?_) (fun c6 => ?_)
  · have hf := ite_f c6 hf
    refine lv_iconst (v := 0) hx hb dX7_notes_50 (by decide) ?_
    refine lv_istore_n (lv' := [(1, .int 0), (0, .ref za)]) hx hb dX7_notes_51 rfl hl (by decide) rfl (fun ls hl => ?_)
    have kx52 : ∀ (x1_52 : Int32) (z_52 : Ob) (H : Heap) (locs : List Loc) (ls : Array Slot), k_m_notes_52 x1_52 z_52 = some u → va_P D vwCl (cModel cI cZ za z1 z2 z3 z4 z5 z6 z7 z8 z9 z_52) H → va_D A (cModel cI cZ za z1 z2 z3 z4 z5 z6 z7 z8 z9 z_52) → va_S A s.heap H locs → lv_has ls 2 [(0, .ref za), (1, .int x1_52)] → W p l e ({ frames := 0, cells := 0, slots := 0, locals := 0 } : Room) s m ([.ref za] : List Value).toArray below meth c H locs 0 0 Q (F0 m 86 ls []) := by
      intro x1_52 z_52 H locs ls hf hP hD hS hl
      rw [k_m_notes_52] at hf
      refine lv_aload_n hx hb dX7_notes_86 rfl (lv_at hl 0 rfl) ?_
      refine lv_dup hx hb dX7_notes_87 rfl ?_
      refine va_get (D := D) (ci := 7) (v := .int (z_52 0 2)) (C := RX7) (T := TX7) (N := 17) hx hb hts inT7 hown hK hP 0 rfl rfl 2 (by decide) (hts _ mT_568) (fun _ h9 => h9) rfl dX7_notes_88 ?_
      refine lv_iconst (v := 1) hx hb dX7_notes_91 (by decide) ?_
      refine lv_iadd hx hb dX7_notes_92 ?_
      refine va_put (D := D) (ci := 7) (v := .int ((z_52 0 2) + 1)) (ty := .int) (C := RX7) (T := TX7) (N := 17) hx hb hts inT7 tyX7 tyX7_ok nmX7 hown hK hP hD hS 0 rfl rfl 2 (by decide) (hts _ mT_568) (fun _ h9 => h9) rfl (by decide +kernel) rfl rfl (Nat.le_of_ble_eq_true rfl) dX7_notes_93 (fun H locs hP hD hS => ?_)
      have hP : va_P D vwCl ([(za, .inr (7, [.ref z1, .ref z2, .int ((z_52 0 2) + 1), .ref z3, .ref z4, .int (z_52 0 5), .ref z5, .int (z_52 0 7), .ref z6, .ref z7, .ref z8, .int (z_52 0 11), .int (z_52 0 12), .int (z_52 0 13), .int (z_52 0 14), .ref z9, .int (z_52 0 16)])), (z1, .inl (cI, 367, .inl (z_52 1))), (z2, .inl (cI, 5872, .inl (z_52 2))), (z3, .inl (cI, 736, .inl (z_52 3))), (z4, .inl (cZ, 2, .inl (z_52 4))), (z5, .inl (cI, 60, .inl (z_52 5))), (z6, .inl (cI, 20, .inl (z_52 6))), (z7, .inl (cI, 20, .inl (z_52 7))), (z8, .inl (cI, 20, .inl (z_52 8))), (z9, .inl (cI, 10, .inl (z_52 9)))]) H := hP
      have hD : va_D A ([(za, .inr (7, [.ref z1, .ref z2, .int ((z_52 0 2) + 1), .ref z3, .ref z4, .int (z_52 0 5), .ref z5, .int (z_52 0 7), .ref z6, .ref z7, .ref z8, .int (z_52 0 11), .int (z_52 0 12), .int (z_52 0 13), .int (z_52 0 14), .ref z9, .int (z_52 0 16)])), (z1, .inl (cI, 367, .inl (z_52 1))), (z2, .inl (cI, 5872, .inl (z_52 2))), (z3, .inl (cI, 736, .inl (z_52 3))), (z4, .inl (cZ, 2, .inl (z_52 4))), (z5, .inl (cI, 60, .inl (z_52 5))), (z6, .inl (cI, 20, .inl (z_52 6))), (z7, .inl (cI, 20, .inl (z_52 7))), (z8, .inl (cI, 20, .inl (z_52 8))), (z9, .inl (cI, 10, .inl (z_52 9)))]) := hD
      exact hret _ _ (sI z_52 2 ((z_52 0 2) + 1)) _ _ hf dX7_notes_96 hP hD hS
    have lh52 : ∀ (fu52 : Nat) (x1_52 : Int32) (z_52 : Ob) (H : Heap) (locs : List Loc) (ls : Array Slot), lp_m_notes_52 k_m_notes_52 fu52 x1_52 z_52 = some u → va_P D vwCl (cModel cI cZ za z1 z2 z3 z4 z5 z6 z7 z8 z9 z_52) H → va_D A (cModel cI cZ za z1 z2 z3 z4 z5 z6 z7 z8 z9 z_52) → va_S A s.heap H locs → lv_has ls 2 [(0, .ref za), (1, .int x1_52)] → W p l e ({ frames := 0, cells := 0, slots := 0, locals := 0 } : Room) s m ([.ref za] : List Value).toArray below meth c H locs 0 0 Q (F0 m 52 ls []) := by
      intro fu52
      induction fu52 with
      | zero => intro x1_52 z_52 H locs ls hf hP hD hS hl; exact no_none hf
      | succ fu52 ih52 =>
        intro x1_52 z_52 H locs ls hf hP hD hS hl
        rw [lp_m_notes_52] at hf
        refine lv_iload_n hx hb dX7_notes_52 rfl (lv_at hl 1 rfl) ?_
        refine lv_sipush (v := 367) hx hb dX7_notes_53 (by decide) ?_
        refine lv_icmp_ge (tgt := 86) hx hb dX7_notes_56 (by decide) (fun c56 => ?_) (fun c56 => ?_)
        · have hf := ite_t c56 hf
          exact kx52 x1_52 z_52 _ _ _ hf hP hD hS (lv_sub hl [0, 1] rfl)
        · have hf := ite_f c56 hf
          refine lv_aload_n hx hb dX7_notes_59 rfl (lv_at hl 0 rfl) ?_
          refine va_get (D := D) (ci := 7) (v := .ref z2) (C := RX7) (T := TX7) (N := 17) hx hb hts inT7 hown hK hP 0 rfl rfl 1 (by decide) (hts _ mT_567) (fun _ h9 => h9) rfl dX7_notes_60 ?_
          refine lv_sipush (v := 367) hx hb dX7_notes_63 (by decide) ?_
          refine lv_aload_n hx hb dX7_notes_66 rfl (lv_at hl 0 rfl) ?_
          refine va_get (D := D) (ci := 7) (v := .int (z_52 0 2)) (C := RX7) (T := TX7) (N := 17) hx hb hts inT7 hown hK hP 0 rfl rfl 2 (by decide) (hts _ mT_568) (fun _ h9 => h9) rfl dX7_notes_67 ?_
          refine lv_imul hx hb dX7_notes_70 ?_
          refine lv_iload_n hx hb dX7_notes_71 rfl (lv_at hl 1 rfl) ?_
          refine lv_iadd hx hb dX7_notes_72 ?_
          refine lv_aload_n hx hb dX7_notes_73 rfl (lv_at hl 0 rfl) ?_
          refine va_get (D := D) (ci := 7) (v := .ref z1) (C := RX7) (T := TX7) (N := 17) hx hb hts inT7 hown hK hP 0 rfl rfl 0 (by decide) (hts _ mT_566) (fun _ h9 => h9) rfl dX7_notes_74 ?_
          refine lv_iload_n hx hb dX7_notes_77 rfl (lv_at hl 1 rfl) ?_
          obtain ⟨b78, hf⟩ := gd_some hf
          refine va_iald (n := 367) (f := z_52 1) hx hb hK hP 1 0 rfl rfl (ck_in b78) dX7_notes_78 ?_
          obtain ⟨b79, hf⟩ := gd_some hf
          refine va_iast (n := 5872) (f := z_52 2) hx hb hK hP hD hS 2 0 rfl rfl (ck_in b79) dX7_notes_79 (fun H locs hP hD hS => ?_)
          have hP : va_P D vwCl ([(za, .inr (7, [.ref z1, .ref z2, .int (z_52 0 2), .ref z3, .ref z4, .int (z_52 0 5), .ref z5, .int (z_52 0 7), .ref z6, .ref z7, .ref z8, .int (z_52 0 11), .int (z_52 0 12), .int (z_52 0 13), .int (z_52 0 14), .ref z9, .int (z_52 0 16)])), (z1, .inl (cI, 367, .inl (z_52 1))), (z2, .inl (cI, 5872, .inl (upd (z_52 2) (Int32.toNatClampNeg ((367 * (z_52 0 2)) + x1_52)) ((z_52 1) (Int32.toNatClampNeg x1_52))))), (z3, .inl (cI, 736, .inl (z_52 3))), (z4, .inl (cZ, 2, .inl (z_52 4))), (z5, .inl (cI, 60, .inl (z_52 5))), (z6, .inl (cI, 20, .inl (z_52 6))), (z7, .inl (cI, 20, .inl (z_52 7))), (z8, .inl (cI, 20, .inl (z_52 8))), (z9, .inl (cI, 10, .inl (z_52 9)))]) H := hP
          have hD : va_D A ([(za, .inr (7, [.ref z1, .ref z2, .int (z_52 0 2), .ref z3, .ref z4, .int (z_52 0 5), .ref z5, .int (z_52 0 7), .ref z6, .ref z7, .ref z8, .int (z_52 0 11), .int (z_52 0 12), .int (z_52 0 13), .int (z_52 0 14), .ref z9, .int (z_52 0 16)])), (z1, .inl (cI, 367, .inl (z_52 1))), (z2, .inl (cI, 5872, .inl (upd (z_52 2) (Int32.toNatClampNeg ((367 * (z_52 0 2)) + x1_52)) ((z_52 1) (Int32.toNatClampNeg x1_52))))), (z3, .inl (cI, 736, .inl (z_52 3))), (z4, .inl (cZ, 2, .inl (z_52 4))), (z5, .inl (cI, 60, .inl (z_52 5))), (z6, .inl (cI, 20, .inl (z_52 6))), (z7, .inl (cI, 20, .inl (z_52 7))), (z8, .inl (cI, 20, .inl (z_52 8))), (z9, .inl (cI, 10, .inl (z_52 9)))]) := hD
          refine lv_iinc (v := x1_52 + 1) (lv' := [(1, .int (x1_52 + 1)), (0, .ref za)]) hx hb dX7_notes_80 hl (k := 1) rfl rfl (by decide) rfl (fun ls hl => ?_)
          refine lv_goto (tgt := 52) hx hb dX7_notes_83 (by decide) ?_
          exact ih52 (x1_52 + 1) (sA z_52 2 (upd (z_52 2) (Int32.toNatClampNeg ((367 * (z_52 0 2)) + x1_52)) ((z_52 1) (Int32.toNatClampNeg x1_52)))) _ _ _ hf hP hD hS (lv_sub hl [1, 0] rfl)
    exact lh52 10000 0 z _ _ _ hf hP hD hS (lv_sub hl [1, 0] rfl)
  · have hf := ite_t c6 hf
    refine lv_iconst (v := 0) hx hb dX7_notes_9 (by decide) ?_
    refine lv_istore_n (lv' := [(1, .int 0), (0, .ref za)]) hx hb dX7_notes_10 rfl hl (by decide) rfl (fun ls hl => ?_)
    have kx11 : ∀ (x1_11 : Int32) (z_11 : Ob) (H : Heap) (locs : List Loc) (ls : Array Slot), k_m_notes_11 x1_11 z_11 = some u → va_P D vwCl (cModel cI cZ za z1 z2 z3 z4 z5 z6 z7 z8 z9 z_11) H → va_D A (cModel cI cZ za z1 z2 z3 z4 z5 z6 z7 z8 z9 z_11) → va_S A s.heap H locs → lv_has ls 2 [(0, .ref za), (1, .int x1_11)] → W p l e ({ frames := 0, cells := 0, slots := 0, locals := 0 } : Room) s m ([.ref za] : List Value).toArray below meth c H locs 0 0 Q (F0 m 40 ls []) := by
      intro x1_11 z_11 H locs ls hf hP hD hS hl
      rw [k_m_notes_11] at hf
      refine lv_aload_n hx hb dX7_notes_40 rfl (lv_at hl 0 rfl) ?_
      refine lv_dup hx hb dX7_notes_41 rfl ?_
      refine va_get (D := D) (ci := 7) (v := .int (z_11 0 2)) (C := RX7) (T := TX7) (N := 17) hx hb hts inT7 hown hK hP 0 rfl rfl 2 (by decide) (hts _ mT_568) (fun _ h9 => h9) rfl dX7_notes_42 ?_
      refine lv_iconst (v := 1) hx hb dX7_notes_45 (by decide) ?_
      refine lv_isub hx hb dX7_notes_46 ?_
      refine va_put (D := D) (ci := 7) (v := .int ((z_11 0 2) - 1)) (ty := .int) (C := RX7) (T := TX7) (N := 17) hx hb hts inT7 tyX7 tyX7_ok nmX7 hown hK hP hD hS 0 rfl rfl 2 (by decide) (hts _ mT_568) (fun _ h9 => h9) rfl (by decide +kernel) rfl rfl (Nat.le_of_ble_eq_true rfl) dX7_notes_47 (fun H locs hP hD hS => ?_)
      have hP : va_P D vwCl ([(za, .inr (7, [.ref z1, .ref z2, .int ((z_11 0 2) - 1), .ref z3, .ref z4, .int (z_11 0 5), .ref z5, .int (z_11 0 7), .ref z6, .ref z7, .ref z8, .int (z_11 0 11), .int (z_11 0 12), .int (z_11 0 13), .int (z_11 0 14), .ref z9, .int (z_11 0 16)])), (z1, .inl (cI, 367, .inl (z_11 1))), (z2, .inl (cI, 5872, .inl (z_11 2))), (z3, .inl (cI, 736, .inl (z_11 3))), (z4, .inl (cZ, 2, .inl (z_11 4))), (z5, .inl (cI, 60, .inl (z_11 5))), (z6, .inl (cI, 20, .inl (z_11 6))), (z7, .inl (cI, 20, .inl (z_11 7))), (z8, .inl (cI, 20, .inl (z_11 8))), (z9, .inl (cI, 10, .inl (z_11 9)))]) H := hP
      have hD : va_D A ([(za, .inr (7, [.ref z1, .ref z2, .int ((z_11 0 2) - 1), .ref z3, .ref z4, .int (z_11 0 5), .ref z5, .int (z_11 0 7), .ref z6, .ref z7, .ref z8, .int (z_11 0 11), .int (z_11 0 12), .int (z_11 0 13), .int (z_11 0 14), .ref z9, .int (z_11 0 16)])), (z1, .inl (cI, 367, .inl (z_11 1))), (z2, .inl (cI, 5872, .inl (z_11 2))), (z3, .inl (cI, 736, .inl (z_11 3))), (z4, .inl (cZ, 2, .inl (z_11 4))), (z5, .inl (cI, 60, .inl (z_11 5))), (z6, .inl (cI, 20, .inl (z_11 6))), (z7, .inl (cI, 20, .inl (z_11 7))), (z8, .inl (cI, 20, .inl (z_11 8))), (z9, .inl (cI, 10, .inl (z_11 9)))]) := hD
      refine lv_iconst (v := 0) hx hb dX7_notes_50 (by decide) ?_
      refine lv_istore_n (lv' := [(1, .int 0), (0, .ref za)]) hx hb dX7_notes_51 rfl hl (by decide) rfl (fun ls hl => ?_)
      have kx52 : ∀ (x1_52 : Int32) (z_52 : Ob) (H : Heap) (locs : List Loc) (ls : Array Slot), k_m_notes_52 x1_52 z_52 = some u → va_P D vwCl (cModel cI cZ za z1 z2 z3 z4 z5 z6 z7 z8 z9 z_52) H → va_D A (cModel cI cZ za z1 z2 z3 z4 z5 z6 z7 z8 z9 z_52) → va_S A s.heap H locs → lv_has ls 2 [(0, .ref za), (1, .int x1_52)] → W p l e ({ frames := 0, cells := 0, slots := 0, locals := 0 } : Room) s m ([.ref za] : List Value).toArray below meth c H locs 0 0 Q (F0 m 86 ls []) := by
        intro x1_52 z_52 H locs ls hf hP hD hS hl
        rw [k_m_notes_52] at hf
        refine lv_aload_n hx hb dX7_notes_86 rfl (lv_at hl 0 rfl) ?_
        refine lv_dup hx hb dX7_notes_87 rfl ?_
        refine va_get (D := D) (ci := 7) (v := .int (z_52 0 2)) (C := RX7) (T := TX7) (N := 17) hx hb hts inT7 hown hK hP 0 rfl rfl 2 (by decide) (hts _ mT_568) (fun _ h9 => h9) rfl dX7_notes_88 ?_
        refine lv_iconst (v := 1) hx hb dX7_notes_91 (by decide) ?_
        refine lv_iadd hx hb dX7_notes_92 ?_
        refine va_put (D := D) (ci := 7) (v := .int ((z_52 0 2) + 1)) (ty := .int) (C := RX7) (T := TX7) (N := 17) hx hb hts inT7 tyX7 tyX7_ok nmX7 hown hK hP hD hS 0 rfl rfl 2 (by decide) (hts _ mT_568) (fun _ h9 => h9) rfl (by decide +kernel) rfl rfl (Nat.le_of_ble_eq_true rfl) dX7_notes_93 (fun H locs hP hD hS => ?_)
        have hP : va_P D vwCl ([(za, .inr (7, [.ref z1, .ref z2, .int ((z_52 0 2) + 1), .ref z3, .ref z4, .int (z_52 0 5), .ref z5, .int (z_52 0 7), .ref z6, .ref z7, .ref z8, .int (z_52 0 11), .int (z_52 0 12), .int (z_52 0 13), .int (z_52 0 14), .ref z9, .int (z_52 0 16)])), (z1, .inl (cI, 367, .inl (z_52 1))), (z2, .inl (cI, 5872, .inl (z_52 2))), (z3, .inl (cI, 736, .inl (z_52 3))), (z4, .inl (cZ, 2, .inl (z_52 4))), (z5, .inl (cI, 60, .inl (z_52 5))), (z6, .inl (cI, 20, .inl (z_52 6))), (z7, .inl (cI, 20, .inl (z_52 7))), (z8, .inl (cI, 20, .inl (z_52 8))), (z9, .inl (cI, 10, .inl (z_52 9)))]) H := hP
        have hD : va_D A ([(za, .inr (7, [.ref z1, .ref z2, .int ((z_52 0 2) + 1), .ref z3, .ref z4, .int (z_52 0 5), .ref z5, .int (z_52 0 7), .ref z6, .ref z7, .ref z8, .int (z_52 0 11), .int (z_52 0 12), .int (z_52 0 13), .int (z_52 0 14), .ref z9, .int (z_52 0 16)])), (z1, .inl (cI, 367, .inl (z_52 1))), (z2, .inl (cI, 5872, .inl (z_52 2))), (z3, .inl (cI, 736, .inl (z_52 3))), (z4, .inl (cZ, 2, .inl (z_52 4))), (z5, .inl (cI, 60, .inl (z_52 5))), (z6, .inl (cI, 20, .inl (z_52 6))), (z7, .inl (cI, 20, .inl (z_52 7))), (z8, .inl (cI, 20, .inl (z_52 8))), (z9, .inl (cI, 10, .inl (z_52 9)))]) := hD
        exact hret _ _ (sI z_52 2 ((z_52 0 2) + 1)) _ _ hf dX7_notes_96 hP hD hS
      have lh52 : ∀ (fu52 : Nat) (x1_52 : Int32) (z_52 : Ob) (H : Heap) (locs : List Loc) (ls : Array Slot), lp_m_notes_52 k_m_notes_52 fu52 x1_52 z_52 = some u → va_P D vwCl (cModel cI cZ za z1 z2 z3 z4 z5 z6 z7 z8 z9 z_52) H → va_D A (cModel cI cZ za z1 z2 z3 z4 z5 z6 z7 z8 z9 z_52) → va_S A s.heap H locs → lv_has ls 2 [(0, .ref za), (1, .int x1_52)] → W p l e ({ frames := 0, cells := 0, slots := 0, locals := 0 } : Room) s m ([.ref za] : List Value).toArray below meth c H locs 0 0 Q (F0 m 52 ls []) := by
        intro fu52
        induction fu52 with
        | zero => intro x1_52 z_52 H locs ls hf hP hD hS hl; exact no_none hf
        | succ fu52 ih52 =>
          intro x1_52 z_52 H locs ls hf hP hD hS hl
          rw [lp_m_notes_52] at hf
          refine lv_iload_n hx hb dX7_notes_52 rfl (lv_at hl 1 rfl) ?_
          refine lv_sipush (v := 367) hx hb dX7_notes_53 (by decide) ?_
          refine lv_icmp_ge (tgt := 86) hx hb dX7_notes_56 (by decide) (fun c56 => ?_) (fun c56 => ?_)
          · have hf := ite_t c56 hf
            exact kx52 x1_52 z_52 _ _ _ hf hP hD hS (lv_sub hl [0, 1] rfl)
          · have hf := ite_f c56 hf
            refine lv_aload_n hx hb dX7_notes_59 rfl (lv_at hl 0 rfl) ?_
            refine va_get (D := D) (ci := 7) (v := .ref z2) (C := RX7) (T := TX7) (N := 17) hx hb hts inT7 hown hK hP 0 rfl rfl 1 (by decide) (hts _ mT_567) (fun _ h9 => h9) rfl dX7_notes_60 ?_
            refine lv_sipush (v := 367) hx hb dX7_notes_63 (by decide) ?_
            refine lv_aload_n hx hb dX7_notes_66 rfl (lv_at hl 0 rfl) ?_
            refine va_get (D := D) (ci := 7) (v := .int (z_52 0 2)) (C := RX7) (T := TX7) (N := 17) hx hb hts inT7 hown hK hP 0 rfl rfl 2 (by decide) (hts _ mT_568) (fun _ h9 => h9) rfl dX7_notes_67 ?_
            refine lv_imul hx hb dX7_notes_70 ?_
            refine lv_iload_n hx hb dX7_notes_71 rfl (lv_at hl 1 rfl) ?_
            refine lv_iadd hx hb dX7_notes_72 ?_
            refine lv_aload_n hx hb dX7_notes_73 rfl (lv_at hl 0 rfl) ?_
            refine va_get (D := D) (ci := 7) (v := .ref z1) (C := RX7) (T := TX7) (N := 17) hx hb hts inT7 hown hK hP 0 rfl rfl 0 (by decide) (hts _ mT_566) (fun _ h9 => h9) rfl dX7_notes_74 ?_
            refine lv_iload_n hx hb dX7_notes_77 rfl (lv_at hl 1 rfl) ?_
            obtain ⟨b78, hf⟩ := gd_some hf
            refine va_iald (n := 367) (f := z_52 1) hx hb hK hP 1 0 rfl rfl (ck_in b78) dX7_notes_78 ?_
            obtain ⟨b79, hf⟩ := gd_some hf
            refine va_iast (n := 5872) (f := z_52 2) hx hb hK hP hD hS 2 0 rfl rfl (ck_in b79) dX7_notes_79 (fun H locs hP hD hS => ?_)
            have hP : va_P D vwCl ([(za, .inr (7, [.ref z1, .ref z2, .int (z_52 0 2), .ref z3, .ref z4, .int (z_52 0 5), .ref z5, .int (z_52 0 7), .ref z6, .ref z7, .ref z8, .int (z_52 0 11), .int (z_52 0 12), .int (z_52 0 13), .int (z_52 0 14), .ref z9, .int (z_52 0 16)])), (z1, .inl (cI, 367, .inl (z_52 1))), (z2, .inl (cI, 5872, .inl (upd (z_52 2) (Int32.toNatClampNeg ((367 * (z_52 0 2)) + x1_52)) ((z_52 1) (Int32.toNatClampNeg x1_52))))), (z3, .inl (cI, 736, .inl (z_52 3))), (z4, .inl (cZ, 2, .inl (z_52 4))), (z5, .inl (cI, 60, .inl (z_52 5))), (z6, .inl (cI, 20, .inl (z_52 6))), (z7, .inl (cI, 20, .inl (z_52 7))), (z8, .inl (cI, 20, .inl (z_52 8))), (z9, .inl (cI, 10, .inl (z_52 9)))]) H := hP
            have hD : va_D A ([(za, .inr (7, [.ref z1, .ref z2, .int (z_52 0 2), .ref z3, .ref z4, .int (z_52 0 5), .ref z5, .int (z_52 0 7), .ref z6, .ref z7, .ref z8, .int (z_52 0 11), .int (z_52 0 12), .int (z_52 0 13), .int (z_52 0 14), .ref z9, .int (z_52 0 16)])), (z1, .inl (cI, 367, .inl (z_52 1))), (z2, .inl (cI, 5872, .inl (upd (z_52 2) (Int32.toNatClampNeg ((367 * (z_52 0 2)) + x1_52)) ((z_52 1) (Int32.toNatClampNeg x1_52))))), (z3, .inl (cI, 736, .inl (z_52 3))), (z4, .inl (cZ, 2, .inl (z_52 4))), (z5, .inl (cI, 60, .inl (z_52 5))), (z6, .inl (cI, 20, .inl (z_52 6))), (z7, .inl (cI, 20, .inl (z_52 7))), (z8, .inl (cI, 20, .inl (z_52 8))), (z9, .inl (cI, 10, .inl (z_52 9)))]) := hD
            refine lv_iinc (v := x1_52 + 1) (lv' := [(1, .int (x1_52 + 1)), (0, .ref za)]) hx hb dX7_notes_80 hl (k := 1) rfl rfl (by decide) rfl (fun ls hl => ?_)
            refine lv_goto (tgt := 52) hx hb dX7_notes_83 (by decide) ?_
            exact ih52 (x1_52 + 1) (sA z_52 2 (upd (z_52 2) (Int32.toNatClampNeg ((367 * (z_52 0 2)) + x1_52)) ((z_52 1) (Int32.toNatClampNeg x1_52)))) _ _ _ hf hP hD hS (lv_sub hl [1, 0] rfl)
      exact lh52 10000 0 (sI z_11 2 ((z_11 0 2) - 1)) _ _ _ hf hP hD hS (lv_sub hl [1, 0] rfl)
    have lh11 : ∀ (fu11 : Nat) (x1_11 : Int32) (z_11 : Ob) (H : Heap) (locs : List Loc) (ls : Array Slot), lp_m_notes_11 k_m_notes_11 fu11 x1_11 z_11 = some u → va_P D vwCl (cModel cI cZ za z1 z2 z3 z4 z5 z6 z7 z8 z9 z_11) H → va_D A (cModel cI cZ za z1 z2 z3 z4 z5 z6 z7 z8 z9 z_11) → va_S A s.heap H locs → lv_has ls 2 [(0, .ref za), (1, .int x1_11)] → W p l e ({ frames := 0, cells := 0, slots := 0, locals := 0 } : Room) s m ([.ref za] : List Value).toArray below meth c H locs 0 0 Q (F0 m 11 ls []) := by
      intro fu11
      induction fu11 with
      | zero => intro x1_11 z_11 H locs ls hf hP hD hS hl; exact no_none hf
      | succ fu11 ih11 =>
        intro x1_11 z_11 H locs ls hf hP hD hS hl
        rw [lp_m_notes_11] at hf
        refine lv_iload_n hx hb dX7_notes_11 rfl (lv_at hl 1 rfl) ?_
        refine lv_sipush (v := 5505) hx hb dX7_notes_12 (by decide) ?_
        refine lv_icmp_ge (tgt := 40) hx hb dX7_notes_15 (by decide) (fun c15 => ?_) (fun c15 => ?_)
        · have hf := ite_t c15 hf
          exact kx11 x1_11 z_11 _ _ _ hf hP hD hS (lv_sub hl [0, 1] rfl)
        · have hf := ite_f c15 hf
          refine lv_aload_n hx hb dX7_notes_18 rfl (lv_at hl 0 rfl) ?_
          refine va_get (D := D) (ci := 7) (v := .ref z2) (C := RX7) (T := TX7) (N := 17) hx hb hts inT7 hown hK hP 0 rfl rfl 1 (by decide) (hts _ mT_567) (fun _ h9 => h9) rfl dX7_notes_19 ?_
          refine lv_iload_n hx hb dX7_notes_22 rfl (lv_at hl 1 rfl) ?_
          refine lv_aload_n hx hb dX7_notes_23 rfl (lv_at hl 0 rfl) ?_
          refine va_get (D := D) (ci := 7) (v := .ref z2) (C := RX7) (T := TX7) (N := 17) hx hb hts inT7 hown hK hP 0 rfl rfl 1 (by decide) (hts _ mT_567) (fun _ h9 => h9) rfl dX7_notes_24 ?_
          refine lv_iload_n hx hb dX7_notes_27 rfl (lv_at hl 1 rfl) ?_
          refine lv_sipush (v := 367) hx hb dX7_notes_28 (by decide) ?_
          refine lv_iadd hx hb dX7_notes_31 ?_
          obtain ⟨b32, hf⟩ := gd_some hf
          refine va_iald (n := 5872) (f := z_11 2) hx hb hK hP 2 0 rfl rfl (ck_in b32) dX7_notes_32 ?_
          obtain ⟨b33, hf⟩ := gd_some hf
          refine va_iast (n := 5872) (f := z_11 2) hx hb hK hP hD hS 2 0 rfl rfl (ck_in b33) dX7_notes_33 (fun H locs hP hD hS => ?_)
          have hP : va_P D vwCl ([(za, .inr (7, [.ref z1, .ref z2, .int (z_11 0 2), .ref z3, .ref z4, .int (z_11 0 5), .ref z5, .int (z_11 0 7), .ref z6, .ref z7, .ref z8, .int (z_11 0 11), .int (z_11 0 12), .int (z_11 0 13), .int (z_11 0 14), .ref z9, .int (z_11 0 16)])), (z1, .inl (cI, 367, .inl (z_11 1))), (z2, .inl (cI, 5872, .inl (upd (z_11 2) (Int32.toNatClampNeg x1_11) ((z_11 2) (Int32.toNatClampNeg (x1_11 + 367)))))), (z3, .inl (cI, 736, .inl (z_11 3))), (z4, .inl (cZ, 2, .inl (z_11 4))), (z5, .inl (cI, 60, .inl (z_11 5))), (z6, .inl (cI, 20, .inl (z_11 6))), (z7, .inl (cI, 20, .inl (z_11 7))), (z8, .inl (cI, 20, .inl (z_11 8))), (z9, .inl (cI, 10, .inl (z_11 9)))]) H := hP
          have hD : va_D A ([(za, .inr (7, [.ref z1, .ref z2, .int (z_11 0 2), .ref z3, .ref z4, .int (z_11 0 5), .ref z5, .int (z_11 0 7), .ref z6, .ref z7, .ref z8, .int (z_11 0 11), .int (z_11 0 12), .int (z_11 0 13), .int (z_11 0 14), .ref z9, .int (z_11 0 16)])), (z1, .inl (cI, 367, .inl (z_11 1))), (z2, .inl (cI, 5872, .inl (upd (z_11 2) (Int32.toNatClampNeg x1_11) ((z_11 2) (Int32.toNatClampNeg (x1_11 + 367)))))), (z3, .inl (cI, 736, .inl (z_11 3))), (z4, .inl (cZ, 2, .inl (z_11 4))), (z5, .inl (cI, 60, .inl (z_11 5))), (z6, .inl (cI, 20, .inl (z_11 6))), (z7, .inl (cI, 20, .inl (z_11 7))), (z8, .inl (cI, 20, .inl (z_11 8))), (z9, .inl (cI, 10, .inl (z_11 9)))]) := hD
          refine lv_iinc (v := x1_11 + 1) (lv' := [(1, .int (x1_11 + 1)), (0, .ref za)]) hx hb dX7_notes_34 hl (k := 1) rfl rfl (by decide) rfl (fun ls hl => ?_)
          refine lv_goto (tgt := 11) hx hb dX7_notes_37 (by decide) ?_
          exact ih11 (x1_11 + 1) (sA z_11 2 (upd (z_11 2) (Int32.toNatClampNeg x1_11) ((z_11 2) (Int32.toNatClampNeg (x1_11 + 367))))) _ _ _ hf hP hD hS (lv_sub hl [1, 0] rfl)
    exact lh11 10000 0 z _ _ _ hf hP hD hS (lv_sub hl [1, 0] rfl)
theorem s_yX7_builds : kMS yX7_builds cX7_builds 7 none 3 := ⟨mT_565, mT_59, by decide +kernel⟩
theorem v_yX7_builds : kMV yX7_builds := ⟨mT_564, mT_17⟩
def k_m_builds_52 (x4_52 : Int32) (z_52 : Ob) : Option Ob := some z_52
def k_m_builds_62 (x4_52 : Int32) (go_L52 : Int32 → Ob → Option Ob) (x5_62 : Int32) (z_62 : Ob) : Option Ob := go_L52 (x4_52 + 1) z_62
def lp_m_builds_62 (x : Int32) (x4_52 : Int32) (kk0 : Int32 → Ob → Option Ob) : Nat → Int32 → Ob → Option Ob
  | 0, _, _ => none
  | fu62 + 1, x5_62, z_62 => if 8 ≤ x5_62 then (kk0 x5_62 z_62) else (if x4_52 ≤ x5_62 then (if x = 2 then (gd (ck ((3 + (8 * x4_52)) + x5_62) 367) ((lp_m_builds_62 x x4_52 kk0 fu62) (x5_62 + 1) (sA z_62 1 (upd (z_62 1) (Int32.toNatClampNeg ((3 + (8 * x4_52)) + x5_62)) (x4_52 ||| x5_62))))) else (if x = 0 then (gd (ck ((3 + (8 * x4_52)) + x5_62) 367) ((lp_m_builds_62 x x4_52 kk0 fu62) (x5_62 + 1) (sA z_62 1 (upd (z_62 1) (Int32.toNatClampNeg ((3 + (8 * x4_52)) + x5_62)) x5_62)))) else (if x4_52 = x5_62 then (gd (ck ((3 + (8 * x4_52)) + x5_62) 367) ((lp_m_builds_62 x x4_52 kk0 fu62) (x5_62 + 1) (sA z_62 1 (upd (z_62 1) (Int32.toNatClampNeg ((3 + (8 * x4_52)) + x5_62)) x5_62)))) else (if x4_52 = 0 then (gd (ck ((3 + (8 * x4_52)) + x5_62) 367) ((lp_m_builds_62 x x4_52 kk0 fu62) (x5_62 + 1) (sA z_62 1 (upd (z_62 1) (Int32.toNatClampNeg ((3 + (8 * x4_52)) + x5_62)) x5_62)))) else (if x5_62 = 0 then (gd (ck ((3 + (8 * x4_52)) + x5_62) 367) ((lp_m_builds_62 x x4_52 kk0 fu62) (x5_62 + 1) (sA z_62 1 (upd (z_62 1) (Int32.toNatClampNeg ((3 + (8 * x4_52)) + x5_62)) x5_62)))) else (gd (ck ((3 + (8 * x4_52)) + x5_62) 367) ((lp_m_builds_62 x x4_52 kk0 fu62) (x5_62 + 1) (sA z_62 1 (upd (z_62 1) (Int32.toNatClampNeg ((3 + (8 * x4_52)) + x5_62)) (((z_62 1) (Int32.toNatClampNeg 0)) - 1)))))))))) else (if x = 2 then (gd (ck ((3 + (8 * x4_52)) + x5_62) 367) ((lp_m_builds_62 x x4_52 kk0 fu62) (x5_62 + 1) (sA z_62 1 (upd (z_62 1) (Int32.toNatClampNeg ((3 + (8 * x4_52)) + x5_62)) (x4_52 ||| x5_62))))) else (if x = 0 then (gd (ck ((3 + (8 * x4_52)) + x5_62) 367) ((lp_m_builds_62 x x4_52 kk0 fu62) (x5_62 + 1) (sA z_62 1 (upd (z_62 1) (Int32.toNatClampNeg ((3 + (8 * x4_52)) + x5_62)) x4_52)))) else (if x4_52 = x5_62 then (gd (ck ((3 + (8 * x4_52)) + x5_62) 367) ((lp_m_builds_62 x x4_52 kk0 fu62) (x5_62 + 1) (sA z_62 1 (upd (z_62 1) (Int32.toNatClampNeg ((3 + (8 * x4_52)) + x5_62)) x4_52)))) else (if x4_52 = 0 then (gd (ck ((3 + (8 * x4_52)) + x5_62) 367) ((lp_m_builds_62 x x4_52 kk0 fu62) (x5_62 + 1) (sA z_62 1 (upd (z_62 1) (Int32.toNatClampNeg ((3 + (8 * x4_52)) + x5_62)) x4_52)))) else (if x5_62 = 0 then (gd (ck ((3 + (8 * x4_52)) + x5_62) 367) ((lp_m_builds_62 x x4_52 kk0 fu62) (x5_62 + 1) (sA z_62 1 (upd (z_62 1) (Int32.toNatClampNeg ((3 + (8 * x4_52)) + x5_62)) x4_52)))) else (gd (ck ((3 + (8 * x4_52)) + x5_62) 367) ((lp_m_builds_62 x x4_52 kk0 fu62) (x5_62 + 1) (sA z_62 1 (upd (z_62 1) (Int32.toNatClampNeg ((3 + (8 * x4_52)) + x5_62)) (((z_62 1) (Int32.toNatClampNeg 0)) - 1)))))))))))
def lp_m_builds_52 (x : Int32) (kk0 : Int32 → Ob → Option Ob) : Nat → Int32 → Ob → Option Ob
  | 0, _, _ => none
  | fu52 + 1, x4_52, z_52 => if 8 ≤ x4_52 then (kk0 x4_52 z_52) else (lp_m_builds_62 x x4_52 (k_m_builds_62 x4_52 ((lp_m_builds_52 x kk0 fu52))) 10000 0 z_52)
def k_m_builds_3 (x : Int32) (y : Int32) (v : Int32) (x4_3 : Int32) (z_3 : Ob) : Option Ob := if x = 2 then (lp_m_builds_52 x k_m_builds_52 10000 0 (sA (sA z_3 1 (upd (z_3 1) (Int32.toNatClampNeg 0) 8)) 1 (upd (upd (z_3 1) (Int32.toNatClampNeg 0) 8) (Int32.toNatClampNeg 1) v))) else (lp_m_builds_52 x k_m_builds_52 10000 0 (sA (sA z_3 1 (upd (z_3 1) (Int32.toNatClampNeg 0) y)) 1 (upd (upd (z_3 1) (Int32.toNatClampNeg 0) y) (Int32.toNatClampNeg 1) v)))
def lp_m_builds_3 (kk0 : Int32 → Ob → Option Ob) : Nat → Int32 → Ob → Option Ob
  | 0, _, _ => none
  | fu3 + 1, x4_3, z_3 => if 367 ≤ x4_3 then (kk0 x4_3 z_3) else (gd (ck x4_3 367) ((lp_m_builds_3 kk0 fu3) (x4_3 + 1) (sA z_3 1 (upd (z_3 1) (Int32.toNatClampNeg x4_3) 0))))
def f_m_builds (z : Ob) (x : Int32) (y : Int32) (v : Int32) : Option Ob := lp_m_builds_3 (k_m_builds_3 x y v) 10000 0 z
set_option maxHeartbeats 4000000 in
set_option maxRecDepth 100000 in
theorem c_m_builds (l : Launch) (D : va_G) (cI cZ cR : ClassId) (za z1 z2 z3 z4 z5 z6 z7 z8 z9 : Nat) (z : Ob) (x : Int32) (y : Int32) (v : Int32) (sz : Nat) (u : Ob) (hf : f_m_builds z x y v = some u) : kCv l yX7_builds cX7_builds 7 none { frames := 0, cells := 0, slots := 0, locals := 0 } [.ref za, .int x, .int y, .int v] D cI cZ cR (cModel cI cZ za z1 z2 z3 z4 z5 z6 z7 z8 z9 z) sz (cModel cI cZ za z1 z2 z3 z4 z5 z6 z7 z8 z9 u) := by
  refine kMwv (wf := (fun u : Ob => cModel cI cZ za z1 z2 z3 z4 z5 z6 z7 z8 z9 u)) (u := u) (by decide) (Nat.le_of_ble_eq_true rfl) ?_
  intro p e s m below meth c Q A hx hb hml hown hts hk hP hD hA hS hret ls hl
  have hS0 := hS
  have hK := hk.1
  have hl : lv_has ls 7 [(0, .ref za), (1, .int x), (2, .int y), (3, .int v)] := hl
  rw [f_m_builds] at hf
  refine lv_iconst (v := 0) hx hb dX7_builds_0 (by decide) ?_
  refine lv_istore (lv' := [(4, .int 0), (0, .ref za), (1, .int x), (2, .int y), (3, .int v)]) hx hb dX7_builds_1 hl (by decide) rfl (fun ls hl => ?_)
  have kx3 : ∀ (x4_3 : Int32) (z_3 : Ob) (H : Heap) (locs : List Loc) (ls : Array Slot), (k_m_builds_3 x y v) x4_3 z_3 = some u → va_P D vwCl (cModel cI cZ za z1 z2 z3 z4 z5 z6 z7 z8 z9 z_3) H → va_D A (cModel cI cZ za z1 z2 z3 z4 z5 z6 z7 z8 z9 z_3) → va_S A s.heap H locs → lv_has ls 7 [(0, .ref za), (1, .int x), (2, .int y), (3, .int v), (4, .int x4_3)] → W p l e ({ frames := 0, cells := 0, slots := 0, locals := 0 } : Room) s m ([.ref za, .int x, .int y, .int v] : List Value).toArray below meth c H locs 0 0 Q (F0 m 25 ls []) := by
    intro x4_3 z_3 H locs ls hf hP hD hS hl
    rw [k_m_builds_3] at hf
    refine lv_aload_n hx hb dX7_builds_25 rfl (lv_at hl 0 rfl) ?_
    refine va_get (D := D) (ci := 7) (v := .ref z1) (C := RX7) (T := TX7) (N := 17) hx hb hts inT7 hown hK hP 0 rfl rfl 0 (by decide) (hts _ mT_566) (fun _ h9 => h9) rfl dX7_builds_26 ?_
    refine lv_iconst (v := 0) hx hb dX7_builds_29 (by decide) ?_
    refine lv_iload_n hx hb dX7_builds_30 rfl (lv_at hl 1 rfl) ?_
    refine lv_iconst (v := 2) hx hb dX7_builds_31 (by decide) ?_
    refine lv_icmp_ne (tgt := 40) hx hb dX7_builds_32 (by decide) (fun c32 => ?_) (fun c32 => ?_)
    · have hf := ite_f c32 hf
      refine lv_iload_n hx hb dX7_builds_40 rfl (lv_at hl 2 rfl) ?_
      refine va_iast (n := 367) (f := z_3 1) hx hb hK hP hD hS 1 0 rfl rfl (ck_in (by decide)) dX7_builds_41 (fun H locs hP hD hS => ?_)
      have hP : va_P D vwCl ([(za, .inr (7, [.ref z1, .ref z2, .int (z_3 0 2), .ref z3, .ref z4, .int (z_3 0 5), .ref z5, .int (z_3 0 7), .ref z6, .ref z7, .ref z8, .int (z_3 0 11), .int (z_3 0 12), .int (z_3 0 13), .int (z_3 0 14), .ref z9, .int (z_3 0 16)])), (z1, .inl (cI, 367, .inl (upd (z_3 1) (Int32.toNatClampNeg 0) y))), (z2, .inl (cI, 5872, .inl (z_3 2))), (z3, .inl (cI, 736, .inl (z_3 3))), (z4, .inl (cZ, 2, .inl (z_3 4))), (z5, .inl (cI, 60, .inl (z_3 5))), (z6, .inl (cI, 20, .inl (z_3 6))), (z7, .inl (cI, 20, .inl (z_3 7))), (z8, .inl (cI, 20, .inl (z_3 8))), (z9, .inl (cI, 10, .inl (z_3 9)))]) H := hP
      have hD : va_D A ([(za, .inr (7, [.ref z1, .ref z2, .int (z_3 0 2), .ref z3, .ref z4, .int (z_3 0 5), .ref z5, .int (z_3 0 7), .ref z6, .ref z7, .ref z8, .int (z_3 0 11), .int (z_3 0 12), .int (z_3 0 13), .int (z_3 0 14), .ref z9, .int (z_3 0 16)])), (z1, .inl (cI, 367, .inl (upd (z_3 1) (Int32.toNatClampNeg 0) y))), (z2, .inl (cI, 5872, .inl (z_3 2))), (z3, .inl (cI, 736, .inl (z_3 3))), (z4, .inl (cZ, 2, .inl (z_3 4))), (z5, .inl (cI, 60, .inl (z_3 5))), (z6, .inl (cI, 20, .inl (z_3 6))), (z7, .inl (cI, 20, .inl (z_3 7))), (z8, .inl (cI, 20, .inl (z_3 8))), (z9, .inl (cI, 10, .inl (z_3 9)))]) := hD
      refine lv_aload_n hx hb dX7_builds_42 rfl (lv_at hl 0 rfl) ?_
      refine va_get (D := D) (ci := 7) (v := .ref z1) (C := RX7) (T := TX7) (N := 17) hx hb hts inT7 hown hK hP 0 rfl rfl 0 (by decide) (hts _ mT_566) (fun _ h9 => h9) rfl dX7_builds_43 ?_
      refine lv_iconst (v := 1) hx hb dX7_builds_46 (by decide) ?_
      refine lv_iload_n hx hb dX7_builds_47 rfl (lv_at hl 3 rfl) ?_
      refine va_iast (n := 367) (f := upd (z_3 1) (Int32.toNatClampNeg 0) y) hx hb hK hP hD hS 1 0 rfl rfl (ck_in (by decide)) dX7_builds_48 (fun H locs hP hD hS => ?_)
      have hP : va_P D vwCl ([(za, .inr (7, [.ref z1, .ref z2, .int (z_3 0 2), .ref z3, .ref z4, .int (z_3 0 5), .ref z5, .int (z_3 0 7), .ref z6, .ref z7, .ref z8, .int (z_3 0 11), .int (z_3 0 12), .int (z_3 0 13), .int (z_3 0 14), .ref z9, .int (z_3 0 16)])), (z1, .inl (cI, 367, .inl (upd (upd (z_3 1) (Int32.toNatClampNeg 0) y) (Int32.toNatClampNeg 1) v))), (z2, .inl (cI, 5872, .inl (z_3 2))), (z3, .inl (cI, 736, .inl (z_3 3))), (z4, .inl (cZ, 2, .inl (z_3 4))), (z5, .inl (cI, 60, .inl (z_3 5))), (z6, .inl (cI, 20, .inl (z_3 6))), (z7, .inl (cI, 20, .inl (z_3 7))), (z8, .inl (cI, 20, .inl (z_3 8))), (z9, .inl (cI, 10, .inl (z_3 9)))]) H := hP
      have hD : va_D A ([(za, .inr (7, [.ref z1, .ref z2, .int (z_3 0 2), .ref z3, .ref z4, .int (z_3 0 5), .ref z5, .int (z_3 0 7), .ref z6, .ref z7, .ref z8, .int (z_3 0 11), .int (z_3 0 12), .int (z_3 0 13), .int (z_3 0 14), .ref z9, .int (z_3 0 16)])), (z1, .inl (cI, 367, .inl (upd (upd (z_3 1) (Int32.toNatClampNeg 0) y) (Int32.toNatClampNeg 1) v))), (z2, .inl (cI, 5872, .inl (z_3 2))), (z3, .inl (cI, 736, .inl (z_3 3))), (z4, .inl (cZ, 2, .inl (z_3 4))), (z5, .inl (cI, 60, .inl (z_3 5))), (z6, .inl (cI, 20, .inl (z_3 6))), (z7, .inl (cI, 20, .inl (z_3 7))), (z8, .inl (cI, 20, .inl (z_3 8))), (z9, .inl (cI, 10, .inl (z_3 9)))]) := hD
      refine lv_iconst (v := 0) hx hb dX7_builds_49 (by decide) ?_
      refine lv_istore (lv' := [(4, .int 0), (0, .ref za), (1, .int x), (2, .int y), (3, .int v)]) hx hb dX7_builds_50 hl (by decide) rfl (fun ls hl => ?_)
      have kx52 : ∀ (x4_52 : Int32) (z_52 : Ob) (H : Heap) (locs : List Loc) (ls : Array Slot), k_m_builds_52 x4_52 z_52 = some u → va_P D vwCl (cModel cI cZ za z1 z2 z3 z4 z5 z6 z7 z8 z9 z_52) H → va_D A (cModel cI cZ za z1 z2 z3 z4 z5 z6 z7 z8 z9 z_52) → va_S A s.heap H locs → lv_has ls 7 [(0, .ref za), (1, .int x), (2, .int y), (3, .int v), (4, .int x4_52)] → W p l e ({ frames := 0, cells := 0, slots := 0, locals := 0 } : Room) s m ([.ref za, .int x, .int y, .int v] : List Value).toArray below meth c H locs 0 0 Q (F0 m 159 ls []) := by
        intro x4_52 z_52 H locs ls hf hP hD hS hl
        rw [k_m_builds_52] at hf
        exact hret _ _ z_52 _ _ hf dX7_builds_159 hP hD hS
      have lh52 : ∀ (fu52 : Nat) (x4_52 : Int32) (z_52 : Ob) (H : Heap) (locs : List Loc) (ls : Array Slot), lp_m_builds_52 x k_m_builds_52 fu52 x4_52 z_52 = some u → va_P D vwCl (cModel cI cZ za z1 z2 z3 z4 z5 z6 z7 z8 z9 z_52) H → va_D A (cModel cI cZ za z1 z2 z3 z4 z5 z6 z7 z8 z9 z_52) → va_S A s.heap H locs → lv_has ls 7 [(0, .ref za), (1, .int x), (2, .int y), (3, .int v), (4, .int x4_52)] → W p l e ({ frames := 0, cells := 0, slots := 0, locals := 0 } : Room) s m ([.ref za, .int x, .int y, .int v] : List Value).toArray below meth c H locs 0 0 Q (F0 m 52 ls []) := by
        intro fu52
        induction fu52 with
        | zero => intro x4_52 z_52 H locs ls hf hP hD hS hl; exact no_none hf
        | succ fu52 ih52 =>
          intro x4_52 z_52 H locs ls hf hP hD hS hl
          rw [lp_m_builds_52] at hf
          refine lv_iload hx hb dX7_builds_52 (lv_at hl 4 rfl) ?_
          refine lv_bipush (v := 8) hx hb dX7_builds_54 (by decide) ?_
          refine lv_icmp_ge (tgt := 159) hx hb dX7_builds_56 (by decide) (fun c56 => ?_) (fun c56 => ?_)
          · have hf := ite_t c56 hf
            exact kx52 x4_52 z_52 _ _ _ hf hP hD hS (lv_sub hl [0, 1, 2, 3, 4] rfl)
          · have hf := ite_f c56 hf
            refine lv_iconst (v := 0) hx hb dX7_builds_59 (by decide) ?_
            refine lv_istore (lv' := [(5, .int 0), (0, .ref za), (1, .int x), (2, .int y), (3, .int v), (4, .int x4_52)]) hx hb dX7_builds_60 hl (by decide) rfl (fun ls hl => ?_)
            have kx62 : ∀ (x5_62 : Int32) (z_62 : Ob) (H : Heap) (locs : List Loc) (ls : Array Slot), (k_m_builds_62 x4_52 ((lp_m_builds_52 x k_m_builds_52 fu52))) x5_62 z_62 = some u → va_P D vwCl (cModel cI cZ za z1 z2 z3 z4 z5 z6 z7 z8 z9 z_62) H → va_D A (cModel cI cZ za z1 z2 z3 z4 z5 z6 z7 z8 z9 z_62) → va_S A s.heap H locs → lv_has ls 7 [(0, .ref za), (1, .int x), (2, .int y), (3, .int v), (4, .int x4_52), (5, .int x5_62)] → W p l e ({ frames := 0, cells := 0, slots := 0, locals := 0 } : Room) s m ([.ref za, .int x, .int y, .int v] : List Value).toArray below meth c H locs 0 0 Q (F0 m 153 ls []) := by
              intro x5_62 z_62 H locs ls hf hP hD hS hl
              rw [k_m_builds_62] at hf
              refine lv_iinc (v := x4_52 + 1) (lv' := [(4, .int (x4_52 + 1)), (0, .ref za), (1, .int x), (2, .int y), (3, .int v), (5, .int x5_62)]) hx hb dX7_builds_153 hl (k := 4) rfl rfl (by decide) rfl (fun ls hl => ?_)
              refine lv_goto (tgt := 52) hx hb dX7_builds_156 (by decide) ?_
              exact ih52 (x4_52 + 1) z_62 _ _ _ hf hP hD hS (lv_sub hl [1, 2, 3, 4, 0] rfl)
            have lh62 : ∀ (fu62 : Nat) (x5_62 : Int32) (z_62 : Ob) (H : Heap) (locs : List Loc) (ls : Array Slot), lp_m_builds_62 x x4_52 (k_m_builds_62 x4_52 ((lp_m_builds_52 x k_m_builds_52 fu52))) fu62 x5_62 z_62 = some u → va_P D vwCl (cModel cI cZ za z1 z2 z3 z4 z5 z6 z7 z8 z9 z_62) H → va_D A (cModel cI cZ za z1 z2 z3 z4 z5 z6 z7 z8 z9 z_62) → va_S A s.heap H locs → lv_has ls 7 [(0, .ref za), (1, .int x), (2, .int y), (3, .int v), (4, .int x4_52), (5, .int x5_62)] → W p l e ({ frames := 0, cells := 0, slots := 0, locals := 0 } : Room) s m ([.ref za, .int x, .int y, .int v] : List Value).toArray below meth c H locs 0 0 Q (F0 m 62 ls []) := by
              intro fu62
              induction fu62 with
              | zero => intro x5_62 z_62 H locs ls hf hP hD hS hl; exact no_none hf
              | succ fu62 ih62 =>
                intro x5_62 z_62 H locs ls hf hP hD hS hl
                rw [lp_m_builds_62] at hf
                refine lv_iload hx hb dX7_builds_62 (lv_at hl 5 rfl) ?_
                refine lv_bipush (v := 8) hx hb dX7_builds_64 (by decide) ?_
                refine lv_icmp_ge (tgt := 153) hx hb dX7_builds_66 (by decide) (fun c66 => ?_) (fun c66 => ?_)
                · have hf := ite_t c66 hf
                  exact kx62 x5_62 z_62 _ _ _ hf hP hD hS (lv_sub hl [0, 1, 2, 3, 4, 5] rfl)
                · have hf := ite_f c66 hf
                  refine lv_iload hx hb dX7_builds_69 (lv_at hl 4 rfl) ?_
                  refine lv_iload hx hb dX7_builds_71 (lv_at hl 5 rfl) ?_
                  refine lv_icmp_le (tgt := 81) hx hb dX7_builds_73 (by decide) (fun c73 => ?_) (fun c73 => ?_)
                  · have hf := ite_t c73 hf
                    refine lv_iload hx hb dX7_builds_81 (lv_at hl 5 rfl) ?_
                    refine lv_istore (lv' := [(6, .int x5_62), (0, .ref za), (1, .int x), (2, .int y), (3, .int v), (4, .int x4_52), (5, .int x5_62)]) hx hb dX7_builds_83 hl (by decide) rfl (fun ls hl => ?_)
                    refine lv_aload_n hx hb dX7_builds_85 rfl (lv_at hl 1 rfl) ?_
                    refine va_get (D := D) (ci := 7) (v := .ref z1) (C := RX7) (T := TX7) (N := 17) hx hb hts inT7 hown hK hP 0 rfl rfl 0 (by decide) (hts _ mT_566) (fun _ h9 => h9) rfl dX7_builds_86 ?_
                    refine lv_iconst (v := 3) hx hb dX7_builds_89 (by decide) ?_
                    refine lv_bipush (v := 8) hx hb dX7_builds_90 (by decide) ?_
                    refine lv_iload hx hb dX7_builds_92 (lv_at hl 5 rfl) ?_
                    refine lv_imul hx hb dX7_builds_94 ?_
                    refine lv_iadd hx hb dX7_builds_95 ?_
                    refine lv_iload hx hb dX7_builds_96 (lv_at hl 6 rfl) ?_
                    refine lv_iadd hx hb dX7_builds_98 ?_
                    refine lv_iload_n hx hb dX7_builds_99 rfl (lv_at hl 2 rfl) ?_
                    refine lv_iconst (v := 2) hx hb dX7_builds_100 (by decide) ?_
                    refine lv_icmp_ne (tgt := 112) hx hb dX7_builds_101 (by decide) (fun c101 => ?_) (fun c101 => ?_)
                    · have hf := ite_f c101 hf
                      refine lv_iload_n hx hb dX7_builds_112 rfl (lv_at hl 2 rfl) ?_
                      refine lv_if_eq (tgt := 133) hx hb dX7_builds_113 (by decide) (fun c113 => ?_) (fun c113 => ?_)
                      · have hf := ite_t c113 hf
                        refine lv_iload hx hb dX7_builds_133 (lv_at hl 0 rfl) ?_
                        refine lv_goto (tgt := 146) hx hb dX7_builds_135 (by decide) ?_
                        obtain ⟨b146, hf⟩ := gd_some hf
                        refine va_iast (n := 367) (f := z_62 1) hx hb hK hP hD hS 1 0 rfl rfl (ck_in b146) dX7_builds_146 (fun H locs hP hD hS => ?_)
                        have hP : va_P D vwCl ([(za, .inr (7, [.ref z1, .ref z2, .int (z_62 0 2), .ref z3, .ref z4, .int (z_62 0 5), .ref z5, .int (z_62 0 7), .ref z6, .ref z7, .ref z8, .int (z_62 0 11), .int (z_62 0 12), .int (z_62 0 13), .int (z_62 0 14), .ref z9, .int (z_62 0 16)])), (z1, .inl (cI, 367, .inl (upd (z_62 1) (Int32.toNatClampNeg ((3 + (8 * x4_52)) + x5_62)) x5_62))), (z2, .inl (cI, 5872, .inl (z_62 2))), (z3, .inl (cI, 736, .inl (z_62 3))), (z4, .inl (cZ, 2, .inl (z_62 4))), (z5, .inl (cI, 60, .inl (z_62 5))), (z6, .inl (cI, 20, .inl (z_62 6))), (z7, .inl (cI, 20, .inl (z_62 7))), (z8, .inl (cI, 20, .inl (z_62 8))), (z9, .inl (cI, 10, .inl (z_62 9)))]) H := hP
                        have hD : va_D A ([(za, .inr (7, [.ref z1, .ref z2, .int (z_62 0 2), .ref z3, .ref z4, .int (z_62 0 5), .ref z5, .int (z_62 0 7), .ref z6, .ref z7, .ref z8, .int (z_62 0 11), .int (z_62 0 12), .int (z_62 0 13), .int (z_62 0 14), .ref z9, .int (z_62 0 16)])), (z1, .inl (cI, 367, .inl (upd (z_62 1) (Int32.toNatClampNeg ((3 + (8 * x4_52)) + x5_62)) x5_62))), (z2, .inl (cI, 5872, .inl (z_62 2))), (z3, .inl (cI, 736, .inl (z_62 3))), (z4, .inl (cZ, 2, .inl (z_62 4))), (z5, .inl (cI, 60, .inl (z_62 5))), (z6, .inl (cI, 20, .inl (z_62 6))), (z7, .inl (cI, 20, .inl (z_62 7))), (z8, .inl (cI, 20, .inl (z_62 8))), (z9, .inl (cI, 10, .inl (z_62 9)))]) := hD
                        refine lv_iinc (v := x5_62 + 1) (lv' := [(5, .int (x5_62 + 1)), (6, .int x5_62), (0, .ref za), (1, .int x), (2, .int y), (3, .int v), (4, .int x4_52)]) hx hb dX7_builds_147 hl (k := 6) rfl rfl (by decide) rfl (fun ls hl => ?_)
                        refine lv_goto (tgt := 62) hx hb dX7_builds_150 (by decide) ?_
                        exact ih62 (x5_62 + 1) (sA z_62 1 (upd (z_62 1) (Int32.toNatClampNeg ((3 + (8 * x4_52)) + x5_62)) x5_62)) _ _ _ hf hP hD hS (lv_sub hl [2, 3, 4, 5, 6, 0] rfl)
                      · have hf := ite_f c113 hf
                        refine lv_iload hx hb dX7_builds_116 (lv_at hl 5 rfl) ?_
                        refine lv_iload hx hb dX7_builds_118 (lv_at hl 6 rfl) ?_
                        refine lv_icmp_eq (tgt := 133) hx hb dX7_builds_120 (by decide) (fun c120 => ?_) (fun c120 => ?_)
                        · have hf := ite_t c120 hf
                          refine lv_iload hx hb dX7_builds_133 (lv_at hl 0 rfl) ?_
                          refine lv_goto (tgt := 146) hx hb dX7_builds_135 (by decide) ?_
                          obtain ⟨b146, hf⟩ := gd_some hf
                          refine va_iast (n := 367) (f := z_62 1) hx hb hK hP hD hS 1 0 rfl rfl (ck_in b146) dX7_builds_146 (fun H locs hP hD hS => ?_)
                          have hP : va_P D vwCl ([(za, .inr (7, [.ref z1, .ref z2, .int (z_62 0 2), .ref z3, .ref z4, .int (z_62 0 5), .ref z5, .int (z_62 0 7), .ref z6, .ref z7, .ref z8, .int (z_62 0 11), .int (z_62 0 12), .int (z_62 0 13), .int (z_62 0 14), .ref z9, .int (z_62 0 16)])), (z1, .inl (cI, 367, .inl (upd (z_62 1) (Int32.toNatClampNeg ((3 + (8 * x4_52)) + x5_62)) x5_62))), (z2, .inl (cI, 5872, .inl (z_62 2))), (z3, .inl (cI, 736, .inl (z_62 3))), (z4, .inl (cZ, 2, .inl (z_62 4))), (z5, .inl (cI, 60, .inl (z_62 5))), (z6, .inl (cI, 20, .inl (z_62 6))), (z7, .inl (cI, 20, .inl (z_62 7))), (z8, .inl (cI, 20, .inl (z_62 8))), (z9, .inl (cI, 10, .inl (z_62 9)))]) H := hP
                          have hD : va_D A ([(za, .inr (7, [.ref z1, .ref z2, .int (z_62 0 2), .ref z3, .ref z4, .int (z_62 0 5), .ref z5, .int (z_62 0 7), .ref z6, .ref z7, .ref z8, .int (z_62 0 11), .int (z_62 0 12), .int (z_62 0 13), .int (z_62 0 14), .ref z9, .int (z_62 0 16)])), (z1, .inl (cI, 367, .inl (upd (z_62 1) (Int32.toNatClampNeg ((3 + (8 * x4_52)) + x5_62)) x5_62))), (z2, .inl (cI, 5872, .inl (z_62 2))), (z3, .inl (cI, 736, .inl (z_62 3))), (z4, .inl (cZ, 2, .inl (z_62 4))), (z5, .inl (cI, 60, .inl (z_62 5))), (z6, .inl (cI, 20, .inl (z_62 6))), (z7, .inl (cI, 20, .inl (z_62 7))), (z8, .inl (cI, 20, .inl (z_62 8))), (z9, .inl (cI, 10, .inl (z_62 9)))]) := hD
                          refine lv_iinc (v := x5_62 + 1) (lv' := [(5, .int (x5_62 + 1)), (6, .int x5_62), (0, .ref za), (1, .int x), (2, .int y), (3, .int v), (4, .int x4_52)]) hx hb dX7_builds_147 hl (k := 6) rfl rfl (by decide) rfl (fun ls hl => ?_)
                          refine lv_goto (tgt := 62) hx hb dX7_builds_150 (by decide) ?_
                          exact ih62 (x5_62 + 1) (sA z_62 1 (upd (z_62 1) (Int32.toNatClampNeg ((3 + (8 * x4_52)) + x5_62)) x5_62)) _ _ _ hf hP hD hS (lv_sub hl [2, 3, 4, 5, 6, 0] rfl)
                        · have hf := ite_f c120 hf
                          refine lv_iload hx hb dX7_builds_123 (lv_at hl 5 rfl) ?_
                          refine lv_if_eq (tgt := 133) hx hb dX7_builds_125 (by decide) (fun c125 => ?_) (fun c125 => ?_)
                          · have hf := ite_t c125 hf
                            refine lv_iload hx hb dX7_builds_133 (lv_at hl 0 rfl) ?_
                            refine lv_goto (tgt := 146) hx hb dX7_builds_135 (by decide) ?_
                            obtain ⟨b146, hf⟩ := gd_some hf
                            refine va_iast (n := 367) (f := z_62 1) hx hb hK hP hD hS 1 0 rfl rfl (ck_in b146) dX7_builds_146 (fun H locs hP hD hS => ?_)
                            have hP : va_P D vwCl ([(za, .inr (7, [.ref z1, .ref z2, .int (z_62 0 2), .ref z3, .ref z4, .int (z_62 0 5), .ref z5, .int (z_62 0 7), .ref z6, .ref z7, .ref z8, .int (z_62 0 11), .int (z_62 0 12), .int (z_62 0 13), .int (z_62 0 14), .ref z9, .int (z_62 0 16)])), (z1, .inl (cI, 367, .inl (upd (z_62 1) (Int32.toNatClampNeg ((3 + (8 * x4_52)) + x5_62)) x5_62))), (z2, .inl (cI, 5872, .inl (z_62 2))), (z3, .inl (cI, 736, .inl (z_62 3))), (z4, .inl (cZ, 2, .inl (z_62 4))), (z5, .inl (cI, 60, .inl (z_62 5))), (z6, .inl (cI, 20, .inl (z_62 6))), (z7, .inl (cI, 20, .inl (z_62 7))), (z8, .inl (cI, 20, .inl (z_62 8))), (z9, .inl (cI, 10, .inl (z_62 9)))]) H := hP
                            have hD : va_D A ([(za, .inr (7, [.ref z1, .ref z2, .int (z_62 0 2), .ref z3, .ref z4, .int (z_62 0 5), .ref z5, .int (z_62 0 7), .ref z6, .ref z7, .ref z8, .int (z_62 0 11), .int (z_62 0 12), .int (z_62 0 13), .int (z_62 0 14), .ref z9, .int (z_62 0 16)])), (z1, .inl (cI, 367, .inl (upd (z_62 1) (Int32.toNatClampNeg ((3 + (8 * x4_52)) + x5_62)) x5_62))), (z2, .inl (cI, 5872, .inl (z_62 2))), (z3, .inl (cI, 736, .inl (z_62 3))), (z4, .inl (cZ, 2, .inl (z_62 4))), (z5, .inl (cI, 60, .inl (z_62 5))), (z6, .inl (cI, 20, .inl (z_62 6))), (z7, .inl (cI, 20, .inl (z_62 7))), (z8, .inl (cI, 20, .inl (z_62 8))), (z9, .inl (cI, 10, .inl (z_62 9)))]) := hD
                            refine lv_iinc (v := x5_62 + 1) (lv' := [(5, .int (x5_62 + 1)), (6, .int x5_62), (0, .ref za), (1, .int x), (2, .int y), (3, .int v), (4, .int x4_52)]) hx hb dX7_builds_147 hl (k := 6) rfl rfl (by decide) rfl (fun ls hl => ?_)
                            refine lv_goto (tgt := 62) hx hb dX7_builds_150 (by decide) ?_
                            exact ih62 (x5_62 + 1) (sA z_62 1 (upd (z_62 1) (Int32.toNatClampNeg ((3 + (8 * x4_52)) + x5_62)) x5_62)) _ _ _ hf hP hD hS (lv_sub hl [2, 3, 4, 5, 6, 0] rfl)
                          · have hf := ite_f c125 hf
                            refine lv_iload hx hb dX7_builds_128 (lv_at hl 6 rfl) ?_
                            refine lv_if_ne (tgt := 138) hx hb dX7_builds_130 (by decide) (fun c130 => ?_) (fun c130 => ?_)
                            · have hf := ite_f c130 hf
                              refine lv_aload_n hx hb dX7_builds_138 rfl (lv_at hl 1 rfl) ?_
                              refine va_get (D := D) (ci := 7) (v := .ref z1) (C := RX7) (T := TX7) (N := 17) hx hb hts inT7 hown hK hP 0 rfl rfl 0 (by decide) (hts _ mT_566) (fun _ h9 => h9) rfl dX7_builds_139 ?_
                              refine lv_iconst (v := 0) hx hb dX7_builds_142 (by decide) ?_
                              refine va_iald (n := 367) (f := z_62 1) hx hb hK hP 1 0 rfl rfl (ck_in (by decide)) dX7_builds_143 ?_
                              refine lv_iconst (v := 1) hx hb dX7_builds_144 (by decide) ?_
                              refine lv_isub hx hb dX7_builds_145 ?_
                              obtain ⟨b146, hf⟩ := gd_some hf
                              refine va_iast (n := 367) (f := z_62 1) hx hb hK hP hD hS 1 0 rfl rfl (ck_in b146) dX7_builds_146 (fun H locs hP hD hS => ?_)
                              have hP : va_P D vwCl ([(za, .inr (7, [.ref z1, .ref z2, .int (z_62 0 2), .ref z3, .ref z4, .int (z_62 0 5), .ref z5, .int (z_62 0 7), .ref z6, .ref z7, .ref z8, .int (z_62 0 11), .int (z_62 0 12), .int (z_62 0 13), .int (z_62 0 14), .ref z9, .int (z_62 0 16)])), (z1, .inl (cI, 367, .inl (upd (z_62 1) (Int32.toNatClampNeg ((3 + (8 * x4_52)) + x5_62)) (((z_62 1) (Int32.toNatClampNeg 0)) - 1)))), (z2, .inl (cI, 5872, .inl (z_62 2))), (z3, .inl (cI, 736, .inl (z_62 3))), (z4, .inl (cZ, 2, .inl (z_62 4))), (z5, .inl (cI, 60, .inl (z_62 5))), (z6, .inl (cI, 20, .inl (z_62 6))), (z7, .inl (cI, 20, .inl (z_62 7))), (z8, .inl (cI, 20, .inl (z_62 8))), (z9, .inl (cI, 10, .inl (z_62 9)))]) H := hP
                              have hD : va_D A ([(za, .inr (7, [.ref z1, .ref z2, .int (z_62 0 2), .ref z3, .ref z4, .int (z_62 0 5), .ref z5, .int (z_62 0 7), .ref z6, .ref z7, .ref z8, .int (z_62 0 11), .int (z_62 0 12), .int (z_62 0 13), .int (z_62 0 14), .ref z9, .int (z_62 0 16)])), (z1, .inl (cI, 367, .inl (upd (z_62 1) (Int32.toNatClampNeg ((3 + (8 * x4_52)) + x5_62)) (((z_62 1) (Int32.toNatClampNeg 0)) - 1)))), (z2, .inl (cI, 5872, .inl (z_62 2))), (z3, .inl (cI, 736, .inl (z_62 3))), (z4, .inl (cZ, 2, .inl (z_62 4))), (z5, .inl (cI, 60, .inl (z_62 5))), (z6, .inl (cI, 20, .inl (z_62 6))), (z7, .inl (cI, 20, .inl (z_62 7))), (z8, .inl (cI, 20, .inl (z_62 8))), (z9, .inl (cI, 10, .inl (z_62 9)))]) := hD
                              refine lv_iinc (v := x5_62 + 1) (lv' := [(5, .int (x5_62 + 1)), (6, .int x5_62), (0, .ref za), (1, .int x), (2, .int y), (3, .int v), (4, .int x4_52)]) hx hb dX7_builds_147 hl (k := 6) rfl rfl (by decide) rfl (fun ls hl => ?_)
                              refine lv_goto (tgt := 62) hx hb dX7_builds_150 (by decide) ?_
                              exact ih62 (x5_62 + 1) (sA z_62 1 (upd (z_62 1) (Int32.toNatClampNeg ((3 + (8 * x4_52)) + x5_62)) (((z_62 1) (Int32.toNatClampNeg 0)) - 1))) _ _ _ hf hP hD hS (lv_sub hl [2, 3, 4, 5, 6, 0] rfl)
                            · have hf := ite_t c130 hf
                              refine lv_iload hx hb dX7_builds_133 (lv_at hl 0 rfl) ?_
                              refine lv_goto (tgt := 146) hx hb dX7_builds_135 (by decide) ?_
                              obtain ⟨b146, hf⟩ := gd_some hf
                              refine va_iast (n := 367) (f := z_62 1) hx hb hK hP hD hS 1 0 rfl rfl (ck_in b146) dX7_builds_146 (fun H locs hP hD hS => ?_)
                              have hP : va_P D vwCl ([(za, .inr (7, [.ref z1, .ref z2, .int (z_62 0 2), .ref z3, .ref z4, .int (z_62 0 5), .ref z5, .int (z_62 0 7), .ref z6, .ref z7, .ref z8, .int (z_62 0 11), .int (z_62 0 12), .int (z_62 0 13), .int (z_62 0 14), .ref z9, .int (z_62 0 16)])), (z1, .inl (cI, 367, .inl (upd (z_62 1) (Int32.toNatClampNeg ((3 + (8 * x4_52)) + x5_62)) x5_62))), (z2, .inl (cI, 5872, .inl (z_62 2))), (z3, .inl (cI, 736, .inl (z_62 3))), (z4, .inl (cZ, 2, .inl (z_62 4))), (z5, .inl (cI, 60, .inl (z_62 5))), (z6, .inl (cI, 20, .inl (z_62 6))), (z7, .inl (cI, 20, .inl (z_62 7))), (z8, .inl (cI, 20, .inl (z_62 8))), (z9, .inl (cI, 10, .inl (z_62 9)))]) H := hP
                              have hD : va_D A ([(za, .inr (7, [.ref z1, .ref z2, .int (z_62 0 2), .ref z3, .ref z4, .int (z_62 0 5), .ref z5, .int (z_62 0 7), .ref z6, .ref z7, .ref z8, .int (z_62 0 11), .int (z_62 0 12), .int (z_62 0 13), .int (z_62 0 14), .ref z9, .int (z_62 0 16)])), (z1, .inl (cI, 367, .inl (upd (z_62 1) (Int32.toNatClampNeg ((3 + (8 * x4_52)) + x5_62)) x5_62))), (z2, .inl (cI, 5872, .inl (z_62 2))), (z3, .inl (cI, 736, .inl (z_62 3))), (z4, .inl (cZ, 2, .inl (z_62 4))), (z5, .inl (cI, 60, .inl (z_62 5))), (z6, .inl (cI, 20, .inl (z_62 6))), (z7, .inl (cI, 20, .inl (z_62 7))), (z8, .inl (cI, 20, .inl (z_62 8))), (z9, .inl (cI, 10, .inl (z_62 9)))]) := hD
                              refine lv_iinc (v := x5_62 + 1) (lv' := [(5, .int (x5_62 + 1)), (6, .int x5_62), (0, .ref za), (1, .int x), (2, .int y), (3, .int v), (4, .int x4_52)]) hx hb dX7_builds_147 hl (k := 6) rfl rfl (by decide) rfl (fun ls hl => ?_)
                              refine lv_goto (tgt := 62) hx hb dX7_builds_150 (by decide) ?_
                              exact ih62 (x5_62 + 1) (sA z_62 1 (upd (z_62 1) (Int32.toNatClampNeg ((3 + (8 * x4_52)) + x5_62)) x5_62)) _ _ _ hf hP hD hS (lv_sub hl [2, 3, 4, 5, 6, 0] rfl)
                    · have hf := ite_t c101 hf
                      refine lv_iload hx hb dX7_builds_104 (lv_at hl 5 rfl) ?_
                      refine lv_iload hx hb dX7_builds_106 (lv_at hl 6 rfl) ?_
                      refine lv_ior hx hb dX7_builds_108 ?_
                      refine lv_goto (tgt := 146) hx hb dX7_builds_109 (by decide) ?_
                      obtain ⟨b146, hf⟩ := gd_some hf
                      refine va_iast (n := 367) (f := z_62 1) hx hb hK hP hD hS 1 0 rfl rfl (ck_in b146) dX7_builds_146 (fun H locs hP hD hS => ?_)
                      have hP : va_P D vwCl ([(za, .inr (7, [.ref z1, .ref z2, .int (z_62 0 2), .ref z3, .ref z4, .int (z_62 0 5), .ref z5, .int (z_62 0 7), .ref z6, .ref z7, .ref z8, .int (z_62 0 11), .int (z_62 0 12), .int (z_62 0 13), .int (z_62 0 14), .ref z9, .int (z_62 0 16)])), (z1, .inl (cI, 367, .inl (upd (z_62 1) (Int32.toNatClampNeg ((3 + (8 * x4_52)) + x5_62)) (x4_52 ||| x5_62)))), (z2, .inl (cI, 5872, .inl (z_62 2))), (z3, .inl (cI, 736, .inl (z_62 3))), (z4, .inl (cZ, 2, .inl (z_62 4))), (z5, .inl (cI, 60, .inl (z_62 5))), (z6, .inl (cI, 20, .inl (z_62 6))), (z7, .inl (cI, 20, .inl (z_62 7))), (z8, .inl (cI, 20, .inl (z_62 8))), (z9, .inl (cI, 10, .inl (z_62 9)))]) H := hP
                      have hD : va_D A ([(za, .inr (7, [.ref z1, .ref z2, .int (z_62 0 2), .ref z3, .ref z4, .int (z_62 0 5), .ref z5, .int (z_62 0 7), .ref z6, .ref z7, .ref z8, .int (z_62 0 11), .int (z_62 0 12), .int (z_62 0 13), .int (z_62 0 14), .ref z9, .int (z_62 0 16)])), (z1, .inl (cI, 367, .inl (upd (z_62 1) (Int32.toNatClampNeg ((3 + (8 * x4_52)) + x5_62)) (x4_52 ||| x5_62)))), (z2, .inl (cI, 5872, .inl (z_62 2))), (z3, .inl (cI, 736, .inl (z_62 3))), (z4, .inl (cZ, 2, .inl (z_62 4))), (z5, .inl (cI, 60, .inl (z_62 5))), (z6, .inl (cI, 20, .inl (z_62 6))), (z7, .inl (cI, 20, .inl (z_62 7))), (z8, .inl (cI, 20, .inl (z_62 8))), (z9, .inl (cI, 10, .inl (z_62 9)))]) := hD
                      refine lv_iinc (v := x5_62 + 1) (lv' := [(5, .int (x5_62 + 1)), (6, .int x5_62), (0, .ref za), (1, .int x), (2, .int y), (3, .int v), (4, .int x4_52)]) hx hb dX7_builds_147 hl (k := 6) rfl rfl (by decide) rfl (fun ls hl => ?_)
                      refine lv_goto (tgt := 62) hx hb dX7_builds_150 (by decide) ?_
                      exact ih62 (x5_62 + 1) (sA z_62 1 (upd (z_62 1) (Int32.toNatClampNeg ((3 + (8 * x4_52)) + x5_62)) (x4_52 ||| x5_62))) _ _ _ hf hP hD hS (lv_sub hl [2, 3, 4, 5, 6, 0] rfl)
                  · have hf := ite_f c73 hf
                    refine lv_iload hx hb dX7_builds_76 (lv_at hl 4 rfl) ?_
                    refine lv_goto (tgt := 83) hx hb dX7_builds_78 (by decide) ?_
                    refine lv_istore (lv' := [(6, .int x4_52), (0, .ref za), (1, .int x), (2, .int y), (3, .int v), (4, .int x4_52), (5, .int x5_62)]) hx hb dX7_builds_83 hl (by decide) rfl (fun ls hl => ?_)
                    refine lv_aload_n hx hb dX7_builds_85 rfl (lv_at hl 1 rfl) ?_
                    refine va_get (D := D) (ci := 7) (v := .ref z1) (C := RX7) (T := TX7) (N := 17) hx hb hts inT7 hown hK hP 0 rfl rfl 0 (by decide) (hts _ mT_566) (fun _ h9 => h9) rfl dX7_builds_86 ?_
                    refine lv_iconst (v := 3) hx hb dX7_builds_89 (by decide) ?_
                    refine lv_bipush (v := 8) hx hb dX7_builds_90 (by decide) ?_
                    refine lv_iload hx hb dX7_builds_92 (lv_at hl 5 rfl) ?_
                    refine lv_imul hx hb dX7_builds_94 ?_
                    refine lv_iadd hx hb dX7_builds_95 ?_
                    refine lv_iload hx hb dX7_builds_96 (lv_at hl 6 rfl) ?_
                    refine lv_iadd hx hb dX7_builds_98 ?_
                    refine lv_iload_n hx hb dX7_builds_99 rfl (lv_at hl 2 rfl) ?_
                    refine lv_iconst (v := 2) hx hb dX7_builds_100 (by decide) ?_
                    refine lv_icmp_ne (tgt := 112) hx hb dX7_builds_101 (by decide) (fun c101 => ?_) (fun c101 => ?_)
                    · have hf := ite_f c101 hf
                      refine lv_iload_n hx hb dX7_builds_112 rfl (lv_at hl 2 rfl) ?_
                      refine lv_if_eq (tgt := 133) hx hb dX7_builds_113 (by decide) (fun c113 => ?_) (fun c113 => ?_)
                      · have hf := ite_t c113 hf
                        refine lv_iload hx hb dX7_builds_133 (lv_at hl 0 rfl) ?_
                        refine lv_goto (tgt := 146) hx hb dX7_builds_135 (by decide) ?_
                        obtain ⟨b146, hf⟩ := gd_some hf
                        refine va_iast (n := 367) (f := z_62 1) hx hb hK hP hD hS 1 0 rfl rfl (ck_in b146) dX7_builds_146 (fun H locs hP hD hS => ?_)
                        have hP : va_P D vwCl ([(za, .inr (7, [.ref z1, .ref z2, .int (z_62 0 2), .ref z3, .ref z4, .int (z_62 0 5), .ref z5, .int (z_62 0 7), .ref z6, .ref z7, .ref z8, .int (z_62 0 11), .int (z_62 0 12), .int (z_62 0 13), .int (z_62 0 14), .ref z9, .int (z_62 0 16)])), (z1, .inl (cI, 367, .inl (upd (z_62 1) (Int32.toNatClampNeg ((3 + (8 * x4_52)) + x5_62)) x4_52))), (z2, .inl (cI, 5872, .inl (z_62 2))), (z3, .inl (cI, 736, .inl (z_62 3))), (z4, .inl (cZ, 2, .inl (z_62 4))), (z5, .inl (cI, 60, .inl (z_62 5))), (z6, .inl (cI, 20, .inl (z_62 6))), (z7, .inl (cI, 20, .inl (z_62 7))), (z8, .inl (cI, 20, .inl (z_62 8))), (z9, .inl (cI, 10, .inl (z_62 9)))]) H := hP
                        have hD : va_D A ([(za, .inr (7, [.ref z1, .ref z2, .int (z_62 0 2), .ref z3, .ref z4, .int (z_62 0 5), .ref z5, .int (z_62 0 7), .ref z6, .ref z7, .ref z8, .int (z_62 0 11), .int (z_62 0 12), .int (z_62 0 13), .int (z_62 0 14), .ref z9, .int (z_62 0 16)])), (z1, .inl (cI, 367, .inl (upd (z_62 1) (Int32.toNatClampNeg ((3 + (8 * x4_52)) + x5_62)) x4_52))), (z2, .inl (cI, 5872, .inl (z_62 2))), (z3, .inl (cI, 736, .inl (z_62 3))), (z4, .inl (cZ, 2, .inl (z_62 4))), (z5, .inl (cI, 60, .inl (z_62 5))), (z6, .inl (cI, 20, .inl (z_62 6))), (z7, .inl (cI, 20, .inl (z_62 7))), (z8, .inl (cI, 20, .inl (z_62 8))), (z9, .inl (cI, 10, .inl (z_62 9)))]) := hD
                        refine lv_iinc (v := x5_62 + 1) (lv' := [(5, .int (x5_62 + 1)), (6, .int x4_52), (0, .ref za), (1, .int x), (2, .int y), (3, .int v), (4, .int x4_52)]) hx hb dX7_builds_147 hl (k := 6) rfl rfl (by decide) rfl (fun ls hl => ?_)
                        refine lv_goto (tgt := 62) hx hb dX7_builds_150 (by decide) ?_
                        exact ih62 (x5_62 + 1) (sA z_62 1 (upd (z_62 1) (Int32.toNatClampNeg ((3 + (8 * x4_52)) + x5_62)) x4_52)) _ _ _ hf hP hD hS (lv_sub hl [2, 3, 4, 5, 6, 0] rfl)
                      · have hf := ite_f c113 hf
                        refine lv_iload hx hb dX7_builds_116 (lv_at hl 5 rfl) ?_
                        refine lv_iload hx hb dX7_builds_118 (lv_at hl 6 rfl) ?_
                        refine lv_icmp_eq (tgt := 133) hx hb dX7_builds_120 (by decide) (fun c120 => ?_) (fun c120 => ?_)
                        · have hf := ite_t c120 hf
                          refine lv_iload hx hb dX7_builds_133 (lv_at hl 0 rfl) ?_
                          refine lv_goto (tgt := 146) hx hb dX7_builds_135 (by decide) ?_
                          obtain ⟨b146, hf⟩ := gd_some hf
                          refine va_iast (n := 367) (f := z_62 1) hx hb hK hP hD hS 1 0 rfl rfl (ck_in b146) dX7_builds_146 (fun H locs hP hD hS => ?_)
                          have hP : va_P D vwCl ([(za, .inr (7, [.ref z1, .ref z2, .int (z_62 0 2), .ref z3, .ref z4, .int (z_62 0 5), .ref z5, .int (z_62 0 7), .ref z6, .ref z7, .ref z8, .int (z_62 0 11), .int (z_62 0 12), .int (z_62 0 13), .int (z_62 0 14), .ref z9, .int (z_62 0 16)])), (z1, .inl (cI, 367, .inl (upd (z_62 1) (Int32.toNatClampNeg ((3 + (8 * x4_52)) + x5_62)) x4_52))), (z2, .inl (cI, 5872, .inl (z_62 2))), (z3, .inl (cI, 736, .inl (z_62 3))), (z4, .inl (cZ, 2, .inl (z_62 4))), (z5, .inl (cI, 60, .inl (z_62 5))), (z6, .inl (cI, 20, .inl (z_62 6))), (z7, .inl (cI, 20, .inl (z_62 7))), (z8, .inl (cI, 20, .inl (z_62 8))), (z9, .inl (cI, 10, .inl (z_62 9)))]) H := hP
                          have hD : va_D A ([(za, .inr (7, [.ref z1, .ref z2, .int (z_62 0 2), .ref z3, .ref z4, .int (z_62 0 5), .ref z5, .int (z_62 0 7), .ref z6, .ref z7, .ref z8, .int (z_62 0 11), .int (z_62 0 12), .int (z_62 0 13), .int (z_62 0 14), .ref z9, .int (z_62 0 16)])), (z1, .inl (cI, 367, .inl (upd (z_62 1) (Int32.toNatClampNeg ((3 + (8 * x4_52)) + x5_62)) x4_52))), (z2, .inl (cI, 5872, .inl (z_62 2))), (z3, .inl (cI, 736, .inl (z_62 3))), (z4, .inl (cZ, 2, .inl (z_62 4))), (z5, .inl (cI, 60, .inl (z_62 5))), (z6, .inl (cI, 20, .inl (z_62 6))), (z7, .inl (cI, 20, .inl (z_62 7))), (z8, .inl (cI, 20, .inl (z_62 8))), (z9, .inl (cI, 10, .inl (z_62 9)))]) := hD
                          refine lv_iinc (v := x5_62 + 1) (lv' := [(5, .int (x5_62 + 1)), (6, .int x4_52), (0, .ref za), (1, .int x), (2, .int y), (3, .int v), (4, .int x4_52)]) hx hb dX7_builds_147 hl (k := 6) rfl rfl (by decide) rfl (fun ls hl => ?_)
                          refine lv_goto (tgt := 62) hx hb dX7_builds_150 (by decide) ?_
                          exact ih62 (x5_62 + 1) (sA z_62 1 (upd (z_62 1) (Int32.toNatClampNeg ((3 + (8 * x4_52)) + x5_62)) x4_52)) _ _ _ hf hP hD hS (lv_sub hl [2, 3, 4, 5, 6, 0] rfl)
                        · have hf := ite_f c120 hf
                          refine lv_iload hx hb dX7_builds_123 (lv_at hl 5 rfl) ?_
                          refine lv_if_eq (tgt := 133) hx hb dX7_builds_125 (by decide) (fun c125 => ?_) (fun c125 => ?_)
                          · have hf := ite_t c125 hf
                            refine lv_iload hx hb dX7_builds_133 (lv_at hl 0 rfl) ?_
                            refine lv_goto (tgt := 146) hx hb dX7_builds_135 (by decide) ?_
                            obtain ⟨b146, hf⟩ := gd_some hf
                            refine va_iast (n := 367) (f := z_62 1) hx hb hK hP hD hS 1 0 rfl rfl (ck_in b146) dX7_builds_146 (fun H locs hP hD hS => ?_)
                            have hP : va_P D vwCl ([(za, .inr (7, [.ref z1, .ref z2, .int (z_62 0 2), .ref z3, .ref z4, .int (z_62 0 5), .ref z5, .int (z_62 0 7), .ref z6, .ref z7, .ref z8, .int (z_62 0 11), .int (z_62 0 12), .int (z_62 0 13), .int (z_62 0 14), .ref z9, .int (z_62 0 16)])), (z1, .inl (cI, 367, .inl (upd (z_62 1) (Int32.toNatClampNeg ((3 + (8 * x4_52)) + x5_62)) x4_52))), (z2, .inl (cI, 5872, .inl (z_62 2))), (z3, .inl (cI, 736, .inl (z_62 3))), (z4, .inl (cZ, 2, .inl (z_62 4))), (z5, .inl (cI, 60, .inl (z_62 5))), (z6, .inl (cI, 20, .inl (z_62 6))), (z7, .inl (cI, 20, .inl (z_62 7))), (z8, .inl (cI, 20, .inl (z_62 8))), (z9, .inl (cI, 10, .inl (z_62 9)))]) H := hP
                            have hD : va_D A ([(za, .inr (7, [.ref z1, .ref z2, .int (z_62 0 2), .ref z3, .ref z4, .int (z_62 0 5), .ref z5, .int (z_62 0 7), .ref z6, .ref z7, .ref z8, .int (z_62 0 11), .int (z_62 0 12), .int (z_62 0 13), .int (z_62 0 14), .ref z9, .int (z_62 0 16)])), (z1, .inl (cI, 367, .inl (upd (z_62 1) (Int32.toNatClampNeg ((3 + (8 * x4_52)) + x5_62)) x4_52))), (z2, .inl (cI, 5872, .inl (z_62 2))), (z3, .inl (cI, 736, .inl (z_62 3))), (z4, .inl (cZ, 2, .inl (z_62 4))), (z5, .inl (cI, 60, .inl (z_62 5))), (z6, .inl (cI, 20, .inl (z_62 6))), (z7, .inl (cI, 20, .inl (z_62 7))), (z8, .inl (cI, 20, .inl (z_62 8))), (z9, .inl (cI, 10, .inl (z_62 9)))]) := hD
                            refine lv_iinc (v := x5_62 + 1) (lv' := [(5, .int (x5_62 + 1)), (6, .int x4_52), (0, .ref za), (1, .int x), (2, .int y), (3, .int v), (4, .int x4_52)]) hx hb dX7_builds_147 hl (k := 6) rfl rfl (by decide) rfl (fun ls hl => ?_)
                            refine lv_goto (tgt := 62) hx hb dX7_builds_150 (by decide) ?_
                            exact ih62 (x5_62 + 1) (sA z_62 1 (upd (z_62 1) (Int32.toNatClampNeg ((3 + (8 * x4_52)) + x5_62)) x4_52)) _ _ _ hf hP hD hS (lv_sub hl [2, 3, 4, 5, 6, 0] rfl)
                          · have hf := ite_f c125 hf
                            refine lv_iload hx hb dX7_builds_128 (lv_at hl 6 rfl) ?_
                            refine lv_if_ne (tgt := 138) hx hb dX7_builds_130 (by decide) (fun c130 => ?_) (fun c130 => ?_)
                            · have hf := ite_f c130 hf
                              refine lv_aload_n hx hb dX7_builds_138 rfl (lv_at hl 1 rfl) ?_
                              refine va_get (D := D) (ci := 7) (v := .ref z1) (C := RX7) (T := TX7) (N := 17) hx hb hts inT7 hown hK hP 0 rfl rfl 0 (by decide) (hts _ mT_566) (fun _ h9 => h9) rfl dX7_builds_139 ?_
                              refine lv_iconst (v := 0) hx hb dX7_builds_142 (by decide) ?_
                              refine va_iald (n := 367) (f := z_62 1) hx hb hK hP 1 0 rfl rfl (ck_in (by decide)) dX7_builds_143 ?_
                              refine lv_iconst (v := 1) hx hb dX7_builds_144 (by decide) ?_
                              refine lv_isub hx hb dX7_builds_145 ?_
                              obtain ⟨b146, hf⟩ := gd_some hf
                              refine va_iast (n := 367) (f := z_62 1) hx hb hK hP hD hS 1 0 rfl rfl (ck_in b146) dX7_builds_146 (fun H locs hP hD hS => ?_)
                              have hP : va_P D vwCl ([(za, .inr (7, [.ref z1, .ref z2, .int (z_62 0 2), .ref z3, .ref z4, .int (z_62 0 5), .ref z5, .int (z_62 0 7), .ref z6, .ref z7, .ref z8, .int (z_62 0 11), .int (z_62 0 12), .int (z_62 0 13), .int (z_62 0 14), .ref z9, .int (z_62 0 16)])), (z1, .inl (cI, 367, .inl (upd (z_62 1) (Int32.toNatClampNeg ((3 + (8 * x4_52)) + x5_62)) (((z_62 1) (Int32.toNatClampNeg 0)) - 1)))), (z2, .inl (cI, 5872, .inl (z_62 2))), (z3, .inl (cI, 736, .inl (z_62 3))), (z4, .inl (cZ, 2, .inl (z_62 4))), (z5, .inl (cI, 60, .inl (z_62 5))), (z6, .inl (cI, 20, .inl (z_62 6))), (z7, .inl (cI, 20, .inl (z_62 7))), (z8, .inl (cI, 20, .inl (z_62 8))), (z9, .inl (cI, 10, .inl (z_62 9)))]) H := hP
                              have hD : va_D A ([(za, .inr (7, [.ref z1, .ref z2, .int (z_62 0 2), .ref z3, .ref z4, .int (z_62 0 5), .ref z5, .int (z_62 0 7), .ref z6, .ref z7, .ref z8, .int (z_62 0 11), .int (z_62 0 12), .int (z_62 0 13), .int (z_62 0 14), .ref z9, .int (z_62 0 16)])), (z1, .inl (cI, 367, .inl (upd (z_62 1) (Int32.toNatClampNeg ((3 + (8 * x4_52)) + x5_62)) (((z_62 1) (Int32.toNatClampNeg 0)) - 1)))), (z2, .inl (cI, 5872, .inl (z_62 2))), (z3, .inl (cI, 736, .inl (z_62 3))), (z4, .inl (cZ, 2, .inl (z_62 4))), (z5, .inl (cI, 60, .inl (z_62 5))), (z6, .inl (cI, 20, .inl (z_62 6))), (z7, .inl (cI, 20, .inl (z_62 7))), (z8, .inl (cI, 20, .inl (z_62 8))), (z9, .inl (cI, 10, .inl (z_62 9)))]) := hD
                              refine lv_iinc (v := x5_62 + 1) (lv' := [(5, .int (x5_62 + 1)), (6, .int x4_52), (0, .ref za), (1, .int x), (2, .int y), (3, .int v), (4, .int x4_52)]) hx hb dX7_builds_147 hl (k := 6) rfl rfl (by decide) rfl (fun ls hl => ?_)
                              refine lv_goto (tgt := 62) hx hb dX7_builds_150 (by decide) ?_
                              exact ih62 (x5_62 + 1) (sA z_62 1 (upd (z_62 1) (Int32.toNatClampNeg ((3 + (8 * x4_52)) + x5_62)) (((z_62 1) (Int32.toNatClampNeg 0)) - 1))) _ _ _ hf hP hD hS (lv_sub hl [2, 3, 4, 5, 6, 0] rfl)
                            · have hf := ite_t c130 hf
                              refine lv_iload hx hb dX7_builds_133 (lv_at hl 0 rfl) ?_
                              refine lv_goto (tgt := 146) hx hb dX7_builds_135 (by decide) ?_
                              obtain ⟨b146, hf⟩ := gd_some hf
                              refine va_iast (n := 367) (f := z_62 1) hx hb hK hP hD hS 1 0 rfl rfl (ck_in b146) dX7_builds_146 (fun H locs hP hD hS => ?_)
                              have hP : va_P D vwCl ([(za, .inr (7, [.ref z1, .ref z2, .int (z_62 0 2), .ref z3, .ref z4, .int (z_62 0 5), .ref z5, .int (z_62 0 7), .ref z6, .ref z7, .ref z8, .int (z_62 0 11), .int (z_62 0 12), .int (z_62 0 13), .int (z_62 0 14), .ref z9, .int (z_62 0 16)])), (z1, .inl (cI, 367, .inl (upd (z_62 1) (Int32.toNatClampNeg ((3 + (8 * x4_52)) + x5_62)) x4_52))), (z2, .inl (cI, 5872, .inl (z_62 2))), (z3, .inl (cI, 736, .inl (z_62 3))), (z4, .inl (cZ, 2, .inl (z_62 4))), (z5, .inl (cI, 60, .inl (z_62 5))), (z6, .inl (cI, 20, .inl (z_62 6))), (z7, .inl (cI, 20, .inl (z_62 7))), (z8, .inl (cI, 20, .inl (z_62 8))), (z9, .inl (cI, 10, .inl (z_62 9)))]) H := hP
                              have hD : va_D A ([(za, .inr (7, [.ref z1, .ref z2, .int (z_62 0 2), .ref z3, .ref z4, .int (z_62 0 5), .ref z5, .int (z_62 0 7), .ref z6, .ref z7, .ref z8, .int (z_62 0 11), .int (z_62 0 12), .int (z_62 0 13), .int (z_62 0 14), .ref z9, .int (z_62 0 16)])), (z1, .inl (cI, 367, .inl (upd (z_62 1) (Int32.toNatClampNeg ((3 + (8 * x4_52)) + x5_62)) x4_52))), (z2, .inl (cI, 5872, .inl (z_62 2))), (z3, .inl (cI, 736, .inl (z_62 3))), (z4, .inl (cZ, 2, .inl (z_62 4))), (z5, .inl (cI, 60, .inl (z_62 5))), (z6, .inl (cI, 20, .inl (z_62 6))), (z7, .inl (cI, 20, .inl (z_62 7))), (z8, .inl (cI, 20, .inl (z_62 8))), (z9, .inl (cI, 10, .inl (z_62 9)))]) := hD
                              refine lv_iinc (v := x5_62 + 1) (lv' := [(5, .int (x5_62 + 1)), (6, .int x4_52), (0, .ref za), (1, .int x), (2, .int y), (3, .int v), (4, .int x4_52)]) hx hb dX7_builds_147 hl (k := 6) rfl rfl (by decide) rfl (fun ls hl => ?_)
                              refine lv_goto (tgt := 62) hx hb dX7_builds_150 (by decide) ?_
                              exact ih62 (x5_62 + 1) (sA z_62 1 (upd (z_62 1) (Int32.toNatClampNeg ((3 + (8 * x4_52)) + x5_62)) x4_52)) _ _ _ hf hP hD hS (lv_sub hl [2, 3, 4, 5, 6, 0] rfl)
                    · have hf := ite_t c101 hf
                      refine lv_iload hx hb dX7_builds_104 (lv_at hl 5 rfl) ?_
                      refine lv_iload hx hb dX7_builds_106 (lv_at hl 6 rfl) ?_
                      refine lv_ior hx hb dX7_builds_108 ?_
                      refine lv_goto (tgt := 146) hx hb dX7_builds_109 (by decide) ?_
                      obtain ⟨b146, hf⟩ := gd_some hf
                      refine va_iast (n := 367) (f := z_62 1) hx hb hK hP hD hS 1 0 rfl rfl (ck_in b146) dX7_builds_146 (fun H locs hP hD hS => ?_)
                      have hP : va_P D vwCl ([(za, .inr (7, [.ref z1, .ref z2, .int (z_62 0 2), .ref z3, .ref z4, .int (z_62 0 5), .ref z5, .int (z_62 0 7), .ref z6, .ref z7, .ref z8, .int (z_62 0 11), .int (z_62 0 12), .int (z_62 0 13), .int (z_62 0 14), .ref z9, .int (z_62 0 16)])), (z1, .inl (cI, 367, .inl (upd (z_62 1) (Int32.toNatClampNeg ((3 + (8 * x4_52)) + x5_62)) (x4_52 ||| x5_62)))), (z2, .inl (cI, 5872, .inl (z_62 2))), (z3, .inl (cI, 736, .inl (z_62 3))), (z4, .inl (cZ, 2, .inl (z_62 4))), (z5, .inl (cI, 60, .inl (z_62 5))), (z6, .inl (cI, 20, .inl (z_62 6))), (z7, .inl (cI, 20, .inl (z_62 7))), (z8, .inl (cI, 20, .inl (z_62 8))), (z9, .inl (cI, 10, .inl (z_62 9)))]) H := hP
                      have hD : va_D A ([(za, .inr (7, [.ref z1, .ref z2, .int (z_62 0 2), .ref z3, .ref z4, .int (z_62 0 5), .ref z5, .int (z_62 0 7), .ref z6, .ref z7, .ref z8, .int (z_62 0 11), .int (z_62 0 12), .int (z_62 0 13), .int (z_62 0 14), .ref z9, .int (z_62 0 16)])), (z1, .inl (cI, 367, .inl (upd (z_62 1) (Int32.toNatClampNeg ((3 + (8 * x4_52)) + x5_62)) (x4_52 ||| x5_62)))), (z2, .inl (cI, 5872, .inl (z_62 2))), (z3, .inl (cI, 736, .inl (z_62 3))), (z4, .inl (cZ, 2, .inl (z_62 4))), (z5, .inl (cI, 60, .inl (z_62 5))), (z6, .inl (cI, 20, .inl (z_62 6))), (z7, .inl (cI, 20, .inl (z_62 7))), (z8, .inl (cI, 20, .inl (z_62 8))), (z9, .inl (cI, 10, .inl (z_62 9)))]) := hD
                      refine lv_iinc (v := x5_62 + 1) (lv' := [(5, .int (x5_62 + 1)), (6, .int x4_52), (0, .ref za), (1, .int x), (2, .int y), (3, .int v), (4, .int x4_52)]) hx hb dX7_builds_147 hl (k := 6) rfl rfl (by decide) rfl (fun ls hl => ?_)
                      refine lv_goto (tgt := 62) hx hb dX7_builds_150 (by decide) ?_
                      exact ih62 (x5_62 + 1) (sA z_62 1 (upd (z_62 1) (Int32.toNatClampNeg ((3 + (8 * x4_52)) + x5_62)) (x4_52 ||| x5_62))) _ _ _ hf hP hD hS (lv_sub hl [2, 3, 4, 5, 6, 0] rfl)
            exact lh62 10000 0 z_52 _ _ _ hf hP hD hS (lv_sub hl [1, 2, 3, 4, 5, 0] rfl)
      exact lh52 10000 0 (sA (sA z_3 1 (upd (z_3 1) (Int32.toNatClampNeg 0) y)) 1 (upd (upd (z_3 1) (Int32.toNatClampNeg 0) y) (Int32.toNatClampNeg 1) v)) _ _ _ hf hP hD hS (lv_sub hl [1, 2, 3, 4, 0] rfl)
    · have hf := ite_t c32 hf
      refine lv_bipush (v := 8) hx hb dX7_builds_35 (by decide) ?_
      refine lv_goto (tgt := 41) hx hb dX7_builds_37 (by decide) ?_
      refine va_iast (n := 367) (f := z_3 1) hx hb hK hP hD hS 1 0 rfl rfl (ck_in (by decide)) dX7_builds_41 (fun H locs hP hD hS => ?_)
      have hP : va_P D vwCl ([(za, .inr (7, [.ref z1, .ref z2, .int (z_3 0 2), .ref z3, .ref z4, .int (z_3 0 5), .ref z5, .int (z_3 0 7), .ref z6, .ref z7, .ref z8, .int (z_3 0 11), .int (z_3 0 12), .int (z_3 0 13), .int (z_3 0 14), .ref z9, .int (z_3 0 16)])), (z1, .inl (cI, 367, .inl (upd (z_3 1) (Int32.toNatClampNeg 0) 8))), (z2, .inl (cI, 5872, .inl (z_3 2))), (z3, .inl (cI, 736, .inl (z_3 3))), (z4, .inl (cZ, 2, .inl (z_3 4))), (z5, .inl (cI, 60, .inl (z_3 5))), (z6, .inl (cI, 20, .inl (z_3 6))), (z7, .inl (cI, 20, .inl (z_3 7))), (z8, .inl (cI, 20, .inl (z_3 8))), (z9, .inl (cI, 10, .inl (z_3 9)))]) H := hP
      have hD : va_D A ([(za, .inr (7, [.ref z1, .ref z2, .int (z_3 0 2), .ref z3, .ref z4, .int (z_3 0 5), .ref z5, .int (z_3 0 7), .ref z6, .ref z7, .ref z8, .int (z_3 0 11), .int (z_3 0 12), .int (z_3 0 13), .int (z_3 0 14), .ref z9, .int (z_3 0 16)])), (z1, .inl (cI, 367, .inl (upd (z_3 1) (Int32.toNatClampNeg 0) 8))), (z2, .inl (cI, 5872, .inl (z_3 2))), (z3, .inl (cI, 736, .inl (z_3 3))), (z4, .inl (cZ, 2, .inl (z_3 4))), (z5, .inl (cI, 60, .inl (z_3 5))), (z6, .inl (cI, 20, .inl (z_3 6))), (z7, .inl (cI, 20, .inl (z_3 7))), (z8, .inl (cI, 20, .inl (z_3 8))), (z9, .inl (cI, 10, .inl (z_3 9)))]) := hD
      refine lv_aload_n hx hb dX7_builds_42 rfl (lv_at hl 0 rfl) ?_
      refine va_get (D := D) (ci := 7) (v := .ref z1) (C := RX7) (T := TX7) (N := 17) hx hb hts inT7 hown hK hP 0 rfl rfl 0 (by decide) (hts _ mT_566) (fun _ h9 => h9) rfl dX7_builds_43 ?_
      refine lv_iconst (v := 1) hx hb dX7_builds_46 (by decide) ?_
      refine lv_iload_n hx hb dX7_builds_47 rfl (lv_at hl 3 rfl) ?_
      refine va_iast (n := 367) (f := upd (z_3 1) (Int32.toNatClampNeg 0) 8) hx hb hK hP hD hS 1 0 rfl rfl (ck_in (by decide)) dX7_builds_48 (fun H locs hP hD hS => ?_)
      have hP : va_P D vwCl ([(za, .inr (7, [.ref z1, .ref z2, .int (z_3 0 2), .ref z3, .ref z4, .int (z_3 0 5), .ref z5, .int (z_3 0 7), .ref z6, .ref z7, .ref z8, .int (z_3 0 11), .int (z_3 0 12), .int (z_3 0 13), .int (z_3 0 14), .ref z9, .int (z_3 0 16)])), (z1, .inl (cI, 367, .inl (upd (upd (z_3 1) (Int32.toNatClampNeg 0) 8) (Int32.toNatClampNeg 1) v))), (z2, .inl (cI, 5872, .inl (z_3 2))), (z3, .inl (cI, 736, .inl (z_3 3))), (z4, .inl (cZ, 2, .inl (z_3 4))), (z5, .inl (cI, 60, .inl (z_3 5))), (z6, .inl (cI, 20, .inl (z_3 6))), (z7, .inl (cI, 20, .inl (z_3 7))), (z8, .inl (cI, 20, .inl (z_3 8))), (z9, .inl (cI, 10, .inl (z_3 9)))]) H := hP
      have hD : va_D A ([(za, .inr (7, [.ref z1, .ref z2, .int (z_3 0 2), .ref z3, .ref z4, .int (z_3 0 5), .ref z5, .int (z_3 0 7), .ref z6, .ref z7, .ref z8, .int (z_3 0 11), .int (z_3 0 12), .int (z_3 0 13), .int (z_3 0 14), .ref z9, .int (z_3 0 16)])), (z1, .inl (cI, 367, .inl (upd (upd (z_3 1) (Int32.toNatClampNeg 0) 8) (Int32.toNatClampNeg 1) v))), (z2, .inl (cI, 5872, .inl (z_3 2))), (z3, .inl (cI, 736, .inl (z_3 3))), (z4, .inl (cZ, 2, .inl (z_3 4))), (z5, .inl (cI, 60, .inl (z_3 5))), (z6, .inl (cI, 20, .inl (z_3 6))), (z7, .inl (cI, 20, .inl (z_3 7))), (z8, .inl (cI, 20, .inl (z_3 8))), (z9, .inl (cI, 10, .inl (z_3 9)))]) := hD
      refine lv_iconst (v := 0) hx hb dX7_builds_49 (by decide) ?_
      refine lv_istore (lv' := [(4, .int 0), (0, .ref za), (1, .int x), (2, .int y), (3, .int v)]) hx hb dX7_builds_50 hl (by decide) rfl (fun ls hl => ?_)
      have kx52 : ∀ (x4_52 : Int32) (z_52 : Ob) (H : Heap) (locs : List Loc) (ls : Array Slot), k_m_builds_52 x4_52 z_52 = some u → va_P D vwCl (cModel cI cZ za z1 z2 z3 z4 z5 z6 z7 z8 z9 z_52) H → va_D A (cModel cI cZ za z1 z2 z3 z4 z5 z6 z7 z8 z9 z_52) → va_S A s.heap H locs → lv_has ls 7 [(0, .ref za), (1, .int x), (2, .int y), (3, .int v), (4, .int x4_52)] → W p l e ({ frames := 0, cells := 0, slots := 0, locals := 0 } : Room) s m ([.ref za, .int x, .int y, .int v] : List Value).toArray below meth c H locs 0 0 Q (F0 m 159 ls []) := by
        intro x4_52 z_52 H locs ls hf hP hD hS hl
        rw [k_m_builds_52] at hf
        exact hret _ _ z_52 _ _ hf dX7_builds_159 hP hD hS
      have lh52 : ∀ (fu52 : Nat) (x4_52 : Int32) (z_52 : Ob) (H : Heap) (locs : List Loc) (ls : Array Slot), lp_m_builds_52 x k_m_builds_52 fu52 x4_52 z_52 = some u → va_P D vwCl (cModel cI cZ za z1 z2 z3 z4 z5 z6 z7 z8 z9 z_52) H → va_D A (cModel cI cZ za z1 z2 z3 z4 z5 z6 z7 z8 z9 z_52) → va_S A s.heap H locs → lv_has ls 7 [(0, .ref za), (1, .int x), (2, .int y), (3, .int v), (4, .int x4_52)] → W p l e ({ frames := 0, cells := 0, slots := 0, locals := 0 } : Room) s m ([.ref za, .int x, .int y, .int v] : List Value).toArray below meth c H locs 0 0 Q (F0 m 52 ls []) := by
        intro fu52
        induction fu52 with
        | zero => intro x4_52 z_52 H locs ls hf hP hD hS hl; exact no_none hf
        | succ fu52 ih52 =>
          intro x4_52 z_52 H locs ls hf hP hD hS hl
          rw [lp_m_builds_52] at hf
          refine lv_iload hx hb dX7_builds_52 (lv_at hl 4 rfl) ?_
          refine lv_bipush (v := 8) hx hb dX7_builds_54 (by decide) ?_
          refine lv_icmp_ge (tgt := 159) hx hb dX7_builds_56 (by decide) (fun c56 => ?_) (fun c56 => ?_)
          · have hf := ite_t c56 hf
            exact kx52 x4_52 z_52 _ _ _ hf hP hD hS (lv_sub hl [0, 1, 2, 3, 4] rfl)
          · have hf := ite_f c56 hf
            refine lv_iconst (v := 0) hx hb dX7_builds_59 (by decide) ?_
            refine lv_istore (lv' := [(5, .int 0), (0, .ref za), (1, .int x), (2, .int y), (3, .int v), (4, .int x4_52)]) hx hb dX7_builds_60 hl (by decide) rfl (fun ls hl => ?_)
            have kx62 : ∀ (x5_62 : Int32) (z_62 : Ob) (H : Heap) (locs : List Loc) (ls : Array Slot), (k_m_builds_62 x4_52 ((lp_m_builds_52 x k_m_builds_52 fu52))) x5_62 z_62 = some u → va_P D vwCl (cModel cI cZ za z1 z2 z3 z4 z5 z6 z7 z8 z9 z_62) H → va_D A (cModel cI cZ za z1 z2 z3 z4 z5 z6 z7 z8 z9 z_62) → va_S A s.heap H locs → lv_has ls 7 [(0, .ref za), (1, .int x), (2, .int y), (3, .int v), (4, .int x4_52), (5, .int x5_62)] → W p l e ({ frames := 0, cells := 0, slots := 0, locals := 0 } : Room) s m ([.ref za, .int x, .int y, .int v] : List Value).toArray below meth c H locs 0 0 Q (F0 m 153 ls []) := by
              intro x5_62 z_62 H locs ls hf hP hD hS hl
              rw [k_m_builds_62] at hf
              refine lv_iinc (v := x4_52 + 1) (lv' := [(4, .int (x4_52 + 1)), (0, .ref za), (1, .int x), (2, .int y), (3, .int v), (5, .int x5_62)]) hx hb dX7_builds_153 hl (k := 4) rfl rfl (by decide) rfl (fun ls hl => ?_)
              refine lv_goto (tgt := 52) hx hb dX7_builds_156 (by decide) ?_
              exact ih52 (x4_52 + 1) z_62 _ _ _ hf hP hD hS (lv_sub hl [1, 2, 3, 4, 0] rfl)
            have lh62 : ∀ (fu62 : Nat) (x5_62 : Int32) (z_62 : Ob) (H : Heap) (locs : List Loc) (ls : Array Slot), lp_m_builds_62 x x4_52 (k_m_builds_62 x4_52 ((lp_m_builds_52 x k_m_builds_52 fu52))) fu62 x5_62 z_62 = some u → va_P D vwCl (cModel cI cZ za z1 z2 z3 z4 z5 z6 z7 z8 z9 z_62) H → va_D A (cModel cI cZ za z1 z2 z3 z4 z5 z6 z7 z8 z9 z_62) → va_S A s.heap H locs → lv_has ls 7 [(0, .ref za), (1, .int x), (2, .int y), (3, .int v), (4, .int x4_52), (5, .int x5_62)] → W p l e ({ frames := 0, cells := 0, slots := 0, locals := 0 } : Room) s m ([.ref za, .int x, .int y, .int v] : List Value).toArray below meth c H locs 0 0 Q (F0 m 62 ls []) := by
              intro fu62
              induction fu62 with
              | zero => intro x5_62 z_62 H locs ls hf hP hD hS hl; exact no_none hf
              | succ fu62 ih62 =>
                intro x5_62 z_62 H locs ls hf hP hD hS hl
                rw [lp_m_builds_62] at hf
                refine lv_iload hx hb dX7_builds_62 (lv_at hl 5 rfl) ?_
                refine lv_bipush (v := 8) hx hb dX7_builds_64 (by decide) ?_
                refine lv_icmp_ge (tgt := 153) hx hb dX7_builds_66 (by decide) (fun c66 => ?_) (fun c66 => ?_)
                · have hf := ite_t c66 hf
                  exact kx62 x5_62 z_62 _ _ _ hf hP hD hS (lv_sub hl [0, 1, 2, 3, 4, 5] rfl)
                · have hf := ite_f c66 hf
                  refine lv_iload hx hb dX7_builds_69 (lv_at hl 4 rfl) ?_
                  refine lv_iload hx hb dX7_builds_71 (lv_at hl 5 rfl) ?_
                  refine lv_icmp_le (tgt := 81) hx hb dX7_builds_73 (by decide) (fun c73 => ?_) (fun c73 => ?_)
                  · have hf := ite_t c73 hf
                    refine lv_iload hx hb dX7_builds_81 (lv_at hl 5 rfl) ?_
                    refine lv_istore (lv' := [(6, .int x5_62), (0, .ref za), (1, .int x), (2, .int y), (3, .int v), (4, .int x4_52), (5, .int x5_62)]) hx hb dX7_builds_83 hl (by decide) rfl (fun ls hl => ?_)
                    refine lv_aload_n hx hb dX7_builds_85 rfl (lv_at hl 1 rfl) ?_
                    refine va_get (D := D) (ci := 7) (v := .ref z1) (C := RX7) (T := TX7) (N := 17) hx hb hts inT7 hown hK hP 0 rfl rfl 0 (by decide) (hts _ mT_566) (fun _ h9 => h9) rfl dX7_builds_86 ?_
                    refine lv_iconst (v := 3) hx hb dX7_builds_89 (by decide) ?_
                    refine lv_bipush (v := 8) hx hb dX7_builds_90 (by decide) ?_
                    refine lv_iload hx hb dX7_builds_92 (lv_at hl 5 rfl) ?_
                    refine lv_imul hx hb dX7_builds_94 ?_
                    refine lv_iadd hx hb dX7_builds_95 ?_
                    refine lv_iload hx hb dX7_builds_96 (lv_at hl 6 rfl) ?_
                    refine lv_iadd hx hb dX7_builds_98 ?_
                    refine lv_iload_n hx hb dX7_builds_99 rfl (lv_at hl 2 rfl) ?_
                    refine lv_iconst (v := 2) hx hb dX7_builds_100 (by decide) ?_
                    refine lv_icmp_ne (tgt := 112) hx hb dX7_builds_101 (by decide) (fun c101 => ?_) (fun c101 => ?_)
                    · have hf := ite_f c101 hf
                      refine lv_iload_n hx hb dX7_builds_112 rfl (lv_at hl 2 rfl) ?_
                      refine lv_if_eq (tgt := 133) hx hb dX7_builds_113 (by decide) (fun c113 => ?_) (fun c113 => ?_)
                      · have hf := ite_t c113 hf
                        refine lv_iload hx hb dX7_builds_133 (lv_at hl 0 rfl) ?_
                        refine lv_goto (tgt := 146) hx hb dX7_builds_135 (by decide) ?_
                        obtain ⟨b146, hf⟩ := gd_some hf
                        refine va_iast (n := 367) (f := z_62 1) hx hb hK hP hD hS 1 0 rfl rfl (ck_in b146) dX7_builds_146 (fun H locs hP hD hS => ?_)
                        have hP : va_P D vwCl ([(za, .inr (7, [.ref z1, .ref z2, .int (z_62 0 2), .ref z3, .ref z4, .int (z_62 0 5), .ref z5, .int (z_62 0 7), .ref z6, .ref z7, .ref z8, .int (z_62 0 11), .int (z_62 0 12), .int (z_62 0 13), .int (z_62 0 14), .ref z9, .int (z_62 0 16)])), (z1, .inl (cI, 367, .inl (upd (z_62 1) (Int32.toNatClampNeg ((3 + (8 * x4_52)) + x5_62)) x5_62))), (z2, .inl (cI, 5872, .inl (z_62 2))), (z3, .inl (cI, 736, .inl (z_62 3))), (z4, .inl (cZ, 2, .inl (z_62 4))), (z5, .inl (cI, 60, .inl (z_62 5))), (z6, .inl (cI, 20, .inl (z_62 6))), (z7, .inl (cI, 20, .inl (z_62 7))), (z8, .inl (cI, 20, .inl (z_62 8))), (z9, .inl (cI, 10, .inl (z_62 9)))]) H := hP
                        have hD : va_D A ([(za, .inr (7, [.ref z1, .ref z2, .int (z_62 0 2), .ref z3, .ref z4, .int (z_62 0 5), .ref z5, .int (z_62 0 7), .ref z6, .ref z7, .ref z8, .int (z_62 0 11), .int (z_62 0 12), .int (z_62 0 13), .int (z_62 0 14), .ref z9, .int (z_62 0 16)])), (z1, .inl (cI, 367, .inl (upd (z_62 1) (Int32.toNatClampNeg ((3 + (8 * x4_52)) + x5_62)) x5_62))), (z2, .inl (cI, 5872, .inl (z_62 2))), (z3, .inl (cI, 736, .inl (z_62 3))), (z4, .inl (cZ, 2, .inl (z_62 4))), (z5, .inl (cI, 60, .inl (z_62 5))), (z6, .inl (cI, 20, .inl (z_62 6))), (z7, .inl (cI, 20, .inl (z_62 7))), (z8, .inl (cI, 20, .inl (z_62 8))), (z9, .inl (cI, 10, .inl (z_62 9)))]) := hD
                        refine lv_iinc (v := x5_62 + 1) (lv' := [(5, .int (x5_62 + 1)), (6, .int x5_62), (0, .ref za), (1, .int x), (2, .int y), (3, .int v), (4, .int x4_52)]) hx hb dX7_builds_147 hl (k := 6) rfl rfl (by decide) rfl (fun ls hl => ?_)
                        refine lv_goto (tgt := 62) hx hb dX7_builds_150 (by decide) ?_
                        exact ih62 (x5_62 + 1) (sA z_62 1 (upd (z_62 1) (Int32.toNatClampNeg ((3 + (8 * x4_52)) + x5_62)) x5_62)) _ _ _ hf hP hD hS (lv_sub hl [2, 3, 4, 5, 6, 0] rfl)
                      · have hf := ite_f c113 hf
                        refine lv_iload hx hb dX7_builds_116 (lv_at hl 5 rfl) ?_
                        refine lv_iload hx hb dX7_builds_118 (lv_at hl 6 rfl) ?_
                        refine lv_icmp_eq (tgt := 133) hx hb dX7_builds_120 (by decide) (fun c120 => ?_) (fun c120 => ?_)
                        · have hf := ite_t c120 hf
                          refine lv_iload hx hb dX7_builds_133 (lv_at hl 0 rfl) ?_
                          refine lv_goto (tgt := 146) hx hb dX7_builds_135 (by decide) ?_
                          obtain ⟨b146, hf⟩ := gd_some hf
                          refine va_iast (n := 367) (f := z_62 1) hx hb hK hP hD hS 1 0 rfl rfl (ck_in b146) dX7_builds_146 (fun H locs hP hD hS => ?_)
                          have hP : va_P D vwCl ([(za, .inr (7, [.ref z1, .ref z2, .int (z_62 0 2), .ref z3, .ref z4, .int (z_62 0 5), .ref z5, .int (z_62 0 7), .ref z6, .ref z7, .ref z8, .int (z_62 0 11), .int (z_62 0 12), .int (z_62 0 13), .int (z_62 0 14), .ref z9, .int (z_62 0 16)])), (z1, .inl (cI, 367, .inl (upd (z_62 1) (Int32.toNatClampNeg ((3 + (8 * x4_52)) + x5_62)) x5_62))), (z2, .inl (cI, 5872, .inl (z_62 2))), (z3, .inl (cI, 736, .inl (z_62 3))), (z4, .inl (cZ, 2, .inl (z_62 4))), (z5, .inl (cI, 60, .inl (z_62 5))), (z6, .inl (cI, 20, .inl (z_62 6))), (z7, .inl (cI, 20, .inl (z_62 7))), (z8, .inl (cI, 20, .inl (z_62 8))), (z9, .inl (cI, 10, .inl (z_62 9)))]) H := hP
                          have hD : va_D A ([(za, .inr (7, [.ref z1, .ref z2, .int (z_62 0 2), .ref z3, .ref z4, .int (z_62 0 5), .ref z5, .int (z_62 0 7), .ref z6, .ref z7, .ref z8, .int (z_62 0 11), .int (z_62 0 12), .int (z_62 0 13), .int (z_62 0 14), .ref z9, .int (z_62 0 16)])), (z1, .inl (cI, 367, .inl (upd (z_62 1) (Int32.toNatClampNeg ((3 + (8 * x4_52)) + x5_62)) x5_62))), (z2, .inl (cI, 5872, .inl (z_62 2))), (z3, .inl (cI, 736, .inl (z_62 3))), (z4, .inl (cZ, 2, .inl (z_62 4))), (z5, .inl (cI, 60, .inl (z_62 5))), (z6, .inl (cI, 20, .inl (z_62 6))), (z7, .inl (cI, 20, .inl (z_62 7))), (z8, .inl (cI, 20, .inl (z_62 8))), (z9, .inl (cI, 10, .inl (z_62 9)))]) := hD
                          refine lv_iinc (v := x5_62 + 1) (lv' := [(5, .int (x5_62 + 1)), (6, .int x5_62), (0, .ref za), (1, .int x), (2, .int y), (3, .int v), (4, .int x4_52)]) hx hb dX7_builds_147 hl (k := 6) rfl rfl (by decide) rfl (fun ls hl => ?_)
                          refine lv_goto (tgt := 62) hx hb dX7_builds_150 (by decide) ?_
                          exact ih62 (x5_62 + 1) (sA z_62 1 (upd (z_62 1) (Int32.toNatClampNeg ((3 + (8 * x4_52)) + x5_62)) x5_62)) _ _ _ hf hP hD hS (lv_sub hl [2, 3, 4, 5, 6, 0] rfl)
                        · have hf := ite_f c120 hf
                          refine lv_iload hx hb dX7_builds_123 (lv_at hl 5 rfl) ?_
                          refine lv_if_eq (tgt := 133) hx hb dX7_builds_125 (by decide) (fun c125 => ?_) (fun c125 => ?_)
                          · have hf := ite_t c125 hf
                            refine lv_iload hx hb dX7_builds_133 (lv_at hl 0 rfl) ?_
                            refine lv_goto (tgt := 146) hx hb dX7_builds_135 (by decide) ?_
                            obtain ⟨b146, hf⟩ := gd_some hf
                            refine va_iast (n := 367) (f := z_62 1) hx hb hK hP hD hS 1 0 rfl rfl (ck_in b146) dX7_builds_146 (fun H locs hP hD hS => ?_)
                            have hP : va_P D vwCl ([(za, .inr (7, [.ref z1, .ref z2, .int (z_62 0 2), .ref z3, .ref z4, .int (z_62 0 5), .ref z5, .int (z_62 0 7), .ref z6, .ref z7, .ref z8, .int (z_62 0 11), .int (z_62 0 12), .int (z_62 0 13), .int (z_62 0 14), .ref z9, .int (z_62 0 16)])), (z1, .inl (cI, 367, .inl (upd (z_62 1) (Int32.toNatClampNeg ((3 + (8 * x4_52)) + x5_62)) x5_62))), (z2, .inl (cI, 5872, .inl (z_62 2))), (z3, .inl (cI, 736, .inl (z_62 3))), (z4, .inl (cZ, 2, .inl (z_62 4))), (z5, .inl (cI, 60, .inl (z_62 5))), (z6, .inl (cI, 20, .inl (z_62 6))), (z7, .inl (cI, 20, .inl (z_62 7))), (z8, .inl (cI, 20, .inl (z_62 8))), (z9, .inl (cI, 10, .inl (z_62 9)))]) H := hP
                            have hD : va_D A ([(za, .inr (7, [.ref z1, .ref z2, .int (z_62 0 2), .ref z3, .ref z4, .int (z_62 0 5), .ref z5, .int (z_62 0 7), .ref z6, .ref z7, .ref z8, .int (z_62 0 11), .int (z_62 0 12), .int (z_62 0 13), .int (z_62 0 14), .ref z9, .int (z_62 0 16)])), (z1, .inl (cI, 367, .inl (upd (z_62 1) (Int32.toNatClampNeg ((3 + (8 * x4_52)) + x5_62)) x5_62))), (z2, .inl (cI, 5872, .inl (z_62 2))), (z3, .inl (cI, 736, .inl (z_62 3))), (z4, .inl (cZ, 2, .inl (z_62 4))), (z5, .inl (cI, 60, .inl (z_62 5))), (z6, .inl (cI, 20, .inl (z_62 6))), (z7, .inl (cI, 20, .inl (z_62 7))), (z8, .inl (cI, 20, .inl (z_62 8))), (z9, .inl (cI, 10, .inl (z_62 9)))]) := hD
                            refine lv_iinc (v := x5_62 + 1) (lv' := [(5, .int (x5_62 + 1)), (6, .int x5_62), (0, .ref za), (1, .int x), (2, .int y), (3, .int v), (4, .int x4_52)]) hx hb dX7_builds_147 hl (k := 6) rfl rfl (by decide) rfl (fun ls hl => ?_)
                            refine lv_goto (tgt := 62) hx hb dX7_builds_150 (by decide) ?_
                            exact ih62 (x5_62 + 1) (sA z_62 1 (upd (z_62 1) (Int32.toNatClampNeg ((3 + (8 * x4_52)) + x5_62)) x5_62)) _ _ _ hf hP hD hS (lv_sub hl [2, 3, 4, 5, 6, 0] rfl)
                          · have hf := ite_f c125 hf
                            refine lv_iload hx hb dX7_builds_128 (lv_at hl 6 rfl) ?_
                            refine lv_if_ne (tgt := 138) hx hb dX7_builds_130 (by decide) (fun c130 => ?_) (fun c130 => ?_)
                            · have hf := ite_f c130 hf
                              refine lv_aload_n hx hb dX7_builds_138 rfl (lv_at hl 1 rfl) ?_
                              refine va_get (D := D) (ci := 7) (v := .ref z1) (C := RX7) (T := TX7) (N := 17) hx hb hts inT7 hown hK hP 0 rfl rfl 0 (by decide) (hts _ mT_566) (fun _ h9 => h9) rfl dX7_builds_139 ?_
                              refine lv_iconst (v := 0) hx hb dX7_builds_142 (by decide) ?_
                              refine va_iald (n := 367) (f := z_62 1) hx hb hK hP 1 0 rfl rfl (ck_in (by decide)) dX7_builds_143 ?_
                              refine lv_iconst (v := 1) hx hb dX7_builds_144 (by decide) ?_
                              refine lv_isub hx hb dX7_builds_145 ?_
                              obtain ⟨b146, hf⟩ := gd_some hf
                              refine va_iast (n := 367) (f := z_62 1) hx hb hK hP hD hS 1 0 rfl rfl (ck_in b146) dX7_builds_146 (fun H locs hP hD hS => ?_)
                              have hP : va_P D vwCl ([(za, .inr (7, [.ref z1, .ref z2, .int (z_62 0 2), .ref z3, .ref z4, .int (z_62 0 5), .ref z5, .int (z_62 0 7), .ref z6, .ref z7, .ref z8, .int (z_62 0 11), .int (z_62 0 12), .int (z_62 0 13), .int (z_62 0 14), .ref z9, .int (z_62 0 16)])), (z1, .inl (cI, 367, .inl (upd (z_62 1) (Int32.toNatClampNeg ((3 + (8 * x4_52)) + x5_62)) (((z_62 1) (Int32.toNatClampNeg 0)) - 1)))), (z2, .inl (cI, 5872, .inl (z_62 2))), (z3, .inl (cI, 736, .inl (z_62 3))), (z4, .inl (cZ, 2, .inl (z_62 4))), (z5, .inl (cI, 60, .inl (z_62 5))), (z6, .inl (cI, 20, .inl (z_62 6))), (z7, .inl (cI, 20, .inl (z_62 7))), (z8, .inl (cI, 20, .inl (z_62 8))), (z9, .inl (cI, 10, .inl (z_62 9)))]) H := hP
                              have hD : va_D A ([(za, .inr (7, [.ref z1, .ref z2, .int (z_62 0 2), .ref z3, .ref z4, .int (z_62 0 5), .ref z5, .int (z_62 0 7), .ref z6, .ref z7, .ref z8, .int (z_62 0 11), .int (z_62 0 12), .int (z_62 0 13), .int (z_62 0 14), .ref z9, .int (z_62 0 16)])), (z1, .inl (cI, 367, .inl (upd (z_62 1) (Int32.toNatClampNeg ((3 + (8 * x4_52)) + x5_62)) (((z_62 1) (Int32.toNatClampNeg 0)) - 1)))), (z2, .inl (cI, 5872, .inl (z_62 2))), (z3, .inl (cI, 736, .inl (z_62 3))), (z4, .inl (cZ, 2, .inl (z_62 4))), (z5, .inl (cI, 60, .inl (z_62 5))), (z6, .inl (cI, 20, .inl (z_62 6))), (z7, .inl (cI, 20, .inl (z_62 7))), (z8, .inl (cI, 20, .inl (z_62 8))), (z9, .inl (cI, 10, .inl (z_62 9)))]) := hD
                              refine lv_iinc (v := x5_62 + 1) (lv' := [(5, .int (x5_62 + 1)), (6, .int x5_62), (0, .ref za), (1, .int x), (2, .int y), (3, .int v), (4, .int x4_52)]) hx hb dX7_builds_147 hl (k := 6) rfl rfl (by decide) rfl (fun ls hl => ?_)
                              refine lv_goto (tgt := 62) hx hb dX7_builds_150 (by decide) ?_
                              exact ih62 (x5_62 + 1) (sA z_62 1 (upd (z_62 1) (Int32.toNatClampNeg ((3 + (8 * x4_52)) + x5_62)) (((z_62 1) (Int32.toNatClampNeg 0)) - 1))) _ _ _ hf hP hD hS (lv_sub hl [2, 3, 4, 5, 6, 0] rfl)
                            · have hf := ite_t c130 hf
                              refine lv_iload hx hb dX7_builds_133 (lv_at hl 0 rfl) ?_
                              refine lv_goto (tgt := 146) hx hb dX7_builds_135 (by decide) ?_
                              obtain ⟨b146, hf⟩ := gd_some hf
                              refine va_iast (n := 367) (f := z_62 1) hx hb hK hP hD hS 1 0 rfl rfl (ck_in b146) dX7_builds_146 (fun H locs hP hD hS => ?_)
                              have hP : va_P D vwCl ([(za, .inr (7, [.ref z1, .ref z2, .int (z_62 0 2), .ref z3, .ref z4, .int (z_62 0 5), .ref z5, .int (z_62 0 7), .ref z6, .ref z7, .ref z8, .int (z_62 0 11), .int (z_62 0 12), .int (z_62 0 13), .int (z_62 0 14), .ref z9, .int (z_62 0 16)])), (z1, .inl (cI, 367, .inl (upd (z_62 1) (Int32.toNatClampNeg ((3 + (8 * x4_52)) + x5_62)) x5_62))), (z2, .inl (cI, 5872, .inl (z_62 2))), (z3, .inl (cI, 736, .inl (z_62 3))), (z4, .inl (cZ, 2, .inl (z_62 4))), (z5, .inl (cI, 60, .inl (z_62 5))), (z6, .inl (cI, 20, .inl (z_62 6))), (z7, .inl (cI, 20, .inl (z_62 7))), (z8, .inl (cI, 20, .inl (z_62 8))), (z9, .inl (cI, 10, .inl (z_62 9)))]) H := hP
                              have hD : va_D A ([(za, .inr (7, [.ref z1, .ref z2, .int (z_62 0 2), .ref z3, .ref z4, .int (z_62 0 5), .ref z5, .int (z_62 0 7), .ref z6, .ref z7, .ref z8, .int (z_62 0 11), .int (z_62 0 12), .int (z_62 0 13), .int (z_62 0 14), .ref z9, .int (z_62 0 16)])), (z1, .inl (cI, 367, .inl (upd (z_62 1) (Int32.toNatClampNeg ((3 + (8 * x4_52)) + x5_62)) x5_62))), (z2, .inl (cI, 5872, .inl (z_62 2))), (z3, .inl (cI, 736, .inl (z_62 3))), (z4, .inl (cZ, 2, .inl (z_62 4))), (z5, .inl (cI, 60, .inl (z_62 5))), (z6, .inl (cI, 20, .inl (z_62 6))), (z7, .inl (cI, 20, .inl (z_62 7))), (z8, .inl (cI, 20, .inl (z_62 8))), (z9, .inl (cI, 10, .inl (z_62 9)))]) := hD
                              refine lv_iinc (v := x5_62 + 1) (lv' := [(5, .int (x5_62 + 1)), (6, .int x5_62), (0, .ref za), (1, .int x), (2, .int y), (3, .int v), (4, .int x4_52)]) hx hb dX7_builds_147 hl (k := 6) rfl rfl (by decide) rfl (fun ls hl => ?_)
                              refine lv_goto (tgt := 62) hx hb dX7_builds_150 (by decide) ?_
                              exact ih62 (x5_62 + 1) (sA z_62 1 (upd (z_62 1) (Int32.toNatClampNeg ((3 + (8 * x4_52)) + x5_62)) x5_62)) _ _ _ hf hP hD hS (lv_sub hl [2, 3, 4, 5, 6, 0] rfl)
                    · have hf := ite_t c101 hf
                      refine lv_iload hx hb dX7_builds_104 (lv_at hl 5 rfl) ?_
                      refine lv_iload hx hb dX7_builds_106 (lv_at hl 6 rfl) ?_
                      refine lv_ior hx hb dX7_builds_108 ?_
                      refine lv_goto (tgt := 146) hx hb dX7_builds_109 (by decide) ?_
                      obtain ⟨b146, hf⟩ := gd_some hf
                      refine va_iast (n := 367) (f := z_62 1) hx hb hK hP hD hS 1 0 rfl rfl (ck_in b146) dX7_builds_146 (fun H locs hP hD hS => ?_)
                      have hP : va_P D vwCl ([(za, .inr (7, [.ref z1, .ref z2, .int (z_62 0 2), .ref z3, .ref z4, .int (z_62 0 5), .ref z5, .int (z_62 0 7), .ref z6, .ref z7, .ref z8, .int (z_62 0 11), .int (z_62 0 12), .int (z_62 0 13), .int (z_62 0 14), .ref z9, .int (z_62 0 16)])), (z1, .inl (cI, 367, .inl (upd (z_62 1) (Int32.toNatClampNeg ((3 + (8 * x4_52)) + x5_62)) (x4_52 ||| x5_62)))), (z2, .inl (cI, 5872, .inl (z_62 2))), (z3, .inl (cI, 736, .inl (z_62 3))), (z4, .inl (cZ, 2, .inl (z_62 4))), (z5, .inl (cI, 60, .inl (z_62 5))), (z6, .inl (cI, 20, .inl (z_62 6))), (z7, .inl (cI, 20, .inl (z_62 7))), (z8, .inl (cI, 20, .inl (z_62 8))), (z9, .inl (cI, 10, .inl (z_62 9)))]) H := hP
                      have hD : va_D A ([(za, .inr (7, [.ref z1, .ref z2, .int (z_62 0 2), .ref z3, .ref z4, .int (z_62 0 5), .ref z5, .int (z_62 0 7), .ref z6, .ref z7, .ref z8, .int (z_62 0 11), .int (z_62 0 12), .int (z_62 0 13), .int (z_62 0 14), .ref z9, .int (z_62 0 16)])), (z1, .inl (cI, 367, .inl (upd (z_62 1) (Int32.toNatClampNeg ((3 + (8 * x4_52)) + x5_62)) (x4_52 ||| x5_62)))), (z2, .inl (cI, 5872, .inl (z_62 2))), (z3, .inl (cI, 736, .inl (z_62 3))), (z4, .inl (cZ, 2, .inl (z_62 4))), (z5, .inl (cI, 60, .inl (z_62 5))), (z6, .inl (cI, 20, .inl (z_62 6))), (z7, .inl (cI, 20, .inl (z_62 7))), (z8, .inl (cI, 20, .inl (z_62 8))), (z9, .inl (cI, 10, .inl (z_62 9)))]) := hD
                      refine lv_iinc (v := x5_62 + 1) (lv' := [(5, .int (x5_62 + 1)), (6, .int x5_62), (0, .ref za), (1, .int x), (2, .int y), (3, .int v), (4, .int x4_52)]) hx hb dX7_builds_147 hl (k := 6) rfl rfl (by decide) rfl (fun ls hl => ?_)
                      refine lv_goto (tgt := 62) hx hb dX7_builds_150 (by decide) ?_
                      exact ih62 (x5_62 + 1) (sA z_62 1 (upd (z_62 1) (Int32.toNatClampNeg ((3 + (8 * x4_52)) + x5_62)) (x4_52 ||| x5_62))) _ _ _ hf hP hD hS (lv_sub hl [2, 3, 4, 5, 6, 0] rfl)
                  · have hf := ite_f c73 hf
                    refine lv_iload hx hb dX7_builds_76 (lv_at hl 4 rfl) ?_
                    refine lv_goto (tgt := 83) hx hb dX7_builds_78 (by decide) ?_
                    refine lv_istore (lv' := [(6, .int x4_52), (0, .ref za), (1, .int x), (2, .int y), (3, .int v), (4, .int x4_52), (5, .int x5_62)]) hx hb dX7_builds_83 hl (by decide) rfl (fun ls hl => ?_)
                    refine lv_aload_n hx hb dX7_builds_85 rfl (lv_at hl 1 rfl) ?_
                    refine va_get (D := D) (ci := 7) (v := .ref z1) (C := RX7) (T := TX7) (N := 17) hx hb hts inT7 hown hK hP 0 rfl rfl 0 (by decide) (hts _ mT_566) (fun _ h9 => h9) rfl dX7_builds_86 ?_
                    refine lv_iconst (v := 3) hx hb dX7_builds_89 (by decide) ?_
                    refine lv_bipush (v := 8) hx hb dX7_builds_90 (by decide) ?_
                    refine lv_iload hx hb dX7_builds_92 (lv_at hl 5 rfl) ?_
                    refine lv_imul hx hb dX7_builds_94 ?_
                    refine lv_iadd hx hb dX7_builds_95 ?_
                    refine lv_iload hx hb dX7_builds_96 (lv_at hl 6 rfl) ?_
                    refine lv_iadd hx hb dX7_builds_98 ?_
                    refine lv_iload_n hx hb dX7_builds_99 rfl (lv_at hl 2 rfl) ?_
                    refine lv_iconst (v := 2) hx hb dX7_builds_100 (by decide) ?_
                    refine lv_icmp_ne (tgt := 112) hx hb dX7_builds_101 (by decide) (fun c101 => ?_) (fun c101 => ?_)
                    · have hf := ite_f c101 hf
                      refine lv_iload_n hx hb dX7_builds_112 rfl (lv_at hl 2 rfl) ?_
                      refine lv_if_eq (tgt := 133) hx hb dX7_builds_113 (by decide) (fun c113 => ?_) (fun c113 => ?_)
                      · have hf := ite_t c113 hf
                        refine lv_iload hx hb dX7_builds_133 (lv_at hl 0 rfl) ?_
                        refine lv_goto (tgt := 146) hx hb dX7_builds_135 (by decide) ?_
                        obtain ⟨b146, hf⟩ := gd_some hf
                        refine va_iast (n := 367) (f := z_62 1) hx hb hK hP hD hS 1 0 rfl rfl (ck_in b146) dX7_builds_146 (fun H locs hP hD hS => ?_)
                        have hP : va_P D vwCl ([(za, .inr (7, [.ref z1, .ref z2, .int (z_62 0 2), .ref z3, .ref z4, .int (z_62 0 5), .ref z5, .int (z_62 0 7), .ref z6, .ref z7, .ref z8, .int (z_62 0 11), .int (z_62 0 12), .int (z_62 0 13), .int (z_62 0 14), .ref z9, .int (z_62 0 16)])), (z1, .inl (cI, 367, .inl (upd (z_62 1) (Int32.toNatClampNeg ((3 + (8 * x4_52)) + x5_62)) x4_52))), (z2, .inl (cI, 5872, .inl (z_62 2))), (z3, .inl (cI, 736, .inl (z_62 3))), (z4, .inl (cZ, 2, .inl (z_62 4))), (z5, .inl (cI, 60, .inl (z_62 5))), (z6, .inl (cI, 20, .inl (z_62 6))), (z7, .inl (cI, 20, .inl (z_62 7))), (z8, .inl (cI, 20, .inl (z_62 8))), (z9, .inl (cI, 10, .inl (z_62 9)))]) H := hP
                        have hD : va_D A ([(za, .inr (7, [.ref z1, .ref z2, .int (z_62 0 2), .ref z3, .ref z4, .int (z_62 0 5), .ref z5, .int (z_62 0 7), .ref z6, .ref z7, .ref z8, .int (z_62 0 11), .int (z_62 0 12), .int (z_62 0 13), .int (z_62 0 14), .ref z9, .int (z_62 0 16)])), (z1, .inl (cI, 367, .inl (upd (z_62 1) (Int32.toNatClampNeg ((3 + (8 * x4_52)) + x5_62)) x4_52))), (z2, .inl (cI, 5872, .inl (z_62 2))), (z3, .inl (cI, 736, .inl (z_62 3))), (z4, .inl (cZ, 2, .inl (z_62 4))), (z5, .inl (cI, 60, .inl (z_62 5))), (z6, .inl (cI, 20, .inl (z_62 6))), (z7, .inl (cI, 20, .inl (z_62 7))), (z8, .inl (cI, 20, .inl (z_62 8))), (z9, .inl (cI, 10, .inl (z_62 9)))]) := hD
                        refine lv_iinc (v := x5_62 + 1) (lv' := [(5, .int (x5_62 + 1)), (6, .int x4_52), (0, .ref za), (1, .int x), (2, .int y), (3, .int v), (4, .int x4_52)]) hx hb dX7_builds_147 hl (k := 6) rfl rfl (by decide) rfl (fun ls hl => ?_)
                        refine lv_goto (tgt := 62) hx hb dX7_builds_150 (by decide) ?_
                        exact ih62 (x5_62 + 1) (sA z_62 1 (upd (z_62 1) (Int32.toNatClampNeg ((3 + (8 * x4_52)) + x5_62)) x4_52)) _ _ _ hf hP hD hS (lv_sub hl [2, 3, 4, 5, 6, 0] rfl)
                      · have hf := ite_f c113 hf
                        refine lv_iload hx hb dX7_builds_116 (lv_at hl 5 rfl) ?_
                        refine lv_iload hx hb dX7_builds_118 (lv_at hl 6 rfl) ?_
                        refine lv_icmp_eq (tgt := 133) hx hb dX7_builds_120 (by decide) (fun c120 => ?_) (fun c120 => ?_)
                        · have hf := ite_t c120 hf
                          refine lv_iload hx hb dX7_builds_133 (lv_at hl 0 rfl) ?_
                          refine lv_goto (tgt := 146) hx hb dX7_builds_135 (by decide) ?_
                          obtain ⟨b146, hf⟩ := gd_some hf
                          refine va_iast (n := 367) (f := z_62 1) hx hb hK hP hD hS 1 0 rfl rfl (ck_in b146) dX7_builds_146 (fun H locs hP hD hS => ?_)
                          have hP : va_P D vwCl ([(za, .inr (7, [.ref z1, .ref z2, .int (z_62 0 2), .ref z3, .ref z4, .int (z_62 0 5), .ref z5, .int (z_62 0 7), .ref z6, .ref z7, .ref z8, .int (z_62 0 11), .int (z_62 0 12), .int (z_62 0 13), .int (z_62 0 14), .ref z9, .int (z_62 0 16)])), (z1, .inl (cI, 367, .inl (upd (z_62 1) (Int32.toNatClampNeg ((3 + (8 * x4_52)) + x5_62)) x4_52))), (z2, .inl (cI, 5872, .inl (z_62 2))), (z3, .inl (cI, 736, .inl (z_62 3))), (z4, .inl (cZ, 2, .inl (z_62 4))), (z5, .inl (cI, 60, .inl (z_62 5))), (z6, .inl (cI, 20, .inl (z_62 6))), (z7, .inl (cI, 20, .inl (z_62 7))), (z8, .inl (cI, 20, .inl (z_62 8))), (z9, .inl (cI, 10, .inl (z_62 9)))]) H := hP
                          have hD : va_D A ([(za, .inr (7, [.ref z1, .ref z2, .int (z_62 0 2), .ref z3, .ref z4, .int (z_62 0 5), .ref z5, .int (z_62 0 7), .ref z6, .ref z7, .ref z8, .int (z_62 0 11), .int (z_62 0 12), .int (z_62 0 13), .int (z_62 0 14), .ref z9, .int (z_62 0 16)])), (z1, .inl (cI, 367, .inl (upd (z_62 1) (Int32.toNatClampNeg ((3 + (8 * x4_52)) + x5_62)) x4_52))), (z2, .inl (cI, 5872, .inl (z_62 2))), (z3, .inl (cI, 736, .inl (z_62 3))), (z4, .inl (cZ, 2, .inl (z_62 4))), (z5, .inl (cI, 60, .inl (z_62 5))), (z6, .inl (cI, 20, .inl (z_62 6))), (z7, .inl (cI, 20, .inl (z_62 7))), (z8, .inl (cI, 20, .inl (z_62 8))), (z9, .inl (cI, 10, .inl (z_62 9)))]) := hD
                          refine lv_iinc (v := x5_62 + 1) (lv' := [(5, .int (x5_62 + 1)), (6, .int x4_52), (0, .ref za), (1, .int x), (2, .int y), (3, .int v), (4, .int x4_52)]) hx hb dX7_builds_147 hl (k := 6) rfl rfl (by decide) rfl (fun ls hl => ?_)
                          refine lv_goto (tgt := 62) hx hb dX7_builds_150 (by decide) ?_
                          exact ih62 (x5_62 + 1) (sA z_62 1 (upd (z_62 1) (Int32.toNatClampNeg ((3 + (8 * x4_52)) + x5_62)) x4_52)) _ _ _ hf hP hD hS (lv_sub hl [2, 3, 4, 5, 6, 0] rfl)
                        · have hf := ite_f c120 hf
                          refine lv_iload hx hb dX7_builds_123 (lv_at hl 5 rfl) ?_
                          refine lv_if_eq (tgt := 133) hx hb dX7_builds_125 (by decide) (fun c125 => ?_) (fun c125 => ?_)
                          · have hf := ite_t c125 hf
                            refine lv_iload hx hb dX7_builds_133 (lv_at hl 0 rfl) ?_
                            refine lv_goto (tgt := 146) hx hb dX7_builds_135 (by decide) ?_
                            obtain ⟨b146, hf⟩ := gd_some hf
                            refine va_iast (n := 367) (f := z_62 1) hx hb hK hP hD hS 1 0 rfl rfl (ck_in b146) dX7_builds_146 (fun H locs hP hD hS => ?_)
                            have hP : va_P D vwCl ([(za, .inr (7, [.ref z1, .ref z2, .int (z_62 0 2), .ref z3, .ref z4, .int (z_62 0 5), .ref z5, .int (z_62 0 7), .ref z6, .ref z7, .ref z8, .int (z_62 0 11), .int (z_62 0 12), .int (z_62 0 13), .int (z_62 0 14), .ref z9, .int (z_62 0 16)])), (z1, .inl (cI, 367, .inl (upd (z_62 1) (Int32.toNatClampNeg ((3 + (8 * x4_52)) + x5_62)) x4_52))), (z2, .inl (cI, 5872, .inl (z_62 2))), (z3, .inl (cI, 736, .inl (z_62 3))), (z4, .inl (cZ, 2, .inl (z_62 4))), (z5, .inl (cI, 60, .inl (z_62 5))), (z6, .inl (cI, 20, .inl (z_62 6))), (z7, .inl (cI, 20, .inl (z_62 7))), (z8, .inl (cI, 20, .inl (z_62 8))), (z9, .inl (cI, 10, .inl (z_62 9)))]) H := hP
                            have hD : va_D A ([(za, .inr (7, [.ref z1, .ref z2, .int (z_62 0 2), .ref z3, .ref z4, .int (z_62 0 5), .ref z5, .int (z_62 0 7), .ref z6, .ref z7, .ref z8, .int (z_62 0 11), .int (z_62 0 12), .int (z_62 0 13), .int (z_62 0 14), .ref z9, .int (z_62 0 16)])), (z1, .inl (cI, 367, .inl (upd (z_62 1) (Int32.toNatClampNeg ((3 + (8 * x4_52)) + x5_62)) x4_52))), (z2, .inl (cI, 5872, .inl (z_62 2))), (z3, .inl (cI, 736, .inl (z_62 3))), (z4, .inl (cZ, 2, .inl (z_62 4))), (z5, .inl (cI, 60, .inl (z_62 5))), (z6, .inl (cI, 20, .inl (z_62 6))), (z7, .inl (cI, 20, .inl (z_62 7))), (z8, .inl (cI, 20, .inl (z_62 8))), (z9, .inl (cI, 10, .inl (z_62 9)))]) := hD
                            refine lv_iinc (v := x5_62 + 1) (lv' := [(5, .int (x5_62 + 1)), (6, .int x4_52), (0, .ref za), (1, .int x), (2, .int y), (3, .int v), (4, .int x4_52)]) hx hb dX7_builds_147 hl (k := 6) rfl rfl (by decide) rfl (fun ls hl => ?_)
                            refine lv_goto (tgt := 62) hx hb dX7_builds_150 (by decide) ?_
                            exact ih62 (x5_62 + 1) (sA z_62 1 (upd (z_62 1) (Int32.toNatClampNeg ((3 + (8 * x4_52)) + x5_62)) x4_52)) _ _ _ hf hP hD hS (lv_sub hl [2, 3, 4, 5, 6, 0] rfl)
                          · have hf := ite_f c125 hf
                            refine lv_iload hx hb dX7_builds_128 (lv_at hl 6 rfl) ?_
                            refine lv_if_ne (tgt := 138) hx hb dX7_builds_130 (by decide) (fun c130 => ?_) (fun c130 => ?_)
                            · have hf := ite_f c130 hf
                              refine lv_aload_n hx hb dX7_builds_138 rfl (lv_at hl 1 rfl) ?_
                              refine va_get (D := D) (ci := 7) (v := .ref z1) (C := RX7) (T := TX7) (N := 17) hx hb hts inT7 hown hK hP 0 rfl rfl 0 (by decide) (hts _ mT_566) (fun _ h9 => h9) rfl dX7_builds_139 ?_
                              refine lv_iconst (v := 0) hx hb dX7_builds_142 (by decide) ?_
                              refine va_iald (n := 367) (f := z_62 1) hx hb hK hP 1 0 rfl rfl (ck_in (by decide)) dX7_builds_143 ?_
                              refine lv_iconst (v := 1) hx hb dX7_builds_144 (by decide) ?_
                              refine lv_isub hx hb dX7_builds_145 ?_
                              obtain ⟨b146, hf⟩ := gd_some hf
                              refine va_iast (n := 367) (f := z_62 1) hx hb hK hP hD hS 1 0 rfl rfl (ck_in b146) dX7_builds_146 (fun H locs hP hD hS => ?_)
                              have hP : va_P D vwCl ([(za, .inr (7, [.ref z1, .ref z2, .int (z_62 0 2), .ref z3, .ref z4, .int (z_62 0 5), .ref z5, .int (z_62 0 7), .ref z6, .ref z7, .ref z8, .int (z_62 0 11), .int (z_62 0 12), .int (z_62 0 13), .int (z_62 0 14), .ref z9, .int (z_62 0 16)])), (z1, .inl (cI, 367, .inl (upd (z_62 1) (Int32.toNatClampNeg ((3 + (8 * x4_52)) + x5_62)) (((z_62 1) (Int32.toNatClampNeg 0)) - 1)))), (z2, .inl (cI, 5872, .inl (z_62 2))), (z3, .inl (cI, 736, .inl (z_62 3))), (z4, .inl (cZ, 2, .inl (z_62 4))), (z5, .inl (cI, 60, .inl (z_62 5))), (z6, .inl (cI, 20, .inl (z_62 6))), (z7, .inl (cI, 20, .inl (z_62 7))), (z8, .inl (cI, 20, .inl (z_62 8))), (z9, .inl (cI, 10, .inl (z_62 9)))]) H := hP
                              have hD : va_D A ([(za, .inr (7, [.ref z1, .ref z2, .int (z_62 0 2), .ref z3, .ref z4, .int (z_62 0 5), .ref z5, .int (z_62 0 7), .ref z6, .ref z7, .ref z8, .int (z_62 0 11), .int (z_62 0 12), .int (z_62 0 13), .int (z_62 0 14), .ref z9, .int (z_62 0 16)])), (z1, .inl (cI, 367, .inl (upd (z_62 1) (Int32.toNatClampNeg ((3 + (8 * x4_52)) + x5_62)) (((z_62 1) (Int32.toNatClampNeg 0)) - 1)))), (z2, .inl (cI, 5872, .inl (z_62 2))), (z3, .inl (cI, 736, .inl (z_62 3))), (z4, .inl (cZ, 2, .inl (z_62 4))), (z5, .inl (cI, 60, .inl (z_62 5))), (z6, .inl (cI, 20, .inl (z_62 6))), (z7, .inl (cI, 20, .inl (z_62 7))), (z8, .inl (cI, 20, .inl (z_62 8))), (z9, .inl (cI, 10, .inl (z_62 9)))]) := hD
                              refine lv_iinc (v := x5_62 + 1) (lv' := [(5, .int (x5_62 + 1)), (6, .int x4_52), (0, .ref za), (1, .int x), (2, .int y), (3, .int v), (4, .int x4_52)]) hx hb dX7_builds_147 hl (k := 6) rfl rfl (by decide) rfl (fun ls hl => ?_)
                              refine lv_goto (tgt := 62) hx hb dX7_builds_150 (by decide) ?_
                              exact ih62 (x5_62 + 1) (sA z_62 1 (upd (z_62 1) (Int32.toNatClampNeg ((3 + (8 * x4_52)) + x5_62)) (((z_62 1) (Int32.toNatClampNeg 0)) - 1))) _ _ _ hf hP hD hS (lv_sub hl [2, 3, 4, 5, 6, 0] rfl)
                            · have hf := ite_t c130 hf
                              refine lv_iload hx hb dX7_builds_133 (lv_at hl 0 rfl) ?_
                              refine lv_goto (tgt := 146) hx hb dX7_builds_135 (by decide) ?_
                              obtain ⟨b146, hf⟩ := gd_some hf
                              refine va_iast (n := 367) (f := z_62 1) hx hb hK hP hD hS 1 0 rfl rfl (ck_in b146) dX7_builds_146 (fun H locs hP hD hS => ?_)
                              have hP : va_P D vwCl ([(za, .inr (7, [.ref z1, .ref z2, .int (z_62 0 2), .ref z3, .ref z4, .int (z_62 0 5), .ref z5, .int (z_62 0 7), .ref z6, .ref z7, .ref z8, .int (z_62 0 11), .int (z_62 0 12), .int (z_62 0 13), .int (z_62 0 14), .ref z9, .int (z_62 0 16)])), (z1, .inl (cI, 367, .inl (upd (z_62 1) (Int32.toNatClampNeg ((3 + (8 * x4_52)) + x5_62)) x4_52))), (z2, .inl (cI, 5872, .inl (z_62 2))), (z3, .inl (cI, 736, .inl (z_62 3))), (z4, .inl (cZ, 2, .inl (z_62 4))), (z5, .inl (cI, 60, .inl (z_62 5))), (z6, .inl (cI, 20, .inl (z_62 6))), (z7, .inl (cI, 20, .inl (z_62 7))), (z8, .inl (cI, 20, .inl (z_62 8))), (z9, .inl (cI, 10, .inl (z_62 9)))]) H := hP
                              have hD : va_D A ([(za, .inr (7, [.ref z1, .ref z2, .int (z_62 0 2), .ref z3, .ref z4, .int (z_62 0 5), .ref z5, .int (z_62 0 7), .ref z6, .ref z7, .ref z8, .int (z_62 0 11), .int (z_62 0 12), .int (z_62 0 13), .int (z_62 0 14), .ref z9, .int (z_62 0 16)])), (z1, .inl (cI, 367, .inl (upd (z_62 1) (Int32.toNatClampNeg ((3 + (8 * x4_52)) + x5_62)) x4_52))), (z2, .inl (cI, 5872, .inl (z_62 2))), (z3, .inl (cI, 736, .inl (z_62 3))), (z4, .inl (cZ, 2, .inl (z_62 4))), (z5, .inl (cI, 60, .inl (z_62 5))), (z6, .inl (cI, 20, .inl (z_62 6))), (z7, .inl (cI, 20, .inl (z_62 7))), (z8, .inl (cI, 20, .inl (z_62 8))), (z9, .inl (cI, 10, .inl (z_62 9)))]) := hD
                              refine lv_iinc (v := x5_62 + 1) (lv' := [(5, .int (x5_62 + 1)), (6, .int x4_52), (0, .ref za), (1, .int x), (2, .int y), (3, .int v), (4, .int x4_52)]) hx hb dX7_builds_147 hl (k := 6) rfl rfl (by decide) rfl (fun ls hl => ?_)
                              refine lv_goto (tgt := 62) hx hb dX7_builds_150 (by decide) ?_
                              exact ih62 (x5_62 + 1) (sA z_62 1 (upd (z_62 1) (Int32.toNatClampNeg ((3 + (8 * x4_52)) + x5_62)) x4_52)) _ _ _ hf hP hD hS (lv_sub hl [2, 3, 4, 5, 6, 0] rfl)
                    · have hf := ite_t c101 hf
                      refine lv_iload hx hb dX7_builds_104 (lv_at hl 5 rfl) ?_
                      refine lv_iload hx hb dX7_builds_106 (lv_at hl 6 rfl) ?_
                      refine lv_ior hx hb dX7_builds_108 ?_
                      refine lv_goto (tgt := 146) hx hb dX7_builds_109 (by decide) ?_
                      obtain ⟨b146, hf⟩ := gd_some hf
                      refine va_iast (n := 367) (f := z_62 1) hx hb hK hP hD hS 1 0 rfl rfl (ck_in b146) dX7_builds_146 (fun H locs hP hD hS => ?_)
                      have hP : va_P D vwCl ([(za, .inr (7, [.ref z1, .ref z2, .int (z_62 0 2), .ref z3, .ref z4, .int (z_62 0 5), .ref z5, .int (z_62 0 7), .ref z6, .ref z7, .ref z8, .int (z_62 0 11), .int (z_62 0 12), .int (z_62 0 13), .int (z_62 0 14), .ref z9, .int (z_62 0 16)])), (z1, .inl (cI, 367, .inl (upd (z_62 1) (Int32.toNatClampNeg ((3 + (8 * x4_52)) + x5_62)) (x4_52 ||| x5_62)))), (z2, .inl (cI, 5872, .inl (z_62 2))), (z3, .inl (cI, 736, .inl (z_62 3))), (z4, .inl (cZ, 2, .inl (z_62 4))), (z5, .inl (cI, 60, .inl (z_62 5))), (z6, .inl (cI, 20, .inl (z_62 6))), (z7, .inl (cI, 20, .inl (z_62 7))), (z8, .inl (cI, 20, .inl (z_62 8))), (z9, .inl (cI, 10, .inl (z_62 9)))]) H := hP
                      have hD : va_D A ([(za, .inr (7, [.ref z1, .ref z2, .int (z_62 0 2), .ref z3, .ref z4, .int (z_62 0 5), .ref z5, .int (z_62 0 7), .ref z6, .ref z7, .ref z8, .int (z_62 0 11), .int (z_62 0 12), .int (z_62 0 13), .int (z_62 0 14), .ref z9, .int (z_62 0 16)])), (z1, .inl (cI, 367, .inl (upd (z_62 1) (Int32.toNatClampNeg ((3 + (8 * x4_52)) + x5_62)) (x4_52 ||| x5_62)))), (z2, .inl (cI, 5872, .inl (z_62 2))), (z3, .inl (cI, 736, .inl (z_62 3))), (z4, .inl (cZ, 2, .inl (z_62 4))), (z5, .inl (cI, 60, .inl (z_62 5))), (z6, .inl (cI, 20, .inl (z_62 6))), (z7, .inl (cI, 20, .inl (z_62 7))), (z8, .inl (cI, 20, .inl (z_62 8))), (z9, .inl (cI, 10, .inl (z_62 9)))]) := hD
                      refine lv_iinc (v := x5_62 + 1) (lv' := [(5, .int (x5_62 + 1)), (6, .int x4_52), (0, .ref za), (1, .int x), (2, .int y), (3, .int v), (4, .int x4_52)]) hx hb dX7_builds_147 hl (k := 6) rfl rfl (by decide) rfl (fun ls hl => ?_)
                      refine lv_goto (tgt := 62) hx hb dX7_builds_150 (by decide) ?_
                      exact ih62 (x5_62 + 1) (sA z_62 1 (upd (z_62 1) (Int32.toNatClampNeg ((3 + (8 * x4_52)) + x5_62)) (x4_52 ||| x5_62))) _ _ _ hf hP hD hS (lv_sub hl [2, 3, 4, 5, 6, 0] rfl)
            exact lh62 10000 0 z_52 _ _ _ hf hP hD hS (lv_sub hl [1, 2, 3, 4, 5, 0] rfl)
      exact lh52 10000 0 (sA (sA z_3 1 (upd (z_3 1) (Int32.toNatClampNeg 0) 8)) 1 (upd (upd (z_3 1) (Int32.toNatClampNeg 0) 8) (Int32.toNatClampNeg 1) v)) _ _ _ hf hP hD hS (lv_sub hl [1, 2, 3, 4, 0] rfl)
  have lh3 : ∀ (fu3 : Nat) (x4_3 : Int32) (z_3 : Ob) (H : Heap) (locs : List Loc) (ls : Array Slot), lp_m_builds_3 (k_m_builds_3 x y v) fu3 x4_3 z_3 = some u → va_P D vwCl (cModel cI cZ za z1 z2 z3 z4 z5 z6 z7 z8 z9 z_3) H → va_D A (cModel cI cZ za z1 z2 z3 z4 z5 z6 z7 z8 z9 z_3) → va_S A s.heap H locs → lv_has ls 7 [(0, .ref za), (1, .int x), (2, .int y), (3, .int v), (4, .int x4_3)] → W p l e ({ frames := 0, cells := 0, slots := 0, locals := 0 } : Room) s m ([.ref za, .int x, .int y, .int v] : List Value).toArray below meth c H locs 0 0 Q (F0 m 3 ls []) := by
    intro fu3
    induction fu3 with
    | zero => intro x4_3 z_3 H locs ls hf hP hD hS hl; exact no_none hf
    | succ fu3 ih3 =>
      intro x4_3 z_3 H locs ls hf hP hD hS hl
      rw [lp_m_builds_3] at hf
      refine lv_iload hx hb dX7_builds_3 (lv_at hl 4 rfl) ?_
      refine lv_sipush (v := 367) hx hb dX7_builds_5 (by decide) ?_
      refine lv_icmp_ge (tgt := 25) hx hb dX7_builds_8 (by decide) (fun c8 => ?_) (fun c8 => ?_)
      · have hf := ite_t c8 hf
        exact kx3 x4_3 z_3 _ _ _ hf hP hD hS (lv_sub hl [0, 1, 2, 3, 4] rfl)
      · have hf := ite_f c8 hf
        refine lv_aload_n hx hb dX7_builds_11 rfl (lv_at hl 0 rfl) ?_
        refine va_get (D := D) (ci := 7) (v := .ref z1) (C := RX7) (T := TX7) (N := 17) hx hb hts inT7 hown hK hP 0 rfl rfl 0 (by decide) (hts _ mT_566) (fun _ h9 => h9) rfl dX7_builds_12 ?_
        refine lv_iload hx hb dX7_builds_15 (lv_at hl 4 rfl) ?_
        refine lv_iconst (v := 0) hx hb dX7_builds_17 (by decide) ?_
        obtain ⟨b18, hf⟩ := gd_some hf
        refine va_iast (n := 367) (f := z_3 1) hx hb hK hP hD hS 1 0 rfl rfl (ck_in b18) dX7_builds_18 (fun H locs hP hD hS => ?_)
        have hP : va_P D vwCl ([(za, .inr (7, [.ref z1, .ref z2, .int (z_3 0 2), .ref z3, .ref z4, .int (z_3 0 5), .ref z5, .int (z_3 0 7), .ref z6, .ref z7, .ref z8, .int (z_3 0 11), .int (z_3 0 12), .int (z_3 0 13), .int (z_3 0 14), .ref z9, .int (z_3 0 16)])), (z1, .inl (cI, 367, .inl (upd (z_3 1) (Int32.toNatClampNeg x4_3) 0))), (z2, .inl (cI, 5872, .inl (z_3 2))), (z3, .inl (cI, 736, .inl (z_3 3))), (z4, .inl (cZ, 2, .inl (z_3 4))), (z5, .inl (cI, 60, .inl (z_3 5))), (z6, .inl (cI, 20, .inl (z_3 6))), (z7, .inl (cI, 20, .inl (z_3 7))), (z8, .inl (cI, 20, .inl (z_3 8))), (z9, .inl (cI, 10, .inl (z_3 9)))]) H := hP
        have hD : va_D A ([(za, .inr (7, [.ref z1, .ref z2, .int (z_3 0 2), .ref z3, .ref z4, .int (z_3 0 5), .ref z5, .int (z_3 0 7), .ref z6, .ref z7, .ref z8, .int (z_3 0 11), .int (z_3 0 12), .int (z_3 0 13), .int (z_3 0 14), .ref z9, .int (z_3 0 16)])), (z1, .inl (cI, 367, .inl (upd (z_3 1) (Int32.toNatClampNeg x4_3) 0))), (z2, .inl (cI, 5872, .inl (z_3 2))), (z3, .inl (cI, 736, .inl (z_3 3))), (z4, .inl (cZ, 2, .inl (z_3 4))), (z5, .inl (cI, 60, .inl (z_3 5))), (z6, .inl (cI, 20, .inl (z_3 6))), (z7, .inl (cI, 20, .inl (z_3 7))), (z8, .inl (cI, 20, .inl (z_3 8))), (z9, .inl (cI, 10, .inl (z_3 9)))]) := hD
        refine lv_iinc (v := x4_3 + 1) (lv' := [(4, .int (x4_3 + 1)), (0, .ref za), (1, .int x), (2, .int y), (3, .int v)]) hx hb dX7_builds_19 hl (k := 4) rfl rfl (by decide) rfl (fun ls hl => ?_)
        refine lv_goto (tgt := 3) hx hb dX7_builds_22 (by decide) ?_
        exact ih3 (x4_3 + 1) (sA z_3 1 (upd (z_3 1) (Int32.toNatClampNeg x4_3) 0)) _ _ _ hf hP hD hS (lv_sub hl [1, 2, 3, 4, 0] rfl)
  exact lh3 10000 0 z _ _ _ hf hP hD hS (lv_sub hl [1, 2, 3, 4, 0] rfl)
theorem s_yX7_build : kMS yX7_build cX7_build 5 (some .int) 3 := ⟨mT_775, mT_59, by decide +kernel⟩
theorem v_yX7_build : kMV yX7_build := ⟨mT_773, mT_774⟩
def f_m_build (z : Ob) (x : Int32) (y : Int32) (v : Int32) : Option (Int32 × Ob) := bd (f_m_in x 0 2) (fun q3 => if q3 = 0 then (some ((-1000000002), z)) else (bd (f_m_in y 1 8) (fun q13 => if q13 = 0 then (some ((-1000000002), z)) else (bd (f_m_in v 0 10) (fun q23 => if q23 = 0 then (some ((-1000000002), z)) else (bd (f_m_notes z) (fun q41 => bd (f_m_builds q41 x y v) (fun q48 => some ((z 1) (Int32.toNatClampNeg 2), q48)))))))))
set_option maxHeartbeats 4000000 in
set_option maxRecDepth 100000 in
theorem c_m_build (l : Launch) (D : va_G) (cI cZ cR : ClassId) (za z1 z2 z3 z4 z5 z6 z7 z8 z9 : Nat) (z : Ob) (x : Int32) (y : Int32) (v : Int32) (sz : Nat) (r : Int32) (u : Ob) (hf : f_m_build z x y v = some (r, u)) : kCi l yX7_build cX7_build 5 (some .int) { frames := 1, cells := 0, slots := 0, locals := 26 } [.ref za, .int x, .int y, .int v] D cI cZ cR (cModel cI cZ za z1 z2 z3 z4 z5 z6 z7 z8 z9 z) sz (cModel cI cZ za z1 z2 z3 z4 z5 z6 z7 z8 z9 u) r := by
  refine kMwi (wf := (fun u : Ob => cModel cI cZ za z1 z2 z3 z4 z5 z6 z7 z8 z9 u)) (u := u) (by decide) (Nat.le_of_ble_eq_true rfl) ?_
  intro p e s m below meth c Q A hx hb hml hown hts hk hP hD hA hS hret ls hl
  have hS0 := hS
  have hK := hk.1
  have hl : lv_has ls 5 [(0, .ref za), (1, .int x), (2, .int y), (3, .int v)] := hl
  rw [f_m_build] at hf
  refine lv_iload_n hx hb dX7_build_0 rfl (lv_at hl 1 rfl) ?_
  refine lv_iconst (v := 0) hx hb dX7_build_1 (by decide) ?_
  refine lv_iconst (v := 2) hx hb dX7_build_2 (by decide) ?_
  obtain ⟨q3, h3, hf⟩ := bd_some hf
  refine kx_rs (As := [.int x, .int 0, .int 2]) (rest := []) hx hb hml hown hts hk hl.1 s_yX7_in mT_720 (c_m_in l D cI cZ cR x 0 2 _ h3) mT_719 rfl rfl ⟨Nat.le_of_ble_eq_true rfl, Nat.le_of_ble_eq_true rfl⟩ rfl (Nat.le_of_ble_eq_true rfl) ⟨Nat.zero_le _, Nat.zero_le _⟩ dX7_build_3 ?_
  refine lv_if_eq (tgt := 29) hx hb dX7_build_6 (by decide) (fun c6 => ?_) (fun c6 => ?_)
  · have hf := ite_t c6 hf
    refine lv_ldc (v := (-1000000002)) hx hb hown (hts _ mT_722) dX7_build_29 ?_
    exact hret _ _ _ z _ _ hf dX7_build_31 hP hD hS
  · have hf := ite_f c6 hf
    refine lv_iload_n hx hb dX7_build_9 rfl (lv_at hl 2 rfl) ?_
    refine lv_iconst (v := 1) hx hb dX7_build_10 (by decide) ?_
    refine lv_bipush (v := 8) hx hb dX7_build_11 (by decide) ?_
    obtain ⟨q13, h13, hf⟩ := bd_some hf
    refine kx_rs (As := [.int y, .int 1, .int 8]) (rest := []) hx hb hml hown hts hk hl.1 s_yX7_in mT_720 (c_m_in l D cI cZ cR y 1 8 _ h13) mT_719 rfl rfl ⟨Nat.le_of_ble_eq_true rfl, Nat.le_of_ble_eq_true rfl⟩ rfl (Nat.le_of_ble_eq_true rfl) ⟨Nat.zero_le _, Nat.zero_le _⟩ dX7_build_13 ?_
    refine lv_if_eq (tgt := 29) hx hb dX7_build_16 (by decide) (fun c16 => ?_) (fun c16 => ?_)
    · have hf := ite_t c16 hf
      refine lv_ldc (v := (-1000000002)) hx hb hown (hts _ mT_722) dX7_build_29 ?_
      exact hret _ _ _ z _ _ hf dX7_build_31 hP hD hS
    · have hf := ite_f c16 hf
      refine lv_iload_n hx hb dX7_build_19 rfl (lv_at hl 3 rfl) ?_
      refine lv_iconst (v := 0) hx hb dX7_build_20 (by decide) ?_
      refine lv_bipush (v := 10) hx hb dX7_build_21 (by decide) ?_
      obtain ⟨q23, h23, hf⟩ := bd_some hf
      refine kx_rs (As := [.int v, .int 0, .int 10]) (rest := []) hx hb hml hown hts hk hl.1 s_yX7_in mT_720 (c_m_in l D cI cZ cR v 0 10 _ h23) mT_719 rfl rfl ⟨Nat.le_of_ble_eq_true rfl, Nat.le_of_ble_eq_true rfl⟩ rfl (Nat.le_of_ble_eq_true rfl) ⟨Nat.zero_le _, Nat.zero_le _⟩ dX7_build_23 ?_
      refine lv_if_ne (tgt := 32) hx hb dX7_build_26 (by decide) (fun c26 => ?_) (fun c26 => ?_)
      · have hf := ite_f c26 hf
        refine lv_aload_n hx hb dX7_build_32 rfl (lv_at hl 0 rfl) ?_
        refine va_get (D := D) (ci := 7) (v := .ref z1) (C := RX7) (T := TX7) (N := 17) hx hb hts inT7 hown hK hP 0 rfl rfl 0 (by decide) (hts _ mT_566) (fun _ h9 => h9) rfl dX7_build_33 ?_
        refine lv_iconst (v := 2) hx hb dX7_build_36 (by decide) ?_
        refine va_iald (n := 367) (f := z 1) hx hb hK hP 1 0 rfl rfl (ck_in (by decide)) dX7_build_37 ?_
        refine lv_istore (lv' := [(4, .int ((z 1) (Int32.toNatClampNeg 2))), (0, .ref za), (1, .int x), (2, .int y), (3, .int v)]) hx hb dX7_build_38 hl (by decide) rfl (fun ls hl => ?_)
        refine lv_aload_n hx hb dX7_build_40 rfl (lv_at hl 1 rfl) ?_
        obtain ⟨q41, h41, hf⟩ := bd_some hf
        refine kx_wv (As := []) (rest := []) (wc := cModel cI cZ za z1 z2 z3 z4 z5 z6 z7 z8 z9 z) (wr := []) (wd := cModel cI cZ za z1 z2 z3 z4 z5 z6 z7 z8 z9 q41) (wn := cModel cI cZ za z1 z2 z3 z4 z5 z6 z7 z8 z9 q41) hx hb hml hown hts hk hP hD hS hA hl.1 s_yX7_notes v_yX7_notes (c_m_notes l D cI cZ cR za z1 z2 z3 z4 z5 z6 z7 z8 z9 z s.heap.size _ h41) mT_776 rfl rfl ⟨Nat.le_of_ble_eq_true rfl, Nat.le_of_ble_eq_true rfl⟩ [0, 1, 2, 3, 4, 5, 6, 7, 8, 9] [] [0, 1, 2, 3, 4, 5, 6, 7, 8, 9] rfl rfl (by decide) (by decide) (by decide) (by decide) rfl (ci := 7) (q0 := 0) rfl rfl rfl (Nat.le_of_ble_eq_true rfl) ⟨Nat.zero_le _, Nat.zero_le _⟩ dX7_build_41 (fun H locs hP hD hS => ?_)
        refine lv_aload_n hx hb dX7_build_44 rfl (lv_at hl 1 rfl) ?_
        refine lv_iload_n hx hb dX7_build_45 rfl (lv_at hl 2 rfl) ?_
        refine lv_iload_n hx hb dX7_build_46 rfl (lv_at hl 3 rfl) ?_
        refine lv_iload_n hx hb dX7_build_47 rfl (lv_at hl 4 rfl) ?_
        obtain ⟨q48, h48, hf⟩ := bd_some hf
        refine kx_wv (As := [.int x, .int y, .int v]) (rest := []) (wc := cModel cI cZ za z1 z2 z3 z4 z5 z6 z7 z8 z9 q41) (wr := []) (wd := cModel cI cZ za z1 z2 z3 z4 z5 z6 z7 z8 z9 q48) (wn := cModel cI cZ za z1 z2 z3 z4 z5 z6 z7 z8 z9 q48) hx hb hml hown hts hk hP hD hS hA hl.1 s_yX7_builds v_yX7_builds (c_m_builds l D cI cZ cR za z1 z2 z3 z4 z5 z6 z7 z8 z9 q41 x y v H.size _ h48) mT_562 rfl rfl ⟨Nat.le_of_ble_eq_true rfl, Nat.le_of_ble_eq_true rfl⟩ [0, 1, 2, 3, 4, 5, 6, 7, 8, 9] [] [0, 1, 2, 3, 4, 5, 6, 7, 8, 9] rfl rfl (by decide) (by decide) (by decide) (by decide) rfl (ci := 7) (q0 := 0) rfl rfl rfl (Nat.le_of_ble_eq_true rfl) ⟨Nat.zero_le _, Nat.zero_le _⟩ dX7_build_48 (fun H locs hP hD hS => ?_)
        refine lv_iload hx hb dX7_build_51 (lv_at hl 0 rfl) ?_
        exact hret _ _ _ q48 _ _ hf dX7_build_53 hP hD hS
      · have hf := ite_t c26 hf
        refine lv_ldc (v := (-1000000002)) hx hb hown (hts _ mT_722) dX7_build_29 ?_
        exact hret _ _ _ z _ _ hf dX7_build_31 hP hD hS
theorem s_yX7_cell : kMS yX7_cell cX7_cell 4 (some .int) 3 := ⟨mT_783, mT_59, by decide +kernel⟩
theorem v_yX7_cell : kMV yX7_cell := ⟨mT_781, mT_782⟩
def f_m_cell (z : Ob) (x : Int32) (y : Int32) (v : Int32) : Option (Int32 × Ob) := bd (f_m_isValue z x) (fun q2 => if q2 = 0 then (some ((-1000000001), z)) else (bd (f_m_isValue z y) (fun q10 => if q10 = 0 then (some ((-1000000001), z)) else (bd (f_m_isValue z v) (fun q18 => if q18 = 0 then (some ((-1000000001), z)) else (bd (f_m_notes z) (fun q28 => gd (ck ((3 + (8 * x)) + y) 367) (bd (f_m_broken (sA q28 1 (upd (q28 1) (Int32.toNatClampNeg ((3 + (8 * x)) + y)) v))) (fun q46 => some (q46, sA q28 1 (upd (q28 1) (Int32.toNatClampNeg ((3 + (8 * x)) + y)) v)))))))))))
set_option maxHeartbeats 4000000 in
set_option maxRecDepth 100000 in
theorem c_m_cell (l : Launch) (D : va_G) (cI cZ cR : ClassId) (za z1 z2 z3 z4 z5 z6 z7 z8 z9 : Nat) (z : Ob) (x : Int32) (y : Int32) (v : Int32) (sz : Nat) (r : Int32) (u : Ob) (hf : f_m_cell z x y v = some (r, u)) : kCi l yX7_cell cX7_cell 4 (some .int) { frames := 3, cells := 0, slots := 0, locals := 69 } [.ref za, .int x, .int y, .int v] D cI cZ cR (cModel cI cZ za z1 z2 z3 z4 z5 z6 z7 z8 z9 z) sz (cModel cI cZ za z1 z2 z3 z4 z5 z6 z7 z8 z9 u) r := by
  refine kMwi (wf := (fun u : Ob => cModel cI cZ za z1 z2 z3 z4 z5 z6 z7 z8 z9 u)) (u := u) (by decide) (Nat.le_of_ble_eq_true rfl) ?_
  intro p e s m below meth c Q A hx hb hml hown hts hk hP hD hA hS hret ls hl
  have hS0 := hS
  have hK := hk.1
  have hl : lv_has ls 4 [(0, .ref za), (1, .int x), (2, .int y), (3, .int v)] := hl
  rw [f_m_cell] at hf
  refine lv_aload_n hx hb dX7_cell_0 rfl (lv_at hl 0 rfl) ?_
  refine lv_iload_n hx hb dX7_cell_1 rfl (lv_at hl 1 rfl) ?_
  obtain ⟨q2, h2, hf⟩ := bd_some hf
  refine kx_rv (As := [.int x]) (rest := []) hx hb hml hown hts hk hP hl.1 s_yX7_isValue v_yX7_isValue (c_m_isValue l D cI cZ cR za z1 z2 z3 z4 z5 z6 z7 z8 z9 z x _ h2) mT_727 rfl rfl ⟨Nat.le_of_ble_eq_true rfl, Nat.le_of_ble_eq_true rfl⟩ (ci := 7) (q0 := 0) rfl rfl rfl (Nat.le_of_ble_eq_true rfl) ⟨Nat.zero_le _, Nat.zero_le _⟩ dX7_cell_2 ?_
  refine lv_if_eq (tgt := 24) hx hb dX7_cell_5 (by decide) (fun c5 => ?_) (fun c5 => ?_)
  · have hf := ite_t c5 hf
    refine lv_ldc (v := (-1000000001)) hx hb hown (hts _ mT_731) dX7_cell_24 ?_
    exact hret _ _ _ z _ _ hf dX7_cell_26 hP hD hS
  · have hf := ite_f c5 hf
    refine lv_aload_n hx hb dX7_cell_8 rfl (lv_at hl 0 rfl) ?_
    refine lv_iload_n hx hb dX7_cell_9 rfl (lv_at hl 2 rfl) ?_
    obtain ⟨q10, h10, hf⟩ := bd_some hf
    refine kx_rv (As := [.int y]) (rest := []) hx hb hml hown hts hk hP hl.1 s_yX7_isValue v_yX7_isValue (c_m_isValue l D cI cZ cR za z1 z2 z3 z4 z5 z6 z7 z8 z9 z y _ h10) mT_727 rfl rfl ⟨Nat.le_of_ble_eq_true rfl, Nat.le_of_ble_eq_true rfl⟩ (ci := 7) (q0 := 0) rfl rfl rfl (Nat.le_of_ble_eq_true rfl) ⟨Nat.zero_le _, Nat.zero_le _⟩ dX7_cell_10 ?_
    refine lv_if_eq (tgt := 24) hx hb dX7_cell_13 (by decide) (fun c13 => ?_) (fun c13 => ?_)
    · have hf := ite_t c13 hf
      refine lv_ldc (v := (-1000000001)) hx hb hown (hts _ mT_731) dX7_cell_24 ?_
      exact hret _ _ _ z _ _ hf dX7_cell_26 hP hD hS
    · have hf := ite_f c13 hf
      refine lv_aload_n hx hb dX7_cell_16 rfl (lv_at hl 0 rfl) ?_
      refine lv_iload_n hx hb dX7_cell_17 rfl (lv_at hl 3 rfl) ?_
      obtain ⟨q18, h18, hf⟩ := bd_some hf
      refine kx_rv (As := [.int v]) (rest := []) hx hb hml hown hts hk hP hl.1 s_yX7_isValue v_yX7_isValue (c_m_isValue l D cI cZ cR za z1 z2 z3 z4 z5 z6 z7 z8 z9 z v _ h18) mT_727 rfl rfl ⟨Nat.le_of_ble_eq_true rfl, Nat.le_of_ble_eq_true rfl⟩ (ci := 7) (q0 := 0) rfl rfl rfl (Nat.le_of_ble_eq_true rfl) ⟨Nat.zero_le _, Nat.zero_le _⟩ dX7_cell_18 ?_
      refine lv_if_ne (tgt := 27) hx hb dX7_cell_21 (by decide) (fun c21 => ?_) (fun c21 => ?_)
      · have hf := ite_f c21 hf
        refine lv_aload_n hx hb dX7_cell_27 rfl (lv_at hl 0 rfl) ?_
        obtain ⟨q28, h28, hf⟩ := bd_some hf
        refine kx_wv (As := []) (rest := []) (wc := cModel cI cZ za z1 z2 z3 z4 z5 z6 z7 z8 z9 z) (wr := []) (wd := cModel cI cZ za z1 z2 z3 z4 z5 z6 z7 z8 z9 q28) (wn := cModel cI cZ za z1 z2 z3 z4 z5 z6 z7 z8 z9 q28) hx hb hml hown hts hk hP hD hS hA hl.1 s_yX7_notes v_yX7_notes (c_m_notes l D cI cZ cR za z1 z2 z3 z4 z5 z6 z7 z8 z9 z s.heap.size _ h28) mT_776 rfl rfl ⟨Nat.le_of_ble_eq_true rfl, Nat.le_of_ble_eq_true rfl⟩ [0, 1, 2, 3, 4, 5, 6, 7, 8, 9] [] [0, 1, 2, 3, 4, 5, 6, 7, 8, 9] rfl rfl (by decide) (by decide) (by decide) (by decide) rfl (ci := 7) (q0 := 0) rfl rfl rfl (Nat.le_of_ble_eq_true rfl) ⟨Nat.zero_le _, Nat.zero_le _⟩ dX7_cell_28 (fun H locs hP hD hS => ?_)
        refine lv_aload_n hx hb dX7_cell_31 rfl (lv_at hl 0 rfl) ?_
        refine va_get (D := D) (ci := 7) (v := .ref z1) (C := RX7) (T := TX7) (N := 17) hx hb hts inT7 hown hK hP 0 rfl rfl 0 (by decide) (hts _ mT_566) (fun _ h9 => h9) rfl dX7_cell_32 ?_
        refine lv_iconst (v := 3) hx hb dX7_cell_35 (by decide) ?_
        refine lv_bipush (v := 8) hx hb dX7_cell_36 (by decide) ?_
        refine lv_iload_n hx hb dX7_cell_38 rfl (lv_at hl 1 rfl) ?_
        refine lv_imul hx hb dX7_cell_39 ?_
        refine lv_iadd hx hb dX7_cell_40 ?_
        refine lv_iload_n hx hb dX7_cell_41 rfl (lv_at hl 2 rfl) ?_
        refine lv_iadd hx hb dX7_cell_42 ?_
        refine lv_iload_n hx hb dX7_cell_43 rfl (lv_at hl 3 rfl) ?_
        obtain ⟨b44, hf⟩ := gd_some hf
        refine va_iast (n := 367) (f := q28 1) hx hb hK hP hD hS 1 0 rfl rfl (ck_in b44) dX7_cell_44 (fun H locs hP hD hS => ?_)
        have hP : va_P D vwCl ([(za, .inr (7, [.ref z1, .ref z2, .int (q28 0 2), .ref z3, .ref z4, .int (q28 0 5), .ref z5, .int (q28 0 7), .ref z6, .ref z7, .ref z8, .int (q28 0 11), .int (q28 0 12), .int (q28 0 13), .int (q28 0 14), .ref z9, .int (q28 0 16)])), (z1, .inl (cI, 367, .inl (upd (q28 1) (Int32.toNatClampNeg ((3 + (8 * x)) + y)) v))), (z2, .inl (cI, 5872, .inl (q28 2))), (z3, .inl (cI, 736, .inl (q28 3))), (z4, .inl (cZ, 2, .inl (q28 4))), (z5, .inl (cI, 60, .inl (q28 5))), (z6, .inl (cI, 20, .inl (q28 6))), (z7, .inl (cI, 20, .inl (q28 7))), (z8, .inl (cI, 20, .inl (q28 8))), (z9, .inl (cI, 10, .inl (q28 9)))]) H := hP
        have hD : va_D A ([(za, .inr (7, [.ref z1, .ref z2, .int (q28 0 2), .ref z3, .ref z4, .int (q28 0 5), .ref z5, .int (q28 0 7), .ref z6, .ref z7, .ref z8, .int (q28 0 11), .int (q28 0 12), .int (q28 0 13), .int (q28 0 14), .ref z9, .int (q28 0 16)])), (z1, .inl (cI, 367, .inl (upd (q28 1) (Int32.toNatClampNeg ((3 + (8 * x)) + y)) v))), (z2, .inl (cI, 5872, .inl (q28 2))), (z3, .inl (cI, 736, .inl (q28 3))), (z4, .inl (cZ, 2, .inl (q28 4))), (z5, .inl (cI, 60, .inl (q28 5))), (z6, .inl (cI, 20, .inl (q28 6))), (z7, .inl (cI, 20, .inl (q28 7))), (z8, .inl (cI, 20, .inl (q28 8))), (z9, .inl (cI, 10, .inl (q28 9)))]) := hD
        refine lv_aload_n hx hb dX7_cell_45 rfl (lv_at hl 0 rfl) ?_
        obtain ⟨q46, h46, hf⟩ := bd_some hf
        refine kx_rv (As := []) (rest := []) hx hb hml hown hts hk hP hl.1 s_yX7_broken v_yX7_broken (c_m_broken l D cI cZ cR za z1 z2 z3 z4 z5 z6 z7 z8 z9 (sA q28 1 (upd (q28 1) (Int32.toNatClampNeg ((3 + (8 * x)) + y)) v)) _ h46) mT_623 rfl rfl ⟨Nat.le_of_ble_eq_true rfl, Nat.le_of_ble_eq_true rfl⟩ (ci := 7) (q0 := 0) rfl rfl rfl (Nat.le_of_ble_eq_true rfl) ⟨Nat.zero_le _, Nat.zero_le _⟩ dX7_cell_46 ?_
        exact hret _ _ _ (sA q28 1 (upd (q28 1) (Int32.toNatClampNeg ((3 + (8 * x)) + y)) v)) _ _ hf dX7_cell_49 hP hD hS
      · have hf := ite_t c21 hf
        refine lv_ldc (v := (-1000000001)) hx hb hown (hts _ mT_731) dX7_cell_24 ?_
        exact hret _ _ _ z _ _ hf dX7_cell_26 hP hD hS
theorem s_yX7_start : kMS yX7_start cX7_start 4 (some .int) 3 := ⟨mT_787, mT_59, by decide +kernel⟩
theorem v_yX7_start : kMV yX7_start := ⟨mT_785, mT_786⟩
def f_m_start (z : Ob) (x : Int32) (y : Int32) (v : Int32) : Option (Int32 × Ob) := bd (f_m_isPlace z x) (fun q2 => if q2 = 0 then (some ((-1000000001), z)) else (bd (f_m_isValue z y) (fun q10 => if q10 = 0 then (some ((-1000000001), z)) else (bd (f_m_isSet v) (fun q20 => if q20 = 0 then (some ((-1000000002), z)) else (bd (f_m_notes z) (fun q30 => gd (ck (67 + x) 367) (gd (ck (77 + x) 367) (some (1, sA (sA q30 1 (upd (q30 1) (Int32.toNatClampNeg (67 + x)) y)) 1 (upd (upd (q30 1) (Int32.toNatClampNeg (67 + x)) y) (Int32.toNatClampNeg (77 + x)) v)))))))))))
set_option maxHeartbeats 4000000 in
set_option maxRecDepth 100000 in
theorem c_m_start (l : Launch) (D : va_G) (cI cZ cR : ClassId) (za z1 z2 z3 z4 z5 z6 z7 z8 z9 : Nat) (z : Ob) (x : Int32) (y : Int32) (v : Int32) (sz : Nat) (r : Int32) (u : Ob) (hf : f_m_start z x y v = some (r, u)) : kCi l yX7_start cX7_start 4 (some .int) { frames := 2, cells := 0, slots := 0, locals := 43 } [.ref za, .int x, .int y, .int v] D cI cZ cR (cModel cI cZ za z1 z2 z3 z4 z5 z6 z7 z8 z9 z) sz (cModel cI cZ za z1 z2 z3 z4 z5 z6 z7 z8 z9 u) r := by
  refine kMwi (wf := (fun u : Ob => cModel cI cZ za z1 z2 z3 z4 z5 z6 z7 z8 z9 u)) (u := u) (by decide) (Nat.le_of_ble_eq_true rfl) ?_
  intro p e s m below meth c Q A hx hb hml hown hts hk hP hD hA hS hret ls hl
  have hS0 := hS
  have hK := hk.1
  have hl : lv_has ls 4 [(0, .ref za), (1, .int x), (2, .int y), (3, .int v)] := hl
  rw [f_m_start] at hf
  refine lv_aload_n hx hb dX7_start_0 rfl (lv_at hl 0 rfl) ?_
  refine lv_iload_n hx hb dX7_start_1 rfl (lv_at hl 1 rfl) ?_
  obtain ⟨q2, h2, hf⟩ := bd_some hf
  refine kx_rv (As := [.int x]) (rest := []) hx hb hml hown hts hk hP hl.1 s_yX7_isPlace v_yX7_isPlace (c_m_isPlace l D cI cZ cR za z1 z2 z3 z4 z5 z6 z7 z8 z9 z x _ h2) mT_715 rfl rfl ⟨Nat.le_of_ble_eq_true rfl, Nat.le_of_ble_eq_true rfl⟩ (ci := 7) (q0 := 0) rfl rfl rfl (Nat.le_of_ble_eq_true rfl) ⟨Nat.zero_le _, Nat.zero_le _⟩ dX7_start_2 ?_
  refine lv_if_eq (tgt := 16) hx hb dX7_start_5 (by decide) (fun c5 => ?_) (fun c5 => ?_)
  · have hf := ite_t c5 hf
    refine lv_ldc (v := (-1000000001)) hx hb hown (hts _ mT_731) dX7_start_16 ?_
    exact hret _ _ _ z _ _ hf dX7_start_18 hP hD hS
  · have hf := ite_f c5 hf
    refine lv_aload_n hx hb dX7_start_8 rfl (lv_at hl 0 rfl) ?_
    refine lv_iload_n hx hb dX7_start_9 rfl (lv_at hl 2 rfl) ?_
    obtain ⟨q10, h10, hf⟩ := bd_some hf
    refine kx_rv (As := [.int y]) (rest := []) hx hb hml hown hts hk hP hl.1 s_yX7_isValue v_yX7_isValue (c_m_isValue l D cI cZ cR za z1 z2 z3 z4 z5 z6 z7 z8 z9 z y _ h10) mT_727 rfl rfl ⟨Nat.le_of_ble_eq_true rfl, Nat.le_of_ble_eq_true rfl⟩ (ci := 7) (q0 := 0) rfl rfl rfl (Nat.le_of_ble_eq_true rfl) ⟨Nat.zero_le _, Nat.zero_le _⟩ dX7_start_10 ?_
    refine lv_if_ne (tgt := 19) hx hb dX7_start_13 (by decide) (fun c13 => ?_) (fun c13 => ?_)
    · have hf := ite_f c13 hf
      refine lv_iload_n hx hb dX7_start_19 rfl (lv_at hl 3 rfl) ?_
      obtain ⟨q20, h20, hf⟩ := bd_some hf
      refine kx_rs (As := [.int v]) (rest := []) hx hb hml hown hts hk hl.1 s_yX7_isSet mT_789 (c_m_isSet l D cI cZ cR v _ h20) mT_788 rfl rfl ⟨Nat.le_of_ble_eq_true rfl, Nat.le_of_ble_eq_true rfl⟩ rfl (Nat.le_of_ble_eq_true rfl) ⟨Nat.zero_le _, Nat.zero_le _⟩ dX7_start_20 ?_
      refine lv_if_ne (tgt := 29) hx hb dX7_start_23 (by decide) (fun c23 => ?_) (fun c23 => ?_)
      · have hf := ite_f c23 hf
        refine lv_aload_n hx hb dX7_start_29 rfl (lv_at hl 0 rfl) ?_
        obtain ⟨q30, h30, hf⟩ := bd_some hf
        refine kx_wv (As := []) (rest := []) (wc := cModel cI cZ za z1 z2 z3 z4 z5 z6 z7 z8 z9 z) (wr := []) (wd := cModel cI cZ za z1 z2 z3 z4 z5 z6 z7 z8 z9 q30) (wn := cModel cI cZ za z1 z2 z3 z4 z5 z6 z7 z8 z9 q30) hx hb hml hown hts hk hP hD hS hA hl.1 s_yX7_notes v_yX7_notes (c_m_notes l D cI cZ cR za z1 z2 z3 z4 z5 z6 z7 z8 z9 z s.heap.size _ h30) mT_776 rfl rfl ⟨Nat.le_of_ble_eq_true rfl, Nat.le_of_ble_eq_true rfl⟩ [0, 1, 2, 3, 4, 5, 6, 7, 8, 9] [] [0, 1, 2, 3, 4, 5, 6, 7, 8, 9] rfl rfl (by decide) (by decide) (by decide) (by decide) rfl (ci := 7) (q0 := 0) rfl rfl rfl (Nat.le_of_ble_eq_true rfl) ⟨Nat.zero_le _, Nat.zero_le _⟩ dX7_start_30 (fun H locs hP hD hS => ?_)
        refine lv_aload_n hx hb dX7_start_33 rfl (lv_at hl 0 rfl) ?_
        refine va_get (D := D) (ci := 7) (v := .ref z1) (C := RX7) (T := TX7) (N := 17) hx hb hts inT7 hown hK hP 0 rfl rfl 0 (by decide) (hts _ mT_566) (fun _ h9 => h9) rfl dX7_start_34 ?_
        refine lv_bipush (v := 67) hx hb dX7_start_37 (by decide) ?_
        refine lv_iload_n hx hb dX7_start_39 rfl (lv_at hl 1 rfl) ?_
        refine lv_iadd hx hb dX7_start_40 ?_
        refine lv_iload_n hx hb dX7_start_41 rfl (lv_at hl 2 rfl) ?_
        obtain ⟨b42, hf⟩ := gd_some hf
        refine va_iast (n := 367) (f := q30 1) hx hb hK hP hD hS 1 0 rfl rfl (ck_in b42) dX7_start_42 (fun H locs hP hD hS => ?_)
        have hP : va_P D vwCl ([(za, .inr (7, [.ref z1, .ref z2, .int (q30 0 2), .ref z3, .ref z4, .int (q30 0 5), .ref z5, .int (q30 0 7), .ref z6, .ref z7, .ref z8, .int (q30 0 11), .int (q30 0 12), .int (q30 0 13), .int (q30 0 14), .ref z9, .int (q30 0 16)])), (z1, .inl (cI, 367, .inl (upd (q30 1) (Int32.toNatClampNeg (67 + x)) y))), (z2, .inl (cI, 5872, .inl (q30 2))), (z3, .inl (cI, 736, .inl (q30 3))), (z4, .inl (cZ, 2, .inl (q30 4))), (z5, .inl (cI, 60, .inl (q30 5))), (z6, .inl (cI, 20, .inl (q30 6))), (z7, .inl (cI, 20, .inl (q30 7))), (z8, .inl (cI, 20, .inl (q30 8))), (z9, .inl (cI, 10, .inl (q30 9)))]) H := hP
        have hD : va_D A ([(za, .inr (7, [.ref z1, .ref z2, .int (q30 0 2), .ref z3, .ref z4, .int (q30 0 5), .ref z5, .int (q30 0 7), .ref z6, .ref z7, .ref z8, .int (q30 0 11), .int (q30 0 12), .int (q30 0 13), .int (q30 0 14), .ref z9, .int (q30 0 16)])), (z1, .inl (cI, 367, .inl (upd (q30 1) (Int32.toNatClampNeg (67 + x)) y))), (z2, .inl (cI, 5872, .inl (q30 2))), (z3, .inl (cI, 736, .inl (q30 3))), (z4, .inl (cZ, 2, .inl (q30 4))), (z5, .inl (cI, 60, .inl (q30 5))), (z6, .inl (cI, 20, .inl (q30 6))), (z7, .inl (cI, 20, .inl (q30 7))), (z8, .inl (cI, 20, .inl (q30 8))), (z9, .inl (cI, 10, .inl (q30 9)))]) := hD
        refine lv_aload_n hx hb dX7_start_43 rfl (lv_at hl 0 rfl) ?_
        refine va_get (D := D) (ci := 7) (v := .ref z1) (C := RX7) (T := TX7) (N := 17) hx hb hts inT7 hown hK hP 0 rfl rfl 0 (by decide) (hts _ mT_566) (fun _ h9 => h9) rfl dX7_start_44 ?_
        refine lv_bipush (v := 77) hx hb dX7_start_47 (by decide) ?_
        refine lv_iload_n hx hb dX7_start_49 rfl (lv_at hl 1 rfl) ?_
        refine lv_iadd hx hb dX7_start_50 ?_
        refine lv_iload_n hx hb dX7_start_51 rfl (lv_at hl 3 rfl) ?_
        obtain ⟨b52, hf⟩ := gd_some hf
        refine va_iast (n := 367) (f := upd (q30 1) (Int32.toNatClampNeg (67 + x)) y) hx hb hK hP hD hS 1 0 rfl rfl (ck_in b52) dX7_start_52 (fun H locs hP hD hS => ?_)
        have hP : va_P D vwCl ([(za, .inr (7, [.ref z1, .ref z2, .int (q30 0 2), .ref z3, .ref z4, .int (q30 0 5), .ref z5, .int (q30 0 7), .ref z6, .ref z7, .ref z8, .int (q30 0 11), .int (q30 0 12), .int (q30 0 13), .int (q30 0 14), .ref z9, .int (q30 0 16)])), (z1, .inl (cI, 367, .inl (upd (upd (q30 1) (Int32.toNatClampNeg (67 + x)) y) (Int32.toNatClampNeg (77 + x)) v))), (z2, .inl (cI, 5872, .inl (q30 2))), (z3, .inl (cI, 736, .inl (q30 3))), (z4, .inl (cZ, 2, .inl (q30 4))), (z5, .inl (cI, 60, .inl (q30 5))), (z6, .inl (cI, 20, .inl (q30 6))), (z7, .inl (cI, 20, .inl (q30 7))), (z8, .inl (cI, 20, .inl (q30 8))), (z9, .inl (cI, 10, .inl (q30 9)))]) H := hP
        have hD : va_D A ([(za, .inr (7, [.ref z1, .ref z2, .int (q30 0 2), .ref z3, .ref z4, .int (q30 0 5), .ref z5, .int (q30 0 7), .ref z6, .ref z7, .ref z8, .int (q30 0 11), .int (q30 0 12), .int (q30 0 13), .int (q30 0 14), .ref z9, .int (q30 0 16)])), (z1, .inl (cI, 367, .inl (upd (upd (q30 1) (Int32.toNatClampNeg (67 + x)) y) (Int32.toNatClampNeg (77 + x)) v))), (z2, .inl (cI, 5872, .inl (q30 2))), (z3, .inl (cI, 736, .inl (q30 3))), (z4, .inl (cZ, 2, .inl (q30 4))), (z5, .inl (cI, 60, .inl (q30 5))), (z6, .inl (cI, 20, .inl (q30 6))), (z7, .inl (cI, 20, .inl (q30 7))), (z8, .inl (cI, 20, .inl (q30 8))), (z9, .inl (cI, 10, .inl (q30 9)))]) := hD
        refine lv_iconst (v := 1) hx hb dX7_start_53 (by decide) ?_
        exact hret _ _ _ (sA (sA q30 1 (upd (q30 1) (Int32.toNatClampNeg (67 + x)) y)) 1 (upd (upd (q30 1) (Int32.toNatClampNeg (67 + x)) y) (Int32.toNatClampNeg (77 + x)) v)) _ _ hf dX7_start_54 hP hD hS
      · have hf := ite_t c23 hf
        refine lv_ldc (v := (-1000000002)) hx hb hown (hts _ mT_722) dX7_start_26 ?_
        exact hret _ _ _ z _ _ hf dX7_start_28 hP hD hS
    · have hf := ite_t c13 hf
      refine lv_ldc (v := (-1000000001)) hx hb hown (hts _ mT_731) dX7_start_16 ?_
      exact hret _ _ _ z _ _ hf dX7_start_18 hP hD hS
theorem s_yX7_comes : kMS yX7_comes cX7_comes 8 none 5 := ⟨mT_799, mT_59, by decide +kernel⟩
theorem v_yX7_comes : kMV yX7_comes := ⟨mT_798, mT_48⟩
def k_m_comes_69 (x7_69 : Int32) (z_69 : Ob) : Option Ob := some (sA z_69 1 (upd (z_69 1) (Int32.toNatClampNeg 2) (((z_69 1) (Int32.toNatClampNeg 2)) + 1)))
def lp_m_comes_69 (z : Ob) (kk0 : Int32 → Ob → Option Ob) : Nat → Int32 → Ob → Option Ob
  | 0, _, _ => none
  | fu69 + 1, x7_69, z_69 => if 8 ≤ x7_69 then (kk0 x7_69 z_69) else (gd (ck (((107 + (13 * ((z 1) (Int32.toNatClampNeg 2)))) + 5) + x7_69) 367) ((lp_m_comes_69 z kk0 fu69) (x7_69 + 1) (sA z_69 1 (upd (z_69 1) (Int32.toNatClampNeg (((107 + (13 * ((z 1) (Int32.toNatClampNeg 2)))) + 5) + x7_69)) x7_69))))
def f_m_comes (z : Ob) (x : Int32) (y : Int32) (v : Int32) (u1 : Int32) (u2 : Int32) : Option Ob := gd (ck ((107 + (13 * ((z 1) (Int32.toNatClampNeg 2)))) + 0) 367) (gd (ck ((107 + (13 * ((z 1) (Int32.toNatClampNeg 2)))) + 1) 367) (gd (ck ((107 + (13 * ((z 1) (Int32.toNatClampNeg 2)))) + 2) 367) (gd (ck ((107 + (13 * ((z 1) (Int32.toNatClampNeg 2)))) + 3) 367) (gd (ck ((107 + (13 * ((z 1) (Int32.toNatClampNeg 2)))) + 4) 367) (lp_m_comes_69 z k_m_comes_69 10000 0 (sA (sA (sA (sA (sA z 1 (upd (z 1) (Int32.toNatClampNeg ((107 + (13 * ((z 1) (Int32.toNatClampNeg 2)))) + 0)) x)) 1 (upd (upd (z 1) (Int32.toNatClampNeg ((107 + (13 * ((z 1) (Int32.toNatClampNeg 2)))) + 0)) x) (Int32.toNatClampNeg ((107 + (13 * ((z 1) (Int32.toNatClampNeg 2)))) + 1)) y)) 1 (upd (upd (upd (z 1) (Int32.toNatClampNeg ((107 + (13 * ((z 1) (Int32.toNatClampNeg 2)))) + 0)) x) (Int32.toNatClampNeg ((107 + (13 * ((z 1) (Int32.toNatClampNeg 2)))) + 1)) y) (Int32.toNatClampNeg ((107 + (13 * ((z 1) (Int32.toNatClampNeg 2)))) + 2)) v)) 1 (upd (upd (upd (upd (z 1) (Int32.toNatClampNeg ((107 + (13 * ((z 1) (Int32.toNatClampNeg 2)))) + 0)) x) (Int32.toNatClampNeg ((107 + (13 * ((z 1) (Int32.toNatClampNeg 2)))) + 1)) y) (Int32.toNatClampNeg ((107 + (13 * ((z 1) (Int32.toNatClampNeg 2)))) + 2)) v) (Int32.toNatClampNeg ((107 + (13 * ((z 1) (Int32.toNatClampNeg 2)))) + 3)) u1)) 1 (upd (upd (upd (upd (upd (z 1) (Int32.toNatClampNeg ((107 + (13 * ((z 1) (Int32.toNatClampNeg 2)))) + 0)) x) (Int32.toNatClampNeg ((107 + (13 * ((z 1) (Int32.toNatClampNeg 2)))) + 1)) y) (Int32.toNatClampNeg ((107 + (13 * ((z 1) (Int32.toNatClampNeg 2)))) + 2)) v) (Int32.toNatClampNeg ((107 + (13 * ((z 1) (Int32.toNatClampNeg 2)))) + 3)) u1) (Int32.toNatClampNeg ((107 + (13 * ((z 1) (Int32.toNatClampNeg 2)))) + 4)) u2)))))))
set_option maxHeartbeats 4000000 in
set_option maxRecDepth 100000 in
theorem c_m_comes (l : Launch) (D : va_G) (cI cZ cR : ClassId) (za z1 z2 z3 z4 z5 z6 z7 z8 z9 : Nat) (z : Ob) (x : Int32) (y : Int32) (v : Int32) (u1 : Int32) (u2 : Int32) (sz : Nat) (u : Ob) (hf : f_m_comes z x y v u1 u2 = some u) : kCv l yX7_comes cX7_comes 8 none { frames := 0, cells := 0, slots := 0, locals := 0 } [.ref za, .int x, .int y, .int v, .int u1, .int u2] D cI cZ cR (cModel cI cZ za z1 z2 z3 z4 z5 z6 z7 z8 z9 z) sz (cModel cI cZ za z1 z2 z3 z4 z5 z6 z7 z8 z9 u) := by
  refine kMwv (wf := (fun u : Ob => cModel cI cZ za z1 z2 z3 z4 z5 z6 z7 z8 z9 u)) (u := u) (by decide) (Nat.le_of_ble_eq_true rfl) ?_
  intro p e s m below meth c Q A hx hb hml hown hts hk hP hD hA hS hret ls hl
  have hS0 := hS
  have hK := hk.1
  have hl : lv_has ls 8 [(0, .ref za), (1, .int x), (2, .int y), (3, .int v), (4, .int u1), (5, .int u2)] := hl
  rw [f_m_comes] at hf
  refine lv_bipush (v := 107) hx hb dX7_comes_0 (by decide) ?_
  refine lv_bipush (v := 13) hx hb dX7_comes_2 (by decide) ?_
  refine lv_aload_n hx hb dX7_comes_4 rfl (lv_at hl 0 rfl) ?_
  refine va_get (D := D) (ci := 7) (v := .ref z1) (C := RX7) (T := TX7) (N := 17) hx hb hts inT7 hown hK hP 0 rfl rfl 0 (by decide) (hts _ mT_566) (fun _ h9 => h9) rfl dX7_comes_5 ?_
  refine lv_iconst (v := 2) hx hb dX7_comes_8 (by decide) ?_
  refine va_iald (n := 367) (f := z 1) hx hb hK hP 1 0 rfl rfl (ck_in (by decide)) dX7_comes_9 ?_
  refine lv_imul hx hb dX7_comes_10 ?_
  refine lv_iadd hx hb dX7_comes_11 ?_
  refine lv_istore (lv' := [(6, .int (107 + (13 * ((z 1) (Int32.toNatClampNeg 2))))), (0, .ref za), (1, .int x), (2, .int y), (3, .int v), (4, .int u1), (5, .int u2)]) hx hb dX7_comes_12 hl (by decide) rfl (fun ls hl => ?_)
  refine lv_aload_n hx hb dX7_comes_14 rfl (lv_at hl 1 rfl) ?_
  refine va_get (D := D) (ci := 7) (v := .ref z1) (C := RX7) (T := TX7) (N := 17) hx hb hts inT7 hown hK hP 0 rfl rfl 0 (by decide) (hts _ mT_566) (fun _ h9 => h9) rfl dX7_comes_15 ?_
  refine lv_iload hx hb dX7_comes_18 (lv_at hl 0 rfl) ?_
  refine lv_iconst (v := 0) hx hb dX7_comes_20 (by decide) ?_
  refine lv_iadd hx hb dX7_comes_21 ?_
  refine lv_iload_n hx hb dX7_comes_22 rfl (lv_at hl 2 rfl) ?_
  obtain ⟨b23, hf⟩ := gd_some hf
  refine va_iast (n := 367) (f := z 1) hx hb hK hP hD hS 1 0 rfl rfl (ck_in b23) dX7_comes_23 (fun H locs hP hD hS => ?_)
  have hP : va_P D vwCl ([(za, .inr (7, [.ref z1, .ref z2, .int (z 0 2), .ref z3, .ref z4, .int (z 0 5), .ref z5, .int (z 0 7), .ref z6, .ref z7, .ref z8, .int (z 0 11), .int (z 0 12), .int (z 0 13), .int (z 0 14), .ref z9, .int (z 0 16)])), (z1, .inl (cI, 367, .inl (upd (z 1) (Int32.toNatClampNeg ((107 + (13 * ((z 1) (Int32.toNatClampNeg 2)))) + 0)) x))), (z2, .inl (cI, 5872, .inl (z 2))), (z3, .inl (cI, 736, .inl (z 3))), (z4, .inl (cZ, 2, .inl (z 4))), (z5, .inl (cI, 60, .inl (z 5))), (z6, .inl (cI, 20, .inl (z 6))), (z7, .inl (cI, 20, .inl (z 7))), (z8, .inl (cI, 20, .inl (z 8))), (z9, .inl (cI, 10, .inl (z 9)))]) H := hP
  have hD : va_D A ([(za, .inr (7, [.ref z1, .ref z2, .int (z 0 2), .ref z3, .ref z4, .int (z 0 5), .ref z5, .int (z 0 7), .ref z6, .ref z7, .ref z8, .int (z 0 11), .int (z 0 12), .int (z 0 13), .int (z 0 14), .ref z9, .int (z 0 16)])), (z1, .inl (cI, 367, .inl (upd (z 1) (Int32.toNatClampNeg ((107 + (13 * ((z 1) (Int32.toNatClampNeg 2)))) + 0)) x))), (z2, .inl (cI, 5872, .inl (z 2))), (z3, .inl (cI, 736, .inl (z 3))), (z4, .inl (cZ, 2, .inl (z 4))), (z5, .inl (cI, 60, .inl (z 5))), (z6, .inl (cI, 20, .inl (z 6))), (z7, .inl (cI, 20, .inl (z 7))), (z8, .inl (cI, 20, .inl (z 8))), (z9, .inl (cI, 10, .inl (z 9)))]) := hD
  refine lv_aload_n hx hb dX7_comes_24 rfl (lv_at hl 1 rfl) ?_
  refine va_get (D := D) (ci := 7) (v := .ref z1) (C := RX7) (T := TX7) (N := 17) hx hb hts inT7 hown hK hP 0 rfl rfl 0 (by decide) (hts _ mT_566) (fun _ h9 => h9) rfl dX7_comes_25 ?_
  refine lv_iload hx hb dX7_comes_28 (lv_at hl 0 rfl) ?_
  refine lv_iconst (v := 1) hx hb dX7_comes_30 (by decide) ?_
  refine lv_iadd hx hb dX7_comes_31 ?_
  refine lv_iload_n hx hb dX7_comes_32 rfl (lv_at hl 3 rfl) ?_
  obtain ⟨b33, hf⟩ := gd_some hf
  refine va_iast (n := 367) (f := upd (z 1) (Int32.toNatClampNeg ((107 + (13 * ((z 1) (Int32.toNatClampNeg 2)))) + 0)) x) hx hb hK hP hD hS 1 0 rfl rfl (ck_in b33) dX7_comes_33 (fun H locs hP hD hS => ?_)
  have hP : va_P D vwCl ([(za, .inr (7, [.ref z1, .ref z2, .int (z 0 2), .ref z3, .ref z4, .int (z 0 5), .ref z5, .int (z 0 7), .ref z6, .ref z7, .ref z8, .int (z 0 11), .int (z 0 12), .int (z 0 13), .int (z 0 14), .ref z9, .int (z 0 16)])), (z1, .inl (cI, 367, .inl (upd (upd (z 1) (Int32.toNatClampNeg ((107 + (13 * ((z 1) (Int32.toNatClampNeg 2)))) + 0)) x) (Int32.toNatClampNeg ((107 + (13 * ((z 1) (Int32.toNatClampNeg 2)))) + 1)) y))), (z2, .inl (cI, 5872, .inl (z 2))), (z3, .inl (cI, 736, .inl (z 3))), (z4, .inl (cZ, 2, .inl (z 4))), (z5, .inl (cI, 60, .inl (z 5))), (z6, .inl (cI, 20, .inl (z 6))), (z7, .inl (cI, 20, .inl (z 7))), (z8, .inl (cI, 20, .inl (z 8))), (z9, .inl (cI, 10, .inl (z 9)))]) H := hP
  have hD : va_D A ([(za, .inr (7, [.ref z1, .ref z2, .int (z 0 2), .ref z3, .ref z4, .int (z 0 5), .ref z5, .int (z 0 7), .ref z6, .ref z7, .ref z8, .int (z 0 11), .int (z 0 12), .int (z 0 13), .int (z 0 14), .ref z9, .int (z 0 16)])), (z1, .inl (cI, 367, .inl (upd (upd (z 1) (Int32.toNatClampNeg ((107 + (13 * ((z 1) (Int32.toNatClampNeg 2)))) + 0)) x) (Int32.toNatClampNeg ((107 + (13 * ((z 1) (Int32.toNatClampNeg 2)))) + 1)) y))), (z2, .inl (cI, 5872, .inl (z 2))), (z3, .inl (cI, 736, .inl (z 3))), (z4, .inl (cZ, 2, .inl (z 4))), (z5, .inl (cI, 60, .inl (z 5))), (z6, .inl (cI, 20, .inl (z 6))), (z7, .inl (cI, 20, .inl (z 7))), (z8, .inl (cI, 20, .inl (z 8))), (z9, .inl (cI, 10, .inl (z 9)))]) := hD
  refine lv_aload_n hx hb dX7_comes_34 rfl (lv_at hl 1 rfl) ?_
  refine va_get (D := D) (ci := 7) (v := .ref z1) (C := RX7) (T := TX7) (N := 17) hx hb hts inT7 hown hK hP 0 rfl rfl 0 (by decide) (hts _ mT_566) (fun _ h9 => h9) rfl dX7_comes_35 ?_
  refine lv_iload hx hb dX7_comes_38 (lv_at hl 0 rfl) ?_
  refine lv_iconst (v := 2) hx hb dX7_comes_40 (by decide) ?_
  refine lv_iadd hx hb dX7_comes_41 ?_
  refine lv_iload_n hx hb dX7_comes_42 rfl (lv_at hl 4 rfl) ?_
  obtain ⟨b43, hf⟩ := gd_some hf
  refine va_iast (n := 367) (f := upd (upd (z 1) (Int32.toNatClampNeg ((107 + (13 * ((z 1) (Int32.toNatClampNeg 2)))) + 0)) x) (Int32.toNatClampNeg ((107 + (13 * ((z 1) (Int32.toNatClampNeg 2)))) + 1)) y) hx hb hK hP hD hS 1 0 rfl rfl (ck_in b43) dX7_comes_43 (fun H locs hP hD hS => ?_)
  have hP : va_P D vwCl ([(za, .inr (7, [.ref z1, .ref z2, .int (z 0 2), .ref z3, .ref z4, .int (z 0 5), .ref z5, .int (z 0 7), .ref z6, .ref z7, .ref z8, .int (z 0 11), .int (z 0 12), .int (z 0 13), .int (z 0 14), .ref z9, .int (z 0 16)])), (z1, .inl (cI, 367, .inl (upd (upd (upd (z 1) (Int32.toNatClampNeg ((107 + (13 * ((z 1) (Int32.toNatClampNeg 2)))) + 0)) x) (Int32.toNatClampNeg ((107 + (13 * ((z 1) (Int32.toNatClampNeg 2)))) + 1)) y) (Int32.toNatClampNeg ((107 + (13 * ((z 1) (Int32.toNatClampNeg 2)))) + 2)) v))), (z2, .inl (cI, 5872, .inl (z 2))), (z3, .inl (cI, 736, .inl (z 3))), (z4, .inl (cZ, 2, .inl (z 4))), (z5, .inl (cI, 60, .inl (z 5))), (z6, .inl (cI, 20, .inl (z 6))), (z7, .inl (cI, 20, .inl (z 7))), (z8, .inl (cI, 20, .inl (z 8))), (z9, .inl (cI, 10, .inl (z 9)))]) H := hP
  have hD : va_D A ([(za, .inr (7, [.ref z1, .ref z2, .int (z 0 2), .ref z3, .ref z4, .int (z 0 5), .ref z5, .int (z 0 7), .ref z6, .ref z7, .ref z8, .int (z 0 11), .int (z 0 12), .int (z 0 13), .int (z 0 14), .ref z9, .int (z 0 16)])), (z1, .inl (cI, 367, .inl (upd (upd (upd (z 1) (Int32.toNatClampNeg ((107 + (13 * ((z 1) (Int32.toNatClampNeg 2)))) + 0)) x) (Int32.toNatClampNeg ((107 + (13 * ((z 1) (Int32.toNatClampNeg 2)))) + 1)) y) (Int32.toNatClampNeg ((107 + (13 * ((z 1) (Int32.toNatClampNeg 2)))) + 2)) v))), (z2, .inl (cI, 5872, .inl (z 2))), (z3, .inl (cI, 736, .inl (z 3))), (z4, .inl (cZ, 2, .inl (z 4))), (z5, .inl (cI, 60, .inl (z 5))), (z6, .inl (cI, 20, .inl (z 6))), (z7, .inl (cI, 20, .inl (z 7))), (z8, .inl (cI, 20, .inl (z 8))), (z9, .inl (cI, 10, .inl (z 9)))]) := hD
  refine lv_aload_n hx hb dX7_comes_44 rfl (lv_at hl 1 rfl) ?_
  refine va_get (D := D) (ci := 7) (v := .ref z1) (C := RX7) (T := TX7) (N := 17) hx hb hts inT7 hown hK hP 0 rfl rfl 0 (by decide) (hts _ mT_566) (fun _ h9 => h9) rfl dX7_comes_45 ?_
  refine lv_iload hx hb dX7_comes_48 (lv_at hl 0 rfl) ?_
  refine lv_iconst (v := 3) hx hb dX7_comes_50 (by decide) ?_
  refine lv_iadd hx hb dX7_comes_51 ?_
  refine lv_iload hx hb dX7_comes_52 (lv_at hl 5 rfl) ?_
  obtain ⟨b54, hf⟩ := gd_some hf
  refine va_iast (n := 367) (f := upd (upd (upd (z 1) (Int32.toNatClampNeg ((107 + (13 * ((z 1) (Int32.toNatClampNeg 2)))) + 0)) x) (Int32.toNatClampNeg ((107 + (13 * ((z 1) (Int32.toNatClampNeg 2)))) + 1)) y) (Int32.toNatClampNeg ((107 + (13 * ((z 1) (Int32.toNatClampNeg 2)))) + 2)) v) hx hb hK hP hD hS 1 0 rfl rfl (ck_in b54) dX7_comes_54 (fun H locs hP hD hS => ?_)
  have hP : va_P D vwCl ([(za, .inr (7, [.ref z1, .ref z2, .int (z 0 2), .ref z3, .ref z4, .int (z 0 5), .ref z5, .int (z 0 7), .ref z6, .ref z7, .ref z8, .int (z 0 11), .int (z 0 12), .int (z 0 13), .int (z 0 14), .ref z9, .int (z 0 16)])), (z1, .inl (cI, 367, .inl (upd (upd (upd (upd (z 1) (Int32.toNatClampNeg ((107 + (13 * ((z 1) (Int32.toNatClampNeg 2)))) + 0)) x) (Int32.toNatClampNeg ((107 + (13 * ((z 1) (Int32.toNatClampNeg 2)))) + 1)) y) (Int32.toNatClampNeg ((107 + (13 * ((z 1) (Int32.toNatClampNeg 2)))) + 2)) v) (Int32.toNatClampNeg ((107 + (13 * ((z 1) (Int32.toNatClampNeg 2)))) + 3)) u1))), (z2, .inl (cI, 5872, .inl (z 2))), (z3, .inl (cI, 736, .inl (z 3))), (z4, .inl (cZ, 2, .inl (z 4))), (z5, .inl (cI, 60, .inl (z 5))), (z6, .inl (cI, 20, .inl (z 6))), (z7, .inl (cI, 20, .inl (z 7))), (z8, .inl (cI, 20, .inl (z 8))), (z9, .inl (cI, 10, .inl (z 9)))]) H := hP
  have hD : va_D A ([(za, .inr (7, [.ref z1, .ref z2, .int (z 0 2), .ref z3, .ref z4, .int (z 0 5), .ref z5, .int (z 0 7), .ref z6, .ref z7, .ref z8, .int (z 0 11), .int (z 0 12), .int (z 0 13), .int (z 0 14), .ref z9, .int (z 0 16)])), (z1, .inl (cI, 367, .inl (upd (upd (upd (upd (z 1) (Int32.toNatClampNeg ((107 + (13 * ((z 1) (Int32.toNatClampNeg 2)))) + 0)) x) (Int32.toNatClampNeg ((107 + (13 * ((z 1) (Int32.toNatClampNeg 2)))) + 1)) y) (Int32.toNatClampNeg ((107 + (13 * ((z 1) (Int32.toNatClampNeg 2)))) + 2)) v) (Int32.toNatClampNeg ((107 + (13 * ((z 1) (Int32.toNatClampNeg 2)))) + 3)) u1))), (z2, .inl (cI, 5872, .inl (z 2))), (z3, .inl (cI, 736, .inl (z 3))), (z4, .inl (cZ, 2, .inl (z 4))), (z5, .inl (cI, 60, .inl (z 5))), (z6, .inl (cI, 20, .inl (z 6))), (z7, .inl (cI, 20, .inl (z 7))), (z8, .inl (cI, 20, .inl (z 8))), (z9, .inl (cI, 10, .inl (z 9)))]) := hD
  refine lv_aload_n hx hb dX7_comes_55 rfl (lv_at hl 1 rfl) ?_
  refine va_get (D := D) (ci := 7) (v := .ref z1) (C := RX7) (T := TX7) (N := 17) hx hb hts inT7 hown hK hP 0 rfl rfl 0 (by decide) (hts _ mT_566) (fun _ h9 => h9) rfl dX7_comes_56 ?_
  refine lv_iload hx hb dX7_comes_59 (lv_at hl 0 rfl) ?_
  refine lv_iconst (v := 4) hx hb dX7_comes_61 (by decide) ?_
  refine lv_iadd hx hb dX7_comes_62 ?_
  refine lv_iload hx hb dX7_comes_63 (lv_at hl 6 rfl) ?_
  obtain ⟨b65, hf⟩ := gd_some hf
  refine va_iast (n := 367) (f := upd (upd (upd (upd (z 1) (Int32.toNatClampNeg ((107 + (13 * ((z 1) (Int32.toNatClampNeg 2)))) + 0)) x) (Int32.toNatClampNeg ((107 + (13 * ((z 1) (Int32.toNatClampNeg 2)))) + 1)) y) (Int32.toNatClampNeg ((107 + (13 * ((z 1) (Int32.toNatClampNeg 2)))) + 2)) v) (Int32.toNatClampNeg ((107 + (13 * ((z 1) (Int32.toNatClampNeg 2)))) + 3)) u1) hx hb hK hP hD hS 1 0 rfl rfl (ck_in b65) dX7_comes_65 (fun H locs hP hD hS => ?_)
  have hP : va_P D vwCl ([(za, .inr (7, [.ref z1, .ref z2, .int (z 0 2), .ref z3, .ref z4, .int (z 0 5), .ref z5, .int (z 0 7), .ref z6, .ref z7, .ref z8, .int (z 0 11), .int (z 0 12), .int (z 0 13), .int (z 0 14), .ref z9, .int (z 0 16)])), (z1, .inl (cI, 367, .inl (upd (upd (upd (upd (upd (z 1) (Int32.toNatClampNeg ((107 + (13 * ((z 1) (Int32.toNatClampNeg 2)))) + 0)) x) (Int32.toNatClampNeg ((107 + (13 * ((z 1) (Int32.toNatClampNeg 2)))) + 1)) y) (Int32.toNatClampNeg ((107 + (13 * ((z 1) (Int32.toNatClampNeg 2)))) + 2)) v) (Int32.toNatClampNeg ((107 + (13 * ((z 1) (Int32.toNatClampNeg 2)))) + 3)) u1) (Int32.toNatClampNeg ((107 + (13 * ((z 1) (Int32.toNatClampNeg 2)))) + 4)) u2))), (z2, .inl (cI, 5872, .inl (z 2))), (z3, .inl (cI, 736, .inl (z 3))), (z4, .inl (cZ, 2, .inl (z 4))), (z5, .inl (cI, 60, .inl (z 5))), (z6, .inl (cI, 20, .inl (z 6))), (z7, .inl (cI, 20, .inl (z 7))), (z8, .inl (cI, 20, .inl (z 8))), (z9, .inl (cI, 10, .inl (z 9)))]) H := hP
  have hD : va_D A ([(za, .inr (7, [.ref z1, .ref z2, .int (z 0 2), .ref z3, .ref z4, .int (z 0 5), .ref z5, .int (z 0 7), .ref z6, .ref z7, .ref z8, .int (z 0 11), .int (z 0 12), .int (z 0 13), .int (z 0 14), .ref z9, .int (z 0 16)])), (z1, .inl (cI, 367, .inl (upd (upd (upd (upd (upd (z 1) (Int32.toNatClampNeg ((107 + (13 * ((z 1) (Int32.toNatClampNeg 2)))) + 0)) x) (Int32.toNatClampNeg ((107 + (13 * ((z 1) (Int32.toNatClampNeg 2)))) + 1)) y) (Int32.toNatClampNeg ((107 + (13 * ((z 1) (Int32.toNatClampNeg 2)))) + 2)) v) (Int32.toNatClampNeg ((107 + (13 * ((z 1) (Int32.toNatClampNeg 2)))) + 3)) u1) (Int32.toNatClampNeg ((107 + (13 * ((z 1) (Int32.toNatClampNeg 2)))) + 4)) u2))), (z2, .inl (cI, 5872, .inl (z 2))), (z3, .inl (cI, 736, .inl (z 3))), (z4, .inl (cZ, 2, .inl (z 4))), (z5, .inl (cI, 60, .inl (z 5))), (z6, .inl (cI, 20, .inl (z 6))), (z7, .inl (cI, 20, .inl (z 7))), (z8, .inl (cI, 20, .inl (z 8))), (z9, .inl (cI, 10, .inl (z 9)))]) := hD
  refine lv_iconst (v := 0) hx hb dX7_comes_66 (by decide) ?_
  refine lv_istore (lv' := [(7, .int 0), (6, .int (107 + (13 * ((z 1) (Int32.toNatClampNeg 2))))), (0, .ref za), (1, .int x), (2, .int y), (3, .int v), (4, .int u1), (5, .int u2)]) hx hb dX7_comes_67 hl (by decide) rfl (fun ls hl => ?_)
  have kx69 : ∀ (x7_69 : Int32) (z_69 : Ob) (H : Heap) (locs : List Loc) (ls : Array Slot), k_m_comes_69 x7_69 z_69 = some u → va_P D vwCl (cModel cI cZ za z1 z2 z3 z4 z5 z6 z7 z8 z9 z_69) H → va_D A (cModel cI cZ za z1 z2 z3 z4 z5 z6 z7 z8 z9 z_69) → va_S A s.heap H locs → lv_has ls 8 [(0, .ref za), (1, .int x), (2, .int y), (3, .int v), (4, .int u1), (5, .int u2), (6, .int (107 + (13 * ((z 1) (Int32.toNatClampNeg 2))))), (7, .int x7_69)] → W p l e ({ frames := 0, cells := 0, slots := 0, locals := 0 } : Room) s m ([.ref za, .int x, .int y, .int v, .int u1, .int u2] : List Value).toArray below meth c H locs 0 0 Q (F0 m 96 ls []) := by
    intro x7_69 z_69 H locs ls hf hP hD hS hl
    rw [k_m_comes_69] at hf
    refine lv_aload_n hx hb dX7_comes_96 rfl (lv_at hl 0 rfl) ?_
    refine va_get (D := D) (ci := 7) (v := .ref z1) (C := RX7) (T := TX7) (N := 17) hx hb hts inT7 hown hK hP 0 rfl rfl 0 (by decide) (hts _ mT_566) (fun _ h9 => h9) rfl dX7_comes_97 ?_
    refine lv_iconst (v := 2) hx hb dX7_comes_100 (by decide) ?_
    refine lv_dup2_11 hx hb dX7_comes_101 rfl rfl ?_
    refine va_iald (n := 367) (f := z_69 1) hx hb hK hP 1 0 rfl rfl (ck_in (by decide)) dX7_comes_102 ?_
    refine lv_iconst (v := 1) hx hb dX7_comes_103 (by decide) ?_
    refine lv_iadd hx hb dX7_comes_104 ?_
    refine va_iast (n := 367) (f := z_69 1) hx hb hK hP hD hS 1 0 rfl rfl (ck_in (by decide)) dX7_comes_105 (fun H locs hP hD hS => ?_)
    have hP : va_P D vwCl ([(za, .inr (7, [.ref z1, .ref z2, .int (z_69 0 2), .ref z3, .ref z4, .int (z_69 0 5), .ref z5, .int (z_69 0 7), .ref z6, .ref z7, .ref z8, .int (z_69 0 11), .int (z_69 0 12), .int (z_69 0 13), .int (z_69 0 14), .ref z9, .int (z_69 0 16)])), (z1, .inl (cI, 367, .inl (upd (z_69 1) (Int32.toNatClampNeg 2) (((z_69 1) (Int32.toNatClampNeg 2)) + 1)))), (z2, .inl (cI, 5872, .inl (z_69 2))), (z3, .inl (cI, 736, .inl (z_69 3))), (z4, .inl (cZ, 2, .inl (z_69 4))), (z5, .inl (cI, 60, .inl (z_69 5))), (z6, .inl (cI, 20, .inl (z_69 6))), (z7, .inl (cI, 20, .inl (z_69 7))), (z8, .inl (cI, 20, .inl (z_69 8))), (z9, .inl (cI, 10, .inl (z_69 9)))]) H := hP
    have hD : va_D A ([(za, .inr (7, [.ref z1, .ref z2, .int (z_69 0 2), .ref z3, .ref z4, .int (z_69 0 5), .ref z5, .int (z_69 0 7), .ref z6, .ref z7, .ref z8, .int (z_69 0 11), .int (z_69 0 12), .int (z_69 0 13), .int (z_69 0 14), .ref z9, .int (z_69 0 16)])), (z1, .inl (cI, 367, .inl (upd (z_69 1) (Int32.toNatClampNeg 2) (((z_69 1) (Int32.toNatClampNeg 2)) + 1)))), (z2, .inl (cI, 5872, .inl (z_69 2))), (z3, .inl (cI, 736, .inl (z_69 3))), (z4, .inl (cZ, 2, .inl (z_69 4))), (z5, .inl (cI, 60, .inl (z_69 5))), (z6, .inl (cI, 20, .inl (z_69 6))), (z7, .inl (cI, 20, .inl (z_69 7))), (z8, .inl (cI, 20, .inl (z_69 8))), (z9, .inl (cI, 10, .inl (z_69 9)))]) := hD
    exact hret _ _ (sA z_69 1 (upd (z_69 1) (Int32.toNatClampNeg 2) (((z_69 1) (Int32.toNatClampNeg 2)) + 1))) _ _ hf dX7_comes_106 hP hD hS
  have lh69 : ∀ (fu69 : Nat) (x7_69 : Int32) (z_69 : Ob) (H : Heap) (locs : List Loc) (ls : Array Slot), lp_m_comes_69 z k_m_comes_69 fu69 x7_69 z_69 = some u → va_P D vwCl (cModel cI cZ za z1 z2 z3 z4 z5 z6 z7 z8 z9 z_69) H → va_D A (cModel cI cZ za z1 z2 z3 z4 z5 z6 z7 z8 z9 z_69) → va_S A s.heap H locs → lv_has ls 8 [(0, .ref za), (1, .int x), (2, .int y), (3, .int v), (4, .int u1), (5, .int u2), (6, .int (107 + (13 * ((z 1) (Int32.toNatClampNeg 2))))), (7, .int x7_69)] → W p l e ({ frames := 0, cells := 0, slots := 0, locals := 0 } : Room) s m ([.ref za, .int x, .int y, .int v, .int u1, .int u2] : List Value).toArray below meth c H locs 0 0 Q (F0 m 69 ls []) := by
    intro fu69
    induction fu69 with
    | zero => intro x7_69 z_69 H locs ls hf hP hD hS hl; exact no_none hf
    | succ fu69 ih69 =>
      intro x7_69 z_69 H locs ls hf hP hD hS hl
      rw [lp_m_comes_69] at hf
      refine lv_iload hx hb dX7_comes_69 (lv_at hl 7 rfl) ?_
      refine lv_bipush (v := 8) hx hb dX7_comes_71 (by decide) ?_
      refine lv_icmp_ge (tgt := 96) hx hb dX7_comes_73 (by decide) (fun c73 => ?_) (fun c73 => ?_)
      · have hf := ite_t c73 hf
        exact kx69 x7_69 z_69 _ _ _ hf hP hD hS (lv_sub hl [0, 1, 2, 3, 4, 5, 6, 7] rfl)
      · have hf := ite_f c73 hf
        refine lv_aload_n hx hb dX7_comes_76 rfl (lv_at hl 0 rfl) ?_
        refine va_get (D := D) (ci := 7) (v := .ref z1) (C := RX7) (T := TX7) (N := 17) hx hb hts inT7 hown hK hP 0 rfl rfl 0 (by decide) (hts _ mT_566) (fun _ h9 => h9) rfl dX7_comes_77 ?_
        refine lv_iload hx hb dX7_comes_80 (lv_at hl 6 rfl) ?_
        refine lv_iconst (v := 5) hx hb dX7_comes_82 (by decide) ?_
        refine lv_iadd hx hb dX7_comes_83 ?_
        refine lv_iload hx hb dX7_comes_84 (lv_at hl 7 rfl) ?_
        refine lv_iadd hx hb dX7_comes_86 ?_
        refine lv_iload hx hb dX7_comes_87 (lv_at hl 7 rfl) ?_
        obtain ⟨b89, hf⟩ := gd_some hf
        refine va_iast (n := 367) (f := z_69 1) hx hb hK hP hD hS 1 0 rfl rfl (ck_in b89) dX7_comes_89 (fun H locs hP hD hS => ?_)
        have hP : va_P D vwCl ([(za, .inr (7, [.ref z1, .ref z2, .int (z_69 0 2), .ref z3, .ref z4, .int (z_69 0 5), .ref z5, .int (z_69 0 7), .ref z6, .ref z7, .ref z8, .int (z_69 0 11), .int (z_69 0 12), .int (z_69 0 13), .int (z_69 0 14), .ref z9, .int (z_69 0 16)])), (z1, .inl (cI, 367, .inl (upd (z_69 1) (Int32.toNatClampNeg (((107 + (13 * ((z 1) (Int32.toNatClampNeg 2)))) + 5) + x7_69)) x7_69))), (z2, .inl (cI, 5872, .inl (z_69 2))), (z3, .inl (cI, 736, .inl (z_69 3))), (z4, .inl (cZ, 2, .inl (z_69 4))), (z5, .inl (cI, 60, .inl (z_69 5))), (z6, .inl (cI, 20, .inl (z_69 6))), (z7, .inl (cI, 20, .inl (z_69 7))), (z8, .inl (cI, 20, .inl (z_69 8))), (z9, .inl (cI, 10, .inl (z_69 9)))]) H := hP
        have hD : va_D A ([(za, .inr (7, [.ref z1, .ref z2, .int (z_69 0 2), .ref z3, .ref z4, .int (z_69 0 5), .ref z5, .int (z_69 0 7), .ref z6, .ref z7, .ref z8, .int (z_69 0 11), .int (z_69 0 12), .int (z_69 0 13), .int (z_69 0 14), .ref z9, .int (z_69 0 16)])), (z1, .inl (cI, 367, .inl (upd (z_69 1) (Int32.toNatClampNeg (((107 + (13 * ((z 1) (Int32.toNatClampNeg 2)))) + 5) + x7_69)) x7_69))), (z2, .inl (cI, 5872, .inl (z_69 2))), (z3, .inl (cI, 736, .inl (z_69 3))), (z4, .inl (cZ, 2, .inl (z_69 4))), (z5, .inl (cI, 60, .inl (z_69 5))), (z6, .inl (cI, 20, .inl (z_69 6))), (z7, .inl (cI, 20, .inl (z_69 7))), (z8, .inl (cI, 20, .inl (z_69 8))), (z9, .inl (cI, 10, .inl (z_69 9)))]) := hD
        refine lv_iinc (v := x7_69 + 1) (lv' := [(7, .int (x7_69 + 1)), (0, .ref za), (1, .int x), (2, .int y), (3, .int v), (4, .int u1), (5, .int u2), (6, .int (107 + (13 * ((z 1) (Int32.toNatClampNeg 2)))))]) hx hb dX7_comes_90 hl (k := 7) rfl rfl (by decide) rfl (fun ls hl => ?_)
        refine lv_goto (tgt := 69) hx hb dX7_comes_93 (by decide) ?_
        exact ih69 (x7_69 + 1) (sA z_69 1 (upd (z_69 1) (Int32.toNatClampNeg (((107 + (13 * ((z 1) (Int32.toNatClampNeg 2)))) + 5) + x7_69)) x7_69)) _ _ _ hf hP hD hS (lv_sub hl [1, 2, 3, 4, 5, 6, 7, 0] rfl)
  exact lh69 10000 0 (sA (sA (sA (sA (sA z 1 (upd (z 1) (Int32.toNatClampNeg ((107 + (13 * ((z 1) (Int32.toNatClampNeg 2)))) + 0)) x)) 1 (upd (upd (z 1) (Int32.toNatClampNeg ((107 + (13 * ((z 1) (Int32.toNatClampNeg 2)))) + 0)) x) (Int32.toNatClampNeg ((107 + (13 * ((z 1) (Int32.toNatClampNeg 2)))) + 1)) y)) 1 (upd (upd (upd (z 1) (Int32.toNatClampNeg ((107 + (13 * ((z 1) (Int32.toNatClampNeg 2)))) + 0)) x) (Int32.toNatClampNeg ((107 + (13 * ((z 1) (Int32.toNatClampNeg 2)))) + 1)) y) (Int32.toNatClampNeg ((107 + (13 * ((z 1) (Int32.toNatClampNeg 2)))) + 2)) v)) 1 (upd (upd (upd (upd (z 1) (Int32.toNatClampNeg ((107 + (13 * ((z 1) (Int32.toNatClampNeg 2)))) + 0)) x) (Int32.toNatClampNeg ((107 + (13 * ((z 1) (Int32.toNatClampNeg 2)))) + 1)) y) (Int32.toNatClampNeg ((107 + (13 * ((z 1) (Int32.toNatClampNeg 2)))) + 2)) v) (Int32.toNatClampNeg ((107 + (13 * ((z 1) (Int32.toNatClampNeg 2)))) + 3)) u1)) 1 (upd (upd (upd (upd (upd (z 1) (Int32.toNatClampNeg ((107 + (13 * ((z 1) (Int32.toNatClampNeg 2)))) + 0)) x) (Int32.toNatClampNeg ((107 + (13 * ((z 1) (Int32.toNatClampNeg 2)))) + 1)) y) (Int32.toNatClampNeg ((107 + (13 * ((z 1) (Int32.toNatClampNeg 2)))) + 2)) v) (Int32.toNatClampNeg ((107 + (13 * ((z 1) (Int32.toNatClampNeg 2)))) + 3)) u1) (Int32.toNatClampNeg ((107 + (13 * ((z 1) (Int32.toNatClampNeg 2)))) + 4)) u2)) _ _ _ hf hP hD hS (lv_sub hl [2, 3, 4, 5, 6, 7, 1, 0] rfl)
theorem s_yX7_way : kMS yX7_way cX7_way 3 (some .int) 2 := ⟨mT_794, mT_59, by decide +kernel⟩
theorem v_yX7_way : kMV yX7_way := ⟨mT_792, mT_793⟩
def f_m_way (z : Ob) (x : Int32) (y : Int32) : Option (Int32 × Ob) := bd (f_m_isPlace z x) (fun q2 => if q2 = 0 then (some ((-1000000001), z)) else (bd (f_m_isPlace z y) (fun q10 => if q10 = 0 then (some ((-1000000001), z)) else (if ((z 1) (Int32.toNatClampNeg 2)) = 20 then (some ((-1000000004), z)) else (bd (f_m_notes z) (fun q34 => bd (f_m_comes q34 x y 0 0 0) (fun q43 => some (((q43 1) (Int32.toNatClampNeg 2)) - 1, q43))))))))
set_option maxHeartbeats 4000000 in
set_option maxRecDepth 100000 in
theorem c_m_way (l : Launch) (D : va_G) (cI cZ cR : ClassId) (za z1 z2 z3 z4 z5 z6 z7 z8 z9 : Nat) (z : Ob) (x : Int32) (y : Int32) (sz : Nat) (r : Int32) (u : Ob) (hf : f_m_way z x y = some (r, u)) : kCi l yX7_way cX7_way 3 (some .int) { frames := 2, cells := 0, slots := 0, locals := 43 } [.ref za, .int x, .int y] D cI cZ cR (cModel cI cZ za z1 z2 z3 z4 z5 z6 z7 z8 z9 z) sz (cModel cI cZ za z1 z2 z3 z4 z5 z6 z7 z8 z9 u) r := by
  refine kMwi (wf := (fun u : Ob => cModel cI cZ za z1 z2 z3 z4 z5 z6 z7 z8 z9 u)) (u := u) (by decide) (Nat.le_of_ble_eq_true rfl) ?_
  intro p e s m below meth c Q A hx hb hml hown hts hk hP hD hA hS hret ls hl
  have hS0 := hS
  have hK := hk.1
  have hl : lv_has ls 3 [(0, .ref za), (1, .int x), (2, .int y)] := hl
  rw [f_m_way] at hf
  refine lv_aload_n hx hb dX7_way_0 rfl (lv_at hl 0 rfl) ?_
  refine lv_iload_n hx hb dX7_way_1 rfl (lv_at hl 1 rfl) ?_
  obtain ⟨q2, h2, hf⟩ := bd_some hf
  refine kx_rv (As := [.int x]) (rest := []) hx hb hml hown hts hk hP hl.1 s_yX7_isPlace v_yX7_isPlace (c_m_isPlace l D cI cZ cR za z1 z2 z3 z4 z5 z6 z7 z8 z9 z x _ h2) mT_715 rfl rfl ⟨Nat.le_of_ble_eq_true rfl, Nat.le_of_ble_eq_true rfl⟩ (ci := 7) (q0 := 0) rfl rfl rfl (Nat.le_of_ble_eq_true rfl) ⟨Nat.zero_le _, Nat.zero_le _⟩ dX7_way_2 ?_
  refine lv_if_eq (tgt := 16) hx hb dX7_way_5 (by decide) (fun c5 => ?_) (fun c5 => ?_)
  · have hf := ite_t c5 hf
    refine lv_ldc (v := (-1000000001)) hx hb hown (hts _ mT_731) dX7_way_16 ?_
    exact hret _ _ _ z _ _ hf dX7_way_18 hP hD hS
  · have hf := ite_f c5 hf
    refine lv_aload_n hx hb dX7_way_8 rfl (lv_at hl 0 rfl) ?_
    refine lv_iload_n hx hb dX7_way_9 rfl (lv_at hl 2 rfl) ?_
    obtain ⟨q10, h10, hf⟩ := bd_some hf
    refine kx_rv (As := [.int y]) (rest := []) hx hb hml hown hts hk hP hl.1 s_yX7_isPlace v_yX7_isPlace (c_m_isPlace l D cI cZ cR za z1 z2 z3 z4 z5 z6 z7 z8 z9 z y _ h10) mT_715 rfl rfl ⟨Nat.le_of_ble_eq_true rfl, Nat.le_of_ble_eq_true rfl⟩ (ci := 7) (q0 := 0) rfl rfl rfl (Nat.le_of_ble_eq_true rfl) ⟨Nat.zero_le _, Nat.zero_le _⟩ dX7_way_10 ?_
    refine lv_if_ne (tgt := 19) hx hb dX7_way_13 (by decide) (fun c13 => ?_) (fun c13 => ?_)
    · have hf := ite_f c13 hf
      refine lv_aload_n hx hb dX7_way_19 rfl (lv_at hl 0 rfl) ?_
      refine va_get (D := D) (ci := 7) (v := .ref z1) (C := RX7) (T := TX7) (N := 17) hx hb hts inT7 hown hK hP 0 rfl rfl 0 (by decide) (hts _ mT_566) (fun _ h9 => h9) rfl dX7_way_20 ?_
      refine lv_iconst (v := 2) hx hb dX7_way_23 (by decide) ?_
      refine va_iald (n := 367) (f := z 1) hx hb hK hP 1 0 rfl rfl (ck_in (by decide)) dX7_way_24 ?_
      refine lv_bipush (v := 20) hx hb dX7_way_25 (by decide) ?_
      refine lv_icmp_ne (tgt := 33) hx hb dX7_way_27 (by decide) (fun c27 => ?_) (fun c27 => ?_)
      · have hf := ite_f c27 hf
        refine lv_aload_n hx hb dX7_way_33 rfl (lv_at hl 0 rfl) ?_
        obtain ⟨q34, h34, hf⟩ := bd_some hf
        refine kx_wv (As := []) (rest := []) (wc := cModel cI cZ za z1 z2 z3 z4 z5 z6 z7 z8 z9 z) (wr := []) (wd := cModel cI cZ za z1 z2 z3 z4 z5 z6 z7 z8 z9 q34) (wn := cModel cI cZ za z1 z2 z3 z4 z5 z6 z7 z8 z9 q34) hx hb hml hown hts hk hP hD hS hA hl.1 s_yX7_notes v_yX7_notes (c_m_notes l D cI cZ cR za z1 z2 z3 z4 z5 z6 z7 z8 z9 z s.heap.size _ h34) mT_776 rfl rfl ⟨Nat.le_of_ble_eq_true rfl, Nat.le_of_ble_eq_true rfl⟩ [0, 1, 2, 3, 4, 5, 6, 7, 8, 9] [] [0, 1, 2, 3, 4, 5, 6, 7, 8, 9] rfl rfl (by decide) (by decide) (by decide) (by decide) rfl (ci := 7) (q0 := 0) rfl rfl rfl (Nat.le_of_ble_eq_true rfl) ⟨Nat.zero_le _, Nat.zero_le _⟩ dX7_way_34 (fun H locs hP hD hS => ?_)
        refine lv_aload_n hx hb dX7_way_37 rfl (lv_at hl 0 rfl) ?_
        refine lv_iload_n hx hb dX7_way_38 rfl (lv_at hl 1 rfl) ?_
        refine lv_iload_n hx hb dX7_way_39 rfl (lv_at hl 2 rfl) ?_
        refine lv_iconst (v := 0) hx hb dX7_way_40 (by decide) ?_
        refine lv_iconst (v := 0) hx hb dX7_way_41 (by decide) ?_
        refine lv_iconst (v := 0) hx hb dX7_way_42 (by decide) ?_
        obtain ⟨q43, h43, hf⟩ := bd_some hf
        refine kx_wv (As := [.int x, .int y, .int 0, .int 0, .int 0]) (rest := []) (wc := cModel cI cZ za z1 z2 z3 z4 z5 z6 z7 z8 z9 q34) (wr := []) (wd := cModel cI cZ za z1 z2 z3 z4 z5 z6 z7 z8 z9 q43) (wn := cModel cI cZ za z1 z2 z3 z4 z5 z6 z7 z8 z9 q43) hx hb hml hown hts hk hP hD hS hA hl.1 s_yX7_comes v_yX7_comes (c_m_comes l D cI cZ cR za z1 z2 z3 z4 z5 z6 z7 z8 z9 q34 x y 0 0 0 H.size _ h43) mT_796 rfl rfl ⟨Nat.le_of_ble_eq_true rfl, Nat.le_of_ble_eq_true rfl⟩ [0, 1, 2, 3, 4, 5, 6, 7, 8, 9] [] [0, 1, 2, 3, 4, 5, 6, 7, 8, 9] rfl rfl (by decide) (by decide) (by decide) (by decide) rfl (ci := 7) (q0 := 0) rfl rfl rfl (Nat.le_of_ble_eq_true rfl) ⟨Nat.zero_le _, Nat.zero_le _⟩ dX7_way_43 (fun H locs hP hD hS => ?_)
        refine lv_aload_n hx hb dX7_way_46 rfl (lv_at hl 0 rfl) ?_
        refine va_get (D := D) (ci := 7) (v := .ref z1) (C := RX7) (T := TX7) (N := 17) hx hb hts inT7 hown hK hP 0 rfl rfl 0 (by decide) (hts _ mT_566) (fun _ h9 => h9) rfl dX7_way_47 ?_
        refine lv_iconst (v := 2) hx hb dX7_way_50 (by decide) ?_
        refine va_iald (n := 367) (f := q43 1) hx hb hK hP 1 0 rfl rfl (ck_in (by decide)) dX7_way_51 ?_
        refine lv_iconst (v := 1) hx hb dX7_way_52 (by decide) ?_
        refine lv_isub hx hb dX7_way_53 ?_
        exact hret _ _ _ q43 _ _ hf dX7_way_54 hP hD hS
      · have hf := ite_t c27 hf
        refine lv_ldc (v := (-1000000004)) hx hb hown (hts _ mT_795) dX7_way_30 ?_
        exact hret _ _ _ z _ _ hf dX7_way_32 hP hD hS
    · have hf := ite_t c13 hf
      refine lv_ldc (v := (-1000000001)) hx hb hown (hts _ mT_731) dX7_way_16 ?_
      exact hret _ _ _ z _ _ hf dX7_way_18 hP hD hS
theorem s_yX7_drop : kMS yX7_drop cX7_drop 3 (some .int) 1 := ⟨mT_803, mT_59, by decide +kernel⟩
theorem v_yX7_drop : kMV yX7_drop := ⟨mT_801, mT_802⟩
def k_m_drop_23 (x2_23 : Int32) (z_23 : Ob) : Option (Int32 × Ob) := some ((upd (z_23 1) (Int32.toNatClampNeg 2) (((z_23 1) (Int32.toNatClampNeg 2)) - 1)) (Int32.toNatClampNeg 2), sA z_23 1 (upd (z_23 1) (Int32.toNatClampNeg 2) (((z_23 1) (Int32.toNatClampNeg 2)) - 1)))
def lp_m_drop_23 (kk0 : Int32 → Ob → Option (Int32 × Ob)) : Nat → Int32 → Ob → Option (Int32 × Ob)
  | 0, _, _ => none
  | fu23 + 1, x2_23, z_23 => if 367 ≤ (x2_23 + 13) then (kk0 x2_23 z_23) else (gd (ck (x2_23 + 13) 367) (gd (ck x2_23 367) ((lp_m_drop_23 kk0 fu23) (x2_23 + 1) (sA z_23 1 (upd (z_23 1) (Int32.toNatClampNeg x2_23) ((z_23 1) (Int32.toNatClampNeg (x2_23 + 13))))))))
def f_m_drop (z : Ob) (x : Int32) : Option (Int32 × Ob) := bd (f_m_isWay z x) (fun q2 => if q2 = 0 then (some ((-1000000001), z)) else (bd (f_m_notes z) (fun q12 => lp_m_drop_23 k_m_drop_23 10000 (107 + (13 * x)) q12)))
set_option maxHeartbeats 4000000 in
set_option maxRecDepth 100000 in
theorem c_m_drop (l : Launch) (D : va_G) (cI cZ cR : ClassId) (za z1 z2 z3 z4 z5 z6 z7 z8 z9 : Nat) (z : Ob) (x : Int32) (sz : Nat) (r : Int32) (u : Ob) (hf : f_m_drop z x = some (r, u)) : kCi l yX7_drop cX7_drop 3 (some .int) { frames := 2, cells := 0, slots := 0, locals := 43 } [.ref za, .int x] D cI cZ cR (cModel cI cZ za z1 z2 z3 z4 z5 z6 z7 z8 z9 z) sz (cModel cI cZ za z1 z2 z3 z4 z5 z6 z7 z8 z9 u) r := by
  refine kMwi (wf := (fun u : Ob => cModel cI cZ za z1 z2 z3 z4 z5 z6 z7 z8 z9 u)) (u := u) (by decide) (Nat.le_of_ble_eq_true rfl) ?_
  intro p e s m below meth c Q A hx hb hml hown hts hk hP hD hA hS hret ls hl
  have hS0 := hS
  have hK := hk.1
  have hl : lv_has ls 3 [(0, .ref za), (1, .int x)] := hl
  rw [f_m_drop] at hf
  refine lv_aload_n hx hb dX7_drop_0 rfl (lv_at hl 0 rfl) ?_
  refine lv_iload_n hx hb dX7_drop_1 rfl (lv_at hl 1 rfl) ?_
  obtain ⟨q2, h2, hf⟩ := bd_some hf
  refine kx_rv (As := [.int x]) (rest := []) hx hb hml hown hts hk hP hl.1 s_yX7_isWay v_yX7_isWay (c_m_isWay l D cI cZ cR za z1 z2 z3 z4 z5 z6 z7 z8 z9 z x _ h2) mT_752 rfl rfl ⟨Nat.le_of_ble_eq_true rfl, Nat.le_of_ble_eq_true rfl⟩ (ci := 7) (q0 := 0) rfl rfl rfl (Nat.le_of_ble_eq_true rfl) ⟨Nat.zero_le _, Nat.zero_le _⟩ dX7_drop_2 ?_
  refine lv_if_ne (tgt := 11) hx hb dX7_drop_5 (by decide) (fun c5 => ?_) (fun c5 => ?_)
  · have hf := ite_f c5 hf
    refine lv_aload_n hx hb dX7_drop_11 rfl (lv_at hl 0 rfl) ?_
    obtain ⟨q12, h12, hf⟩ := bd_some hf
    refine kx_wv (As := []) (rest := []) (wc := cModel cI cZ za z1 z2 z3 z4 z5 z6 z7 z8 z9 z) (wr := []) (wd := cModel cI cZ za z1 z2 z3 z4 z5 z6 z7 z8 z9 q12) (wn := cModel cI cZ za z1 z2 z3 z4 z5 z6 z7 z8 z9 q12) hx hb hml hown hts hk hP hD hS hA hl.1 s_yX7_notes v_yX7_notes (c_m_notes l D cI cZ cR za z1 z2 z3 z4 z5 z6 z7 z8 z9 z s.heap.size _ h12) mT_776 rfl rfl ⟨Nat.le_of_ble_eq_true rfl, Nat.le_of_ble_eq_true rfl⟩ [0, 1, 2, 3, 4, 5, 6, 7, 8, 9] [] [0, 1, 2, 3, 4, 5, 6, 7, 8, 9] rfl rfl (by decide) (by decide) (by decide) (by decide) rfl (ci := 7) (q0 := 0) rfl rfl rfl (Nat.le_of_ble_eq_true rfl) ⟨Nat.zero_le _, Nat.zero_le _⟩ dX7_drop_12 (fun H locs hP hD hS => ?_)
    refine lv_bipush (v := 107) hx hb dX7_drop_15 (by decide) ?_
    refine lv_bipush (v := 13) hx hb dX7_drop_17 (by decide) ?_
    refine lv_iload_n hx hb dX7_drop_19 rfl (lv_at hl 1 rfl) ?_
    refine lv_imul hx hb dX7_drop_20 ?_
    refine lv_iadd hx hb dX7_drop_21 ?_
    refine lv_istore_n (lv' := [(2, .int (107 + (13 * x))), (0, .ref za), (1, .int x)]) hx hb dX7_drop_22 rfl hl (by decide) rfl (fun ls hl => ?_)
    have kx23 : ∀ (x2_23 : Int32) (z_23 : Ob) (H : Heap) (locs : List Loc) (ls : Array Slot), k_m_drop_23 x2_23 z_23 = some (r, u) → va_P D vwCl (cModel cI cZ za z1 z2 z3 z4 z5 z6 z7 z8 z9 z_23) H → va_D A (cModel cI cZ za z1 z2 z3 z4 z5 z6 z7 z8 z9 z_23) → va_S A s.heap H locs → lv_has ls 3 [(0, .ref za), (1, .int x), (2, .int x2_23)] → W p l e ({ frames := 2, cells := 0, slots := 0, locals := 43 } : Room) s m ([.ref za, .int x] : List Value).toArray below meth c H locs 0 0 Q (F0 m 54 ls []) := by
      intro x2_23 z_23 H locs ls hf hP hD hS hl
      rw [k_m_drop_23] at hf
      refine lv_aload_n hx hb dX7_drop_54 rfl (lv_at hl 0 rfl) ?_
      refine va_get (D := D) (ci := 7) (v := .ref z1) (C := RX7) (T := TX7) (N := 17) hx hb hts inT7 hown hK hP 0 rfl rfl 0 (by decide) (hts _ mT_566) (fun _ h9 => h9) rfl dX7_drop_55 ?_
      refine lv_iconst (v := 2) hx hb dX7_drop_58 (by decide) ?_
      refine lv_dup2_11 hx hb dX7_drop_59 rfl rfl ?_
      refine va_iald (n := 367) (f := z_23 1) hx hb hK hP 1 0 rfl rfl (ck_in (by decide)) dX7_drop_60 ?_
      refine lv_iconst (v := 1) hx hb dX7_drop_61 (by decide) ?_
      refine lv_isub hx hb dX7_drop_62 ?_
      refine va_iast (n := 367) (f := z_23 1) hx hb hK hP hD hS 1 0 rfl rfl (ck_in (by decide)) dX7_drop_63 (fun H locs hP hD hS => ?_)
      have hP : va_P D vwCl ([(za, .inr (7, [.ref z1, .ref z2, .int (z_23 0 2), .ref z3, .ref z4, .int (z_23 0 5), .ref z5, .int (z_23 0 7), .ref z6, .ref z7, .ref z8, .int (z_23 0 11), .int (z_23 0 12), .int (z_23 0 13), .int (z_23 0 14), .ref z9, .int (z_23 0 16)])), (z1, .inl (cI, 367, .inl (upd (z_23 1) (Int32.toNatClampNeg 2) (((z_23 1) (Int32.toNatClampNeg 2)) - 1)))), (z2, .inl (cI, 5872, .inl (z_23 2))), (z3, .inl (cI, 736, .inl (z_23 3))), (z4, .inl (cZ, 2, .inl (z_23 4))), (z5, .inl (cI, 60, .inl (z_23 5))), (z6, .inl (cI, 20, .inl (z_23 6))), (z7, .inl (cI, 20, .inl (z_23 7))), (z8, .inl (cI, 20, .inl (z_23 8))), (z9, .inl (cI, 10, .inl (z_23 9)))]) H := hP
      have hD : va_D A ([(za, .inr (7, [.ref z1, .ref z2, .int (z_23 0 2), .ref z3, .ref z4, .int (z_23 0 5), .ref z5, .int (z_23 0 7), .ref z6, .ref z7, .ref z8, .int (z_23 0 11), .int (z_23 0 12), .int (z_23 0 13), .int (z_23 0 14), .ref z9, .int (z_23 0 16)])), (z1, .inl (cI, 367, .inl (upd (z_23 1) (Int32.toNatClampNeg 2) (((z_23 1) (Int32.toNatClampNeg 2)) - 1)))), (z2, .inl (cI, 5872, .inl (z_23 2))), (z3, .inl (cI, 736, .inl (z_23 3))), (z4, .inl (cZ, 2, .inl (z_23 4))), (z5, .inl (cI, 60, .inl (z_23 5))), (z6, .inl (cI, 20, .inl (z_23 6))), (z7, .inl (cI, 20, .inl (z_23 7))), (z8, .inl (cI, 20, .inl (z_23 8))), (z9, .inl (cI, 10, .inl (z_23 9)))]) := hD
      refine lv_aload_n hx hb dX7_drop_64 rfl (lv_at hl 0 rfl) ?_
      refine va_get (D := D) (ci := 7) (v := .ref z1) (C := RX7) (T := TX7) (N := 17) hx hb hts inT7 hown hK hP 0 rfl rfl 0 (by decide) (hts _ mT_566) (fun _ h9 => h9) rfl dX7_drop_65 ?_
      refine lv_iconst (v := 2) hx hb dX7_drop_68 (by decide) ?_
      refine va_iald (n := 367) (f := upd (z_23 1) (Int32.toNatClampNeg 2) (((z_23 1) (Int32.toNatClampNeg 2)) - 1)) hx hb hK hP 1 0 rfl rfl (ck_in (by decide)) dX7_drop_69 ?_
      exact hret _ _ _ (sA z_23 1 (upd (z_23 1) (Int32.toNatClampNeg 2) (((z_23 1) (Int32.toNatClampNeg 2)) - 1))) _ _ hf dX7_drop_70 hP hD hS
    have lh23 : ∀ (fu23 : Nat) (x2_23 : Int32) (z_23 : Ob) (H : Heap) (locs : List Loc) (ls : Array Slot), lp_m_drop_23 k_m_drop_23 fu23 x2_23 z_23 = some (r, u) → va_P D vwCl (cModel cI cZ za z1 z2 z3 z4 z5 z6 z7 z8 z9 z_23) H → va_D A (cModel cI cZ za z1 z2 z3 z4 z5 z6 z7 z8 z9 z_23) → va_S A s.heap H locs → lv_has ls 3 [(0, .ref za), (1, .int x), (2, .int x2_23)] → W p l e ({ frames := 2, cells := 0, slots := 0, locals := 43 } : Room) s m ([.ref za, .int x] : List Value).toArray below meth c H locs 0 0 Q (F0 m 23 ls []) := by
      intro fu23
      induction fu23 with
      | zero => intro x2_23 z_23 H locs ls hf hP hD hS hl; exact no_none hf
      | succ fu23 ih23 =>
        intro x2_23 z_23 H locs ls hf hP hD hS hl
        rw [lp_m_drop_23] at hf
        refine lv_iload_n hx hb dX7_drop_23 rfl (lv_at hl 2 rfl) ?_
        refine lv_bipush (v := 13) hx hb dX7_drop_24 (by decide) ?_
        refine lv_iadd hx hb dX7_drop_26 ?_
        refine lv_sipush (v := 367) hx hb dX7_drop_27 (by decide) ?_
        refine lv_icmp_ge (tgt := 54) hx hb dX7_drop_30 (by decide) (fun c30 => ?_) (fun c30 => ?_)
        · have hf := ite_t c30 hf
          exact kx23 x2_23 z_23 _ _ _ hf hP hD hS (lv_sub hl [0, 1, 2] rfl)
        · have hf := ite_f c30 hf
          refine lv_aload_n hx hb dX7_drop_33 rfl (lv_at hl 0 rfl) ?_
          refine va_get (D := D) (ci := 7) (v := .ref z1) (C := RX7) (T := TX7) (N := 17) hx hb hts inT7 hown hK hP 0 rfl rfl 0 (by decide) (hts _ mT_566) (fun _ h9 => h9) rfl dX7_drop_34 ?_
          refine lv_iload_n hx hb dX7_drop_37 rfl (lv_at hl 2 rfl) ?_
          refine lv_aload_n hx hb dX7_drop_38 rfl (lv_at hl 0 rfl) ?_
          refine va_get (D := D) (ci := 7) (v := .ref z1) (C := RX7) (T := TX7) (N := 17) hx hb hts inT7 hown hK hP 0 rfl rfl 0 (by decide) (hts _ mT_566) (fun _ h9 => h9) rfl dX7_drop_39 ?_
          refine lv_iload_n hx hb dX7_drop_42 rfl (lv_at hl 2 rfl) ?_
          refine lv_bipush (v := 13) hx hb dX7_drop_43 (by decide) ?_
          refine lv_iadd hx hb dX7_drop_45 ?_
          obtain ⟨b46, hf⟩ := gd_some hf
          refine va_iald (n := 367) (f := z_23 1) hx hb hK hP 1 0 rfl rfl (ck_in b46) dX7_drop_46 ?_
          obtain ⟨b47, hf⟩ := gd_some hf
          refine va_iast (n := 367) (f := z_23 1) hx hb hK hP hD hS 1 0 rfl rfl (ck_in b47) dX7_drop_47 (fun H locs hP hD hS => ?_)
          have hP : va_P D vwCl ([(za, .inr (7, [.ref z1, .ref z2, .int (z_23 0 2), .ref z3, .ref z4, .int (z_23 0 5), .ref z5, .int (z_23 0 7), .ref z6, .ref z7, .ref z8, .int (z_23 0 11), .int (z_23 0 12), .int (z_23 0 13), .int (z_23 0 14), .ref z9, .int (z_23 0 16)])), (z1, .inl (cI, 367, .inl (upd (z_23 1) (Int32.toNatClampNeg x2_23) ((z_23 1) (Int32.toNatClampNeg (x2_23 + 13)))))), (z2, .inl (cI, 5872, .inl (z_23 2))), (z3, .inl (cI, 736, .inl (z_23 3))), (z4, .inl (cZ, 2, .inl (z_23 4))), (z5, .inl (cI, 60, .inl (z_23 5))), (z6, .inl (cI, 20, .inl (z_23 6))), (z7, .inl (cI, 20, .inl (z_23 7))), (z8, .inl (cI, 20, .inl (z_23 8))), (z9, .inl (cI, 10, .inl (z_23 9)))]) H := hP
          have hD : va_D A ([(za, .inr (7, [.ref z1, .ref z2, .int (z_23 0 2), .ref z3, .ref z4, .int (z_23 0 5), .ref z5, .int (z_23 0 7), .ref z6, .ref z7, .ref z8, .int (z_23 0 11), .int (z_23 0 12), .int (z_23 0 13), .int (z_23 0 14), .ref z9, .int (z_23 0 16)])), (z1, .inl (cI, 367, .inl (upd (z_23 1) (Int32.toNatClampNeg x2_23) ((z_23 1) (Int32.toNatClampNeg (x2_23 + 13)))))), (z2, .inl (cI, 5872, .inl (z_23 2))), (z3, .inl (cI, 736, .inl (z_23 3))), (z4, .inl (cZ, 2, .inl (z_23 4))), (z5, .inl (cI, 60, .inl (z_23 5))), (z6, .inl (cI, 20, .inl (z_23 6))), (z7, .inl (cI, 20, .inl (z_23 7))), (z8, .inl (cI, 20, .inl (z_23 8))), (z9, .inl (cI, 10, .inl (z_23 9)))]) := hD
          refine lv_iinc (v := x2_23 + 1) (lv' := [(2, .int (x2_23 + 1)), (0, .ref za), (1, .int x)]) hx hb dX7_drop_48 hl (k := 2) rfl rfl (by decide) rfl (fun ls hl => ?_)
          refine lv_goto (tgt := 23) hx hb dX7_drop_51 (by decide) ?_
          exact ih23 (x2_23 + 1) (sA z_23 1 (upd (z_23 1) (Int32.toNatClampNeg x2_23) ((z_23 1) (Int32.toNatClampNeg (x2_23 + 13))))) _ _ _ hf hP hD hS (lv_sub hl [1, 2, 0] rfl)
    exact lh23 10000 (107 + (13 * x)) q12 _ _ _ hf hP hD hS (lv_sub hl [1, 2, 0] rfl)
  · have hf := ite_t c5 hf
    refine lv_ldc (v := (-1000000001)) hx hb hown (hts _ mT_731) dX7_drop_8 ?_
    exact hret _ _ _ z _ _ hf dX7_drop_10 hP hD hS
theorem s_yX7_map : kMS yX7_map cX7_map 5 (some .int) 3 := ⟨mT_807, mT_59, by decide +kernel⟩
theorem v_yX7_map : kMV yX7_map := ⟨mT_805, mT_806⟩
def f_m_map (z : Ob) (x : Int32) (y : Int32) (v : Int32) : Option (Int32 × Ob) := bd (f_m_isWay z x) (fun q2 => if q2 = 0 then (some ((-1000000001), z)) else (bd (f_m_isValue z y) (fun q10 => if q10 = 0 then (some ((-1000000001), z)) else (bd (f_m_isValue z v) (fun q18 => if q18 = 0 then (some ((-1000000001), z)) else (bd (f_m_notes z) (fun q28 => bd (f_m_of q28 x (5 + y)) (fun q36 => gd (ck (((107 + (13 * x)) + 5) + y) 367) (some (q36, sA q28 1 (upd (q28 1) (Int32.toNatClampNeg (((107 + (13 * x)) + 5) + y)) v)))))))))))
set_option maxHeartbeats 4000000 in
set_option maxRecDepth 100000 in
theorem c_m_map (l : Launch) (D : va_G) (cI cZ cR : ClassId) (za z1 z2 z3 z4 z5 z6 z7 z8 z9 : Nat) (z : Ob) (x : Int32) (y : Int32) (v : Int32) (sz : Nat) (r : Int32) (u : Ob) (hf : f_m_map z x y v = some (r, u)) : kCi l yX7_map cX7_map 5 (some .int) { frames := 2, cells := 0, slots := 0, locals := 43 } [.ref za, .int x, .int y, .int v] D cI cZ cR (cModel cI cZ za z1 z2 z3 z4 z5 z6 z7 z8 z9 z) sz (cModel cI cZ za z1 z2 z3 z4 z5 z6 z7 z8 z9 u) r := by
  refine kMwi (wf := (fun u : Ob => cModel cI cZ za z1 z2 z3 z4 z5 z6 z7 z8 z9 u)) (u := u) (by decide) (Nat.le_of_ble_eq_true rfl) ?_
  intro p e s m below meth c Q A hx hb hml hown hts hk hP hD hA hS hret ls hl
  have hS0 := hS
  have hK := hk.1
  have hl : lv_has ls 5 [(0, .ref za), (1, .int x), (2, .int y), (3, .int v)] := hl
  rw [f_m_map] at hf
  refine lv_aload_n hx hb dX7_map_0 rfl (lv_at hl 0 rfl) ?_
  refine lv_iload_n hx hb dX7_map_1 rfl (lv_at hl 1 rfl) ?_
  obtain ⟨q2, h2, hf⟩ := bd_some hf
  refine kx_rv (As := [.int x]) (rest := []) hx hb hml hown hts hk hP hl.1 s_yX7_isWay v_yX7_isWay (c_m_isWay l D cI cZ cR za z1 z2 z3 z4 z5 z6 z7 z8 z9 z x _ h2) mT_752 rfl rfl ⟨Nat.le_of_ble_eq_true rfl, Nat.le_of_ble_eq_true rfl⟩ (ci := 7) (q0 := 0) rfl rfl rfl (Nat.le_of_ble_eq_true rfl) ⟨Nat.zero_le _, Nat.zero_le _⟩ dX7_map_2 ?_
  refine lv_if_eq (tgt := 24) hx hb dX7_map_5 (by decide) (fun c5 => ?_) (fun c5 => ?_)
  · have hf := ite_t c5 hf
    refine lv_ldc (v := (-1000000001)) hx hb hown (hts _ mT_731) dX7_map_24 ?_
    exact hret _ _ _ z _ _ hf dX7_map_26 hP hD hS
  · have hf := ite_f c5 hf
    refine lv_aload_n hx hb dX7_map_8 rfl (lv_at hl 0 rfl) ?_
    refine lv_iload_n hx hb dX7_map_9 rfl (lv_at hl 2 rfl) ?_
    obtain ⟨q10, h10, hf⟩ := bd_some hf
    refine kx_rv (As := [.int y]) (rest := []) hx hb hml hown hts hk hP hl.1 s_yX7_isValue v_yX7_isValue (c_m_isValue l D cI cZ cR za z1 z2 z3 z4 z5 z6 z7 z8 z9 z y _ h10) mT_727 rfl rfl ⟨Nat.le_of_ble_eq_true rfl, Nat.le_of_ble_eq_true rfl⟩ (ci := 7) (q0 := 0) rfl rfl rfl (Nat.le_of_ble_eq_true rfl) ⟨Nat.zero_le _, Nat.zero_le _⟩ dX7_map_10 ?_
    refine lv_if_eq (tgt := 24) hx hb dX7_map_13 (by decide) (fun c13 => ?_) (fun c13 => ?_)
    · have hf := ite_t c13 hf
      refine lv_ldc (v := (-1000000001)) hx hb hown (hts _ mT_731) dX7_map_24 ?_
      exact hret _ _ _ z _ _ hf dX7_map_26 hP hD hS
    · have hf := ite_f c13 hf
      refine lv_aload_n hx hb dX7_map_16 rfl (lv_at hl 0 rfl) ?_
      refine lv_iload_n hx hb dX7_map_17 rfl (lv_at hl 3 rfl) ?_
      obtain ⟨q18, h18, hf⟩ := bd_some hf
      refine kx_rv (As := [.int v]) (rest := []) hx hb hml hown hts hk hP hl.1 s_yX7_isValue v_yX7_isValue (c_m_isValue l D cI cZ cR za z1 z2 z3 z4 z5 z6 z7 z8 z9 z v _ h18) mT_727 rfl rfl ⟨Nat.le_of_ble_eq_true rfl, Nat.le_of_ble_eq_true rfl⟩ (ci := 7) (q0 := 0) rfl rfl rfl (Nat.le_of_ble_eq_true rfl) ⟨Nat.zero_le _, Nat.zero_le _⟩ dX7_map_18 ?_
      refine lv_if_ne (tgt := 27) hx hb dX7_map_21 (by decide) (fun c21 => ?_) (fun c21 => ?_)
      · have hf := ite_f c21 hf
        refine lv_aload_n hx hb dX7_map_27 rfl (lv_at hl 0 rfl) ?_
        obtain ⟨q28, h28, hf⟩ := bd_some hf
        refine kx_wv (As := []) (rest := []) (wc := cModel cI cZ za z1 z2 z3 z4 z5 z6 z7 z8 z9 z) (wr := []) (wd := cModel cI cZ za z1 z2 z3 z4 z5 z6 z7 z8 z9 q28) (wn := cModel cI cZ za z1 z2 z3 z4 z5 z6 z7 z8 z9 q28) hx hb hml hown hts hk hP hD hS hA hl.1 s_yX7_notes v_yX7_notes (c_m_notes l D cI cZ cR za z1 z2 z3 z4 z5 z6 z7 z8 z9 z s.heap.size _ h28) mT_776 rfl rfl ⟨Nat.le_of_ble_eq_true rfl, Nat.le_of_ble_eq_true rfl⟩ [0, 1, 2, 3, 4, 5, 6, 7, 8, 9] [] [0, 1, 2, 3, 4, 5, 6, 7, 8, 9] rfl rfl (by decide) (by decide) (by decide) (by decide) rfl (ci := 7) (q0 := 0) rfl rfl rfl (Nat.le_of_ble_eq_true rfl) ⟨Nat.zero_le _, Nat.zero_le _⟩ dX7_map_28 (fun H locs hP hD hS => ?_)
        refine lv_aload_n hx hb dX7_map_31 rfl (lv_at hl 0 rfl) ?_
        refine lv_iload_n hx hb dX7_map_32 rfl (lv_at hl 1 rfl) ?_
        refine lv_iconst (v := 5) hx hb dX7_map_33 (by decide) ?_
        refine lv_iload_n hx hb dX7_map_34 rfl (lv_at hl 2 rfl) ?_
        refine lv_iadd hx hb dX7_map_35 ?_
        obtain ⟨q36, h36, hf⟩ := bd_some hf
        refine kx_rv (As := [.int x, .int (5 + y)]) (rest := []) hx hb hml hown hts hk hP hl.1 s_yX7_of v_yX7_of (c_m_of l D cI cZ cR za z1 z2 z3 z4 z5 z6 z7 z8 z9 q28 x (5 + y) _ h36) mT_647 rfl rfl ⟨Nat.le_of_ble_eq_true rfl, Nat.le_of_ble_eq_true rfl⟩ (ci := 7) (q0 := 0) rfl rfl rfl (Nat.le_of_ble_eq_true rfl) ⟨Nat.zero_le _, Nat.zero_le _⟩ dX7_map_36 ?_
        refine lv_istore (lv' := [(4, .int q36), (0, .ref za), (1, .int x), (2, .int y), (3, .int v)]) hx hb dX7_map_39 hl (by decide) rfl (fun ls hl => ?_)
        refine lv_aload_n hx hb dX7_map_41 rfl (lv_at hl 1 rfl) ?_
        refine va_get (D := D) (ci := 7) (v := .ref z1) (C := RX7) (T := TX7) (N := 17) hx hb hts inT7 hown hK hP 0 rfl rfl 0 (by decide) (hts _ mT_566) (fun _ h9 => h9) rfl dX7_map_42 ?_
        refine lv_bipush (v := 107) hx hb dX7_map_45 (by decide) ?_
        refine lv_bipush (v := 13) hx hb dX7_map_47 (by decide) ?_
        refine lv_iload_n hx hb dX7_map_49 rfl (lv_at hl 2 rfl) ?_
        refine lv_imul hx hb dX7_map_50 ?_
        refine lv_iadd hx hb dX7_map_51 ?_
        refine lv_iconst (v := 5) hx hb dX7_map_52 (by decide) ?_
        refine lv_iadd hx hb dX7_map_53 ?_
        refine lv_iload_n hx hb dX7_map_54 rfl (lv_at hl 3 rfl) ?_
        refine lv_iadd hx hb dX7_map_55 ?_
        refine lv_iload_n hx hb dX7_map_56 rfl (lv_at hl 4 rfl) ?_
        obtain ⟨b57, hf⟩ := gd_some hf
        refine va_iast (n := 367) (f := q28 1) hx hb hK hP hD hS 1 0 rfl rfl (ck_in b57) dX7_map_57 (fun H locs hP hD hS => ?_)
        have hP : va_P D vwCl ([(za, .inr (7, [.ref z1, .ref z2, .int (q28 0 2), .ref z3, .ref z4, .int (q28 0 5), .ref z5, .int (q28 0 7), .ref z6, .ref z7, .ref z8, .int (q28 0 11), .int (q28 0 12), .int (q28 0 13), .int (q28 0 14), .ref z9, .int (q28 0 16)])), (z1, .inl (cI, 367, .inl (upd (q28 1) (Int32.toNatClampNeg (((107 + (13 * x)) + 5) + y)) v))), (z2, .inl (cI, 5872, .inl (q28 2))), (z3, .inl (cI, 736, .inl (q28 3))), (z4, .inl (cZ, 2, .inl (q28 4))), (z5, .inl (cI, 60, .inl (q28 5))), (z6, .inl (cI, 20, .inl (q28 6))), (z7, .inl (cI, 20, .inl (q28 7))), (z8, .inl (cI, 20, .inl (q28 8))), (z9, .inl (cI, 10, .inl (q28 9)))]) H := hP
        have hD : va_D A ([(za, .inr (7, [.ref z1, .ref z2, .int (q28 0 2), .ref z3, .ref z4, .int (q28 0 5), .ref z5, .int (q28 0 7), .ref z6, .ref z7, .ref z8, .int (q28 0 11), .int (q28 0 12), .int (q28 0 13), .int (q28 0 14), .ref z9, .int (q28 0 16)])), (z1, .inl (cI, 367, .inl (upd (q28 1) (Int32.toNatClampNeg (((107 + (13 * x)) + 5) + y)) v))), (z2, .inl (cI, 5872, .inl (q28 2))), (z3, .inl (cI, 736, .inl (q28 3))), (z4, .inl (cZ, 2, .inl (q28 4))), (z5, .inl (cI, 60, .inl (q28 5))), (z6, .inl (cI, 20, .inl (q28 6))), (z7, .inl (cI, 20, .inl (q28 7))), (z8, .inl (cI, 20, .inl (q28 8))), (z9, .inl (cI, 10, .inl (q28 9)))]) := hD
        refine lv_iload hx hb dX7_map_58 (lv_at hl 0 rfl) ?_
        exact hret _ _ _ (sA q28 1 (upd (q28 1) (Int32.toNatClampNeg (((107 + (13 * x)) + 5) + y)) v)) _ _ hf dX7_map_60 hP hD hS
      · have hf := ite_t c21 hf
        refine lv_ldc (v := (-1000000001)) hx hb hown (hts _ mT_731) dX7_map_24 ?_
        exact hret _ _ _ z _ _ hf dX7_map_26 hP hD hS
theorem s_yX7_marks : kMS yX7_marks cX7_marks 4 (some .int) 3 := ⟨mT_811, mT_59, by decide +kernel⟩
theorem v_yX7_marks : kMV yX7_marks := ⟨mT_809, mT_810⟩
def f_m_marks (z : Ob) (x : Int32) (y : Int32) (v : Int32) : Option (Int32 × Ob) := bd (f_m_isWay z x) (fun q2 => if q2 = 0 then (some ((-1000000001), z)) else (bd (f_m_isSet y) (fun q12 => if q12 = 0 then (some ((-1000000002), z)) else (bd (f_m_isSet v) (fun q19 => if q19 = 0 then (some ((-1000000002), z)) else (bd (f_m_notes z) (fun q29 => gd (ck ((107 + (13 * x)) + 2) 367) (gd (ck ((107 + (13 * x)) + 3) 367) (some (1, sA (sA q29 1 (upd (q29 1) (Int32.toNatClampNeg ((107 + (13 * x)) + 2)) y)) 1 (upd (upd (q29 1) (Int32.toNatClampNeg ((107 + (13 * x)) + 2)) y) (Int32.toNatClampNeg ((107 + (13 * x)) + 3)) v)))))))))))
set_option maxHeartbeats 4000000 in
set_option maxRecDepth 100000 in
theorem c_m_marks (l : Launch) (D : va_G) (cI cZ cR : ClassId) (za z1 z2 z3 z4 z5 z6 z7 z8 z9 : Nat) (z : Ob) (x : Int32) (y : Int32) (v : Int32) (sz : Nat) (r : Int32) (u : Ob) (hf : f_m_marks z x y v = some (r, u)) : kCi l yX7_marks cX7_marks 4 (some .int) { frames := 2, cells := 0, slots := 0, locals := 43 } [.ref za, .int x, .int y, .int v] D cI cZ cR (cModel cI cZ za z1 z2 z3 z4 z5 z6 z7 z8 z9 z) sz (cModel cI cZ za z1 z2 z3 z4 z5 z6 z7 z8 z9 u) r := by
  refine kMwi (wf := (fun u : Ob => cModel cI cZ za z1 z2 z3 z4 z5 z6 z7 z8 z9 u)) (u := u) (by decide) (Nat.le_of_ble_eq_true rfl) ?_
  intro p e s m below meth c Q A hx hb hml hown hts hk hP hD hA hS hret ls hl
  have hS0 := hS
  have hK := hk.1
  have hl : lv_has ls 4 [(0, .ref za), (1, .int x), (2, .int y), (3, .int v)] := hl
  rw [f_m_marks] at hf
  refine lv_aload_n hx hb dX7_marks_0 rfl (lv_at hl 0 rfl) ?_
  refine lv_iload_n hx hb dX7_marks_1 rfl (lv_at hl 1 rfl) ?_
  obtain ⟨q2, h2, hf⟩ := bd_some hf
  refine kx_rv (As := [.int x]) (rest := []) hx hb hml hown hts hk hP hl.1 s_yX7_isWay v_yX7_isWay (c_m_isWay l D cI cZ cR za z1 z2 z3 z4 z5 z6 z7 z8 z9 z x _ h2) mT_752 rfl rfl ⟨Nat.le_of_ble_eq_true rfl, Nat.le_of_ble_eq_true rfl⟩ (ci := 7) (q0 := 0) rfl rfl rfl (Nat.le_of_ble_eq_true rfl) ⟨Nat.zero_le _, Nat.zero_le _⟩ dX7_marks_2 ?_
  refine lv_if_ne (tgt := 11) hx hb dX7_marks_5 (by decide) (fun c5 => ?_) (fun c5 => ?_)
  · have hf := ite_f c5 hf
    refine lv_iload_n hx hb dX7_marks_11 rfl (lv_at hl 2 rfl) ?_
    obtain ⟨q12, h12, hf⟩ := bd_some hf
    refine kx_rs (As := [.int y]) (rest := []) hx hb hml hown hts hk hl.1 s_yX7_isSet mT_789 (c_m_isSet l D cI cZ cR y _ h12) mT_788 rfl rfl ⟨Nat.le_of_ble_eq_true rfl, Nat.le_of_ble_eq_true rfl⟩ rfl (Nat.le_of_ble_eq_true rfl) ⟨Nat.zero_le _, Nat.zero_le _⟩ dX7_marks_12 ?_
    refine lv_if_eq (tgt := 25) hx hb dX7_marks_15 (by decide) (fun c15 => ?_) (fun c15 => ?_)
    · have hf := ite_t c15 hf
      refine lv_ldc (v := (-1000000002)) hx hb hown (hts _ mT_722) dX7_marks_25 ?_
      exact hret _ _ _ z _ _ hf dX7_marks_27 hP hD hS
    · have hf := ite_f c15 hf
      refine lv_iload_n hx hb dX7_marks_18 rfl (lv_at hl 3 rfl) ?_
      obtain ⟨q19, h19, hf⟩ := bd_some hf
      refine kx_rs (As := [.int v]) (rest := []) hx hb hml hown hts hk hl.1 s_yX7_isSet mT_789 (c_m_isSet l D cI cZ cR v _ h19) mT_788 rfl rfl ⟨Nat.le_of_ble_eq_true rfl, Nat.le_of_ble_eq_true rfl⟩ rfl (Nat.le_of_ble_eq_true rfl) ⟨Nat.zero_le _, Nat.zero_le _⟩ dX7_marks_19 ?_
      refine lv_if_ne (tgt := 28) hx hb dX7_marks_22 (by decide) (fun c22 => ?_) (fun c22 => ?_)
      · have hf := ite_f c22 hf
        refine lv_aload_n hx hb dX7_marks_28 rfl (lv_at hl 0 rfl) ?_
        obtain ⟨q29, h29, hf⟩ := bd_some hf
        refine kx_wv (As := []) (rest := []) (wc := cModel cI cZ za z1 z2 z3 z4 z5 z6 z7 z8 z9 z) (wr := []) (wd := cModel cI cZ za z1 z2 z3 z4 z5 z6 z7 z8 z9 q29) (wn := cModel cI cZ za z1 z2 z3 z4 z5 z6 z7 z8 z9 q29) hx hb hml hown hts hk hP hD hS hA hl.1 s_yX7_notes v_yX7_notes (c_m_notes l D cI cZ cR za z1 z2 z3 z4 z5 z6 z7 z8 z9 z s.heap.size _ h29) mT_776 rfl rfl ⟨Nat.le_of_ble_eq_true rfl, Nat.le_of_ble_eq_true rfl⟩ [0, 1, 2, 3, 4, 5, 6, 7, 8, 9] [] [0, 1, 2, 3, 4, 5, 6, 7, 8, 9] rfl rfl (by decide) (by decide) (by decide) (by decide) rfl (ci := 7) (q0 := 0) rfl rfl rfl (Nat.le_of_ble_eq_true rfl) ⟨Nat.zero_le _, Nat.zero_le _⟩ dX7_marks_29 (fun H locs hP hD hS => ?_)
        refine lv_aload_n hx hb dX7_marks_32 rfl (lv_at hl 0 rfl) ?_
        refine va_get (D := D) (ci := 7) (v := .ref z1) (C := RX7) (T := TX7) (N := 17) hx hb hts inT7 hown hK hP 0 rfl rfl 0 (by decide) (hts _ mT_566) (fun _ h9 => h9) rfl dX7_marks_33 ?_
        refine lv_bipush (v := 107) hx hb dX7_marks_36 (by decide) ?_
        refine lv_bipush (v := 13) hx hb dX7_marks_38 (by decide) ?_
        refine lv_iload_n hx hb dX7_marks_40 rfl (lv_at hl 1 rfl) ?_
        refine lv_imul hx hb dX7_marks_41 ?_
        refine lv_iadd hx hb dX7_marks_42 ?_
        refine lv_iconst (v := 2) hx hb dX7_marks_43 (by decide) ?_
        refine lv_iadd hx hb dX7_marks_44 ?_
        refine lv_iload_n hx hb dX7_marks_45 rfl (lv_at hl 2 rfl) ?_
        obtain ⟨b46, hf⟩ := gd_some hf
        refine va_iast (n := 367) (f := q29 1) hx hb hK hP hD hS 1 0 rfl rfl (ck_in b46) dX7_marks_46 (fun H locs hP hD hS => ?_)
        have hP : va_P D vwCl ([(za, .inr (7, [.ref z1, .ref z2, .int (q29 0 2), .ref z3, .ref z4, .int (q29 0 5), .ref z5, .int (q29 0 7), .ref z6, .ref z7, .ref z8, .int (q29 0 11), .int (q29 0 12), .int (q29 0 13), .int (q29 0 14), .ref z9, .int (q29 0 16)])), (z1, .inl (cI, 367, .inl (upd (q29 1) (Int32.toNatClampNeg ((107 + (13 * x)) + 2)) y))), (z2, .inl (cI, 5872, .inl (q29 2))), (z3, .inl (cI, 736, .inl (q29 3))), (z4, .inl (cZ, 2, .inl (q29 4))), (z5, .inl (cI, 60, .inl (q29 5))), (z6, .inl (cI, 20, .inl (q29 6))), (z7, .inl (cI, 20, .inl (q29 7))), (z8, .inl (cI, 20, .inl (q29 8))), (z9, .inl (cI, 10, .inl (q29 9)))]) H := hP
        have hD : va_D A ([(za, .inr (7, [.ref z1, .ref z2, .int (q29 0 2), .ref z3, .ref z4, .int (q29 0 5), .ref z5, .int (q29 0 7), .ref z6, .ref z7, .ref z8, .int (q29 0 11), .int (q29 0 12), .int (q29 0 13), .int (q29 0 14), .ref z9, .int (q29 0 16)])), (z1, .inl (cI, 367, .inl (upd (q29 1) (Int32.toNatClampNeg ((107 + (13 * x)) + 2)) y))), (z2, .inl (cI, 5872, .inl (q29 2))), (z3, .inl (cI, 736, .inl (q29 3))), (z4, .inl (cZ, 2, .inl (q29 4))), (z5, .inl (cI, 60, .inl (q29 5))), (z6, .inl (cI, 20, .inl (q29 6))), (z7, .inl (cI, 20, .inl (q29 7))), (z8, .inl (cI, 20, .inl (q29 8))), (z9, .inl (cI, 10, .inl (q29 9)))]) := hD
        refine lv_aload_n hx hb dX7_marks_47 rfl (lv_at hl 0 rfl) ?_
        refine va_get (D := D) (ci := 7) (v := .ref z1) (C := RX7) (T := TX7) (N := 17) hx hb hts inT7 hown hK hP 0 rfl rfl 0 (by decide) (hts _ mT_566) (fun _ h9 => h9) rfl dX7_marks_48 ?_
        refine lv_bipush (v := 107) hx hb dX7_marks_51 (by decide) ?_
        refine lv_bipush (v := 13) hx hb dX7_marks_53 (by decide) ?_
        refine lv_iload_n hx hb dX7_marks_55 rfl (lv_at hl 1 rfl) ?_
        refine lv_imul hx hb dX7_marks_56 ?_
        refine lv_iadd hx hb dX7_marks_57 ?_
        refine lv_iconst (v := 3) hx hb dX7_marks_58 (by decide) ?_
        refine lv_iadd hx hb dX7_marks_59 ?_
        refine lv_iload_n hx hb dX7_marks_60 rfl (lv_at hl 3 rfl) ?_
        obtain ⟨b61, hf⟩ := gd_some hf
        refine va_iast (n := 367) (f := upd (q29 1) (Int32.toNatClampNeg ((107 + (13 * x)) + 2)) y) hx hb hK hP hD hS 1 0 rfl rfl (ck_in b61) dX7_marks_61 (fun H locs hP hD hS => ?_)
        have hP : va_P D vwCl ([(za, .inr (7, [.ref z1, .ref z2, .int (q29 0 2), .ref z3, .ref z4, .int (q29 0 5), .ref z5, .int (q29 0 7), .ref z6, .ref z7, .ref z8, .int (q29 0 11), .int (q29 0 12), .int (q29 0 13), .int (q29 0 14), .ref z9, .int (q29 0 16)])), (z1, .inl (cI, 367, .inl (upd (upd (q29 1) (Int32.toNatClampNeg ((107 + (13 * x)) + 2)) y) (Int32.toNatClampNeg ((107 + (13 * x)) + 3)) v))), (z2, .inl (cI, 5872, .inl (q29 2))), (z3, .inl (cI, 736, .inl (q29 3))), (z4, .inl (cZ, 2, .inl (q29 4))), (z5, .inl (cI, 60, .inl (q29 5))), (z6, .inl (cI, 20, .inl (q29 6))), (z7, .inl (cI, 20, .inl (q29 7))), (z8, .inl (cI, 20, .inl (q29 8))), (z9, .inl (cI, 10, .inl (q29 9)))]) H := hP
        have hD : va_D A ([(za, .inr (7, [.ref z1, .ref z2, .int (q29 0 2), .ref z3, .ref z4, .int (q29 0 5), .ref z5, .int (q29 0 7), .ref z6, .ref z7, .ref z8, .int (q29 0 11), .int (q29 0 12), .int (q29 0 13), .int (q29 0 14), .ref z9, .int (q29 0 16)])), (z1, .inl (cI, 367, .inl (upd (upd (q29 1) (Int32.toNatClampNeg ((107 + (13 * x)) + 2)) y) (Int32.toNatClampNeg ((107 + (13 * x)) + 3)) v))), (z2, .inl (cI, 5872, .inl (q29 2))), (z3, .inl (cI, 736, .inl (q29 3))), (z4, .inl (cZ, 2, .inl (q29 4))), (z5, .inl (cI, 60, .inl (q29 5))), (z6, .inl (cI, 20, .inl (q29 6))), (z7, .inl (cI, 20, .inl (q29 7))), (z8, .inl (cI, 20, .inl (q29 8))), (z9, .inl (cI, 10, .inl (q29 9)))]) := hD
        refine lv_iconst (v := 1) hx hb dX7_marks_62 (by decide) ?_
        exact hret _ _ _ (sA (sA q29 1 (upd (q29 1) (Int32.toNatClampNeg ((107 + (13 * x)) + 2)) y)) 1 (upd (upd (q29 1) (Int32.toNatClampNeg ((107 + (13 * x)) + 2)) y) (Int32.toNatClampNeg ((107 + (13 * x)) + 3)) v)) _ _ hf dX7_marks_63 hP hD hS
      · have hf := ite_t c22 hf
        refine lv_ldc (v := (-1000000002)) hx hb hown (hts _ mT_722) dX7_marks_25 ?_
        exact hret _ _ _ z _ _ hf dX7_marks_27 hP hD hS
  · have hf := ite_t c5 hf
    refine lv_ldc (v := (-1000000001)) hx hb hown (hts _ mT_731) dX7_marks_8 ?_
    exact hret _ _ _ z _ _ hf dX7_marks_10 hP hD hS
theorem s_yX7_gate : kMS yX7_gate cX7_gate 4 (some .int) 2 := ⟨mT_815, mT_59, by decide +kernel⟩
theorem v_yX7_gate : kMV yX7_gate := ⟨mT_813, mT_814⟩
def f_m_gate (z : Ob) (x : Int32) (y : Int32) : Option (Int32 × Ob) := bd (f_m_isWay z x) (fun q2 => if q2 = 0 then (some ((-1000000001), z)) else (bd (f_m_isValue z y) (fun q10 => if q10 = 0 then (some ((-1000000001), z)) else (bd (f_m_notes z) (fun q20 => bd (f_m_of q20 x 4) (fun q26 => gd (ck ((107 + (13 * x)) + 4) 367) (some (q26, sA q20 1 (upd (q20 1) (Int32.toNatClampNeg ((107 + (13 * x)) + 4)) y)))))))))
set_option maxHeartbeats 4000000 in
set_option maxRecDepth 100000 in
theorem c_m_gate (l : Launch) (D : va_G) (cI cZ cR : ClassId) (za z1 z2 z3 z4 z5 z6 z7 z8 z9 : Nat) (z : Ob) (x : Int32) (y : Int32) (sz : Nat) (r : Int32) (u : Ob) (hf : f_m_gate z x y = some (r, u)) : kCi l yX7_gate cX7_gate 4 (some .int) { frames := 2, cells := 0, slots := 0, locals := 43 } [.ref za, .int x, .int y] D cI cZ cR (cModel cI cZ za z1 z2 z3 z4 z5 z6 z7 z8 z9 z) sz (cModel cI cZ za z1 z2 z3 z4 z5 z6 z7 z8 z9 u) r := by
  refine kMwi (wf := (fun u : Ob => cModel cI cZ za z1 z2 z3 z4 z5 z6 z7 z8 z9 u)) (u := u) (by decide) (Nat.le_of_ble_eq_true rfl) ?_
  intro p e s m below meth c Q A hx hb hml hown hts hk hP hD hA hS hret ls hl
  have hS0 := hS
  have hK := hk.1
  have hl : lv_has ls 4 [(0, .ref za), (1, .int x), (2, .int y)] := hl
  rw [f_m_gate] at hf
  refine lv_aload_n hx hb dX7_gate_0 rfl (lv_at hl 0 rfl) ?_
  refine lv_iload_n hx hb dX7_gate_1 rfl (lv_at hl 1 rfl) ?_
  obtain ⟨q2, h2, hf⟩ := bd_some hf
  refine kx_rv (As := [.int x]) (rest := []) hx hb hml hown hts hk hP hl.1 s_yX7_isWay v_yX7_isWay (c_m_isWay l D cI cZ cR za z1 z2 z3 z4 z5 z6 z7 z8 z9 z x _ h2) mT_752 rfl rfl ⟨Nat.le_of_ble_eq_true rfl, Nat.le_of_ble_eq_true rfl⟩ (ci := 7) (q0 := 0) rfl rfl rfl (Nat.le_of_ble_eq_true rfl) ⟨Nat.zero_le _, Nat.zero_le _⟩ dX7_gate_2 ?_
  refine lv_if_eq (tgt := 16) hx hb dX7_gate_5 (by decide) (fun c5 => ?_) (fun c5 => ?_)
  · have hf := ite_t c5 hf
    refine lv_ldc (v := (-1000000001)) hx hb hown (hts _ mT_731) dX7_gate_16 ?_
    exact hret _ _ _ z _ _ hf dX7_gate_18 hP hD hS
  · have hf := ite_f c5 hf
    refine lv_aload_n hx hb dX7_gate_8 rfl (lv_at hl 0 rfl) ?_
    refine lv_iload_n hx hb dX7_gate_9 rfl (lv_at hl 2 rfl) ?_
    obtain ⟨q10, h10, hf⟩ := bd_some hf
    refine kx_rv (As := [.int y]) (rest := []) hx hb hml hown hts hk hP hl.1 s_yX7_isValue v_yX7_isValue (c_m_isValue l D cI cZ cR za z1 z2 z3 z4 z5 z6 z7 z8 z9 z y _ h10) mT_727 rfl rfl ⟨Nat.le_of_ble_eq_true rfl, Nat.le_of_ble_eq_true rfl⟩ (ci := 7) (q0 := 0) rfl rfl rfl (Nat.le_of_ble_eq_true rfl) ⟨Nat.zero_le _, Nat.zero_le _⟩ dX7_gate_10 ?_
    refine lv_if_ne (tgt := 19) hx hb dX7_gate_13 (by decide) (fun c13 => ?_) (fun c13 => ?_)
    · have hf := ite_f c13 hf
      refine lv_aload_n hx hb dX7_gate_19 rfl (lv_at hl 0 rfl) ?_
      obtain ⟨q20, h20, hf⟩ := bd_some hf
      refine kx_wv (As := []) (rest := []) (wc := cModel cI cZ za z1 z2 z3 z4 z5 z6 z7 z8 z9 z) (wr := []) (wd := cModel cI cZ za z1 z2 z3 z4 z5 z6 z7 z8 z9 q20) (wn := cModel cI cZ za z1 z2 z3 z4 z5 z6 z7 z8 z9 q20) hx hb hml hown hts hk hP hD hS hA hl.1 s_yX7_notes v_yX7_notes (c_m_notes l D cI cZ cR za z1 z2 z3 z4 z5 z6 z7 z8 z9 z s.heap.size _ h20) mT_776 rfl rfl ⟨Nat.le_of_ble_eq_true rfl, Nat.le_of_ble_eq_true rfl⟩ [0, 1, 2, 3, 4, 5, 6, 7, 8, 9] [] [0, 1, 2, 3, 4, 5, 6, 7, 8, 9] rfl rfl (by decide) (by decide) (by decide) (by decide) rfl (ci := 7) (q0 := 0) rfl rfl rfl (Nat.le_of_ble_eq_true rfl) ⟨Nat.zero_le _, Nat.zero_le _⟩ dX7_gate_20 (fun H locs hP hD hS => ?_)
      refine lv_aload_n hx hb dX7_gate_23 rfl (lv_at hl 0 rfl) ?_
      refine lv_iload_n hx hb dX7_gate_24 rfl (lv_at hl 1 rfl) ?_
      refine lv_iconst (v := 4) hx hb dX7_gate_25 (by decide) ?_
      obtain ⟨q26, h26, hf⟩ := bd_some hf
      refine kx_rv (As := [.int x, .int 4]) (rest := []) hx hb hml hown hts hk hP hl.1 s_yX7_of v_yX7_of (c_m_of l D cI cZ cR za z1 z2 z3 z4 z5 z6 z7 z8 z9 q20 x 4 _ h26) mT_647 rfl rfl ⟨Nat.le_of_ble_eq_true rfl, Nat.le_of_ble_eq_true rfl⟩ (ci := 7) (q0 := 0) rfl rfl rfl (Nat.le_of_ble_eq_true rfl) ⟨Nat.zero_le _, Nat.zero_le _⟩ dX7_gate_26 ?_
      refine lv_istore_n (lv' := [(3, .int q26), (0, .ref za), (1, .int x), (2, .int y)]) hx hb dX7_gate_29 rfl hl (by decide) rfl (fun ls hl => ?_)
      refine lv_aload_n hx hb dX7_gate_30 rfl (lv_at hl 1 rfl) ?_
      refine va_get (D := D) (ci := 7) (v := .ref z1) (C := RX7) (T := TX7) (N := 17) hx hb hts inT7 hown hK hP 0 rfl rfl 0 (by decide) (hts _ mT_566) (fun _ h9 => h9) rfl dX7_gate_31 ?_
      refine lv_bipush (v := 107) hx hb dX7_gate_34 (by decide) ?_
      refine lv_bipush (v := 13) hx hb dX7_gate_36 (by decide) ?_
      refine lv_iload_n hx hb dX7_gate_38 rfl (lv_at hl 2 rfl) ?_
      refine lv_imul hx hb dX7_gate_39 ?_
      refine lv_iadd hx hb dX7_gate_40 ?_
      refine lv_iconst (v := 4) hx hb dX7_gate_41 (by decide) ?_
      refine lv_iadd hx hb dX7_gate_42 ?_
      refine lv_iload_n hx hb dX7_gate_43 rfl (lv_at hl 3 rfl) ?_
      obtain ⟨b44, hf⟩ := gd_some hf
      refine va_iast (n := 367) (f := q20 1) hx hb hK hP hD hS 1 0 rfl rfl (ck_in b44) dX7_gate_44 (fun H locs hP hD hS => ?_)
      have hP : va_P D vwCl ([(za, .inr (7, [.ref z1, .ref z2, .int (q20 0 2), .ref z3, .ref z4, .int (q20 0 5), .ref z5, .int (q20 0 7), .ref z6, .ref z7, .ref z8, .int (q20 0 11), .int (q20 0 12), .int (q20 0 13), .int (q20 0 14), .ref z9, .int (q20 0 16)])), (z1, .inl (cI, 367, .inl (upd (q20 1) (Int32.toNatClampNeg ((107 + (13 * x)) + 4)) y))), (z2, .inl (cI, 5872, .inl (q20 2))), (z3, .inl (cI, 736, .inl (q20 3))), (z4, .inl (cZ, 2, .inl (q20 4))), (z5, .inl (cI, 60, .inl (q20 5))), (z6, .inl (cI, 20, .inl (q20 6))), (z7, .inl (cI, 20, .inl (q20 7))), (z8, .inl (cI, 20, .inl (q20 8))), (z9, .inl (cI, 10, .inl (q20 9)))]) H := hP
      have hD : va_D A ([(za, .inr (7, [.ref z1, .ref z2, .int (q20 0 2), .ref z3, .ref z4, .int (q20 0 5), .ref z5, .int (q20 0 7), .ref z6, .ref z7, .ref z8, .int (q20 0 11), .int (q20 0 12), .int (q20 0 13), .int (q20 0 14), .ref z9, .int (q20 0 16)])), (z1, .inl (cI, 367, .inl (upd (q20 1) (Int32.toNatClampNeg ((107 + (13 * x)) + 4)) y))), (z2, .inl (cI, 5872, .inl (q20 2))), (z3, .inl (cI, 736, .inl (q20 3))), (z4, .inl (cZ, 2, .inl (q20 4))), (z5, .inl (cI, 60, .inl (q20 5))), (z6, .inl (cI, 20, .inl (q20 6))), (z7, .inl (cI, 20, .inl (q20 7))), (z8, .inl (cI, 20, .inl (q20 8))), (z9, .inl (cI, 10, .inl (q20 9)))]) := hD
      refine lv_iload_n hx hb dX7_gate_45 rfl (lv_at hl 0 rfl) ?_
      exact hret _ _ _ (sA q20 1 (upd (q20 1) (Int32.toNatClampNeg ((107 + (13 * x)) + 4)) y)) _ _ hf dX7_gate_46 hP hD hS
    · have hf := ite_t c13 hf
      refine lv_ldc (v := (-1000000001)) hx hb hown (hts _ mT_731) dX7_gate_16 ?_
      exact hret _ _ _ z _ _ hf dX7_gate_18 hP hD hS
theorem s_yX7_write : kMS yX7_write cX7_write 4 (some .int) 3 := ⟨mT_819, mT_59, by decide +kernel⟩
theorem v_yX7_write : kMV yX7_write := ⟨mT_817, mT_818⟩
def f_m_write (z : Ob) (x : Int32) (y : Int32) (v : Int32) : Option (Int32 × Ob) := bd (f_m_isPlace z x) (fun q2 => if q2 = 0 then (some ((-1000000001), z)) else (bd (f_m_isValue z y) (fun q10 => if q10 = 0 then (some ((-1000000001), z)) else (bd (f_m_isSet v) (fun q20 => if q20 = 0 then (some ((-1000000002), z)) else (bd (f_m_isKept z x) (fun q31 => if q31 = 0 then (some ((-1000000003), z)) else (bd (f_m_notes z) (fun q41 => gd (ck (87 + x) 367) (gd (ck (97 + x) 367) (bd (f_m_refused (sA (sA q41 1 (upd (q41 1) (Int32.toNatClampNeg (87 + x)) y)) 1 (upd (upd (q41 1) (Int32.toNatClampNeg (87 + x)) y) (Int32.toNatClampNeg (97 + x)) v))) (fun q65 => some (q65.1, q65.2)))))))))))))
set_option maxHeartbeats 4000000 in
set_option maxRecDepth 100000 in
theorem c_m_write (l : Launch) (D : va_G) (cI cZ cR : ClassId) (za z1 z2 z3 z4 z5 z6 z7 z8 z9 : Nat) (z : Ob) (x : Int32) (y : Int32) (v : Int32) (sz : Nat) (r : Int32) (u : Ob) (hf : f_m_write z x y v = some (r, u)) : kCi l yX7_write cX7_write 4 (some .int) { frames := 6, cells := 0, slots := 0, locals := 135 } [.ref za, .int x, .int y, .int v] D cI cZ cR (cModel cI cZ za z1 z2 z3 z4 z5 z6 z7 z8 z9 z) sz (cModel cI cZ za z1 z2 z3 z4 z5 z6 z7 z8 z9 u) r := by
  refine kMwi (wf := (fun u : Ob => cModel cI cZ za z1 z2 z3 z4 z5 z6 z7 z8 z9 u)) (u := u) (by decide) (Nat.le_of_ble_eq_true rfl) ?_
  intro p e s m below meth c Q A hx hb hml hown hts hk hP hD hA hS hret ls hl
  have hS0 := hS
  have hK := hk.1
  have hl : lv_has ls 4 [(0, .ref za), (1, .int x), (2, .int y), (3, .int v)] := hl
  rw [f_m_write] at hf
  refine lv_aload_n hx hb dX7_write_0 rfl (lv_at hl 0 rfl) ?_
  refine lv_iload_n hx hb dX7_write_1 rfl (lv_at hl 1 rfl) ?_
  obtain ⟨q2, h2, hf⟩ := bd_some hf
  refine kx_rv (As := [.int x]) (rest := []) hx hb hml hown hts hk hP hl.1 s_yX7_isPlace v_yX7_isPlace (c_m_isPlace l D cI cZ cR za z1 z2 z3 z4 z5 z6 z7 z8 z9 z x _ h2) mT_715 rfl rfl ⟨Nat.le_of_ble_eq_true rfl, Nat.le_of_ble_eq_true rfl⟩ (ci := 7) (q0 := 0) rfl rfl rfl (Nat.le_of_ble_eq_true rfl) ⟨Nat.zero_le _, Nat.zero_le _⟩ dX7_write_2 ?_
  refine lv_if_eq (tgt := 16) hx hb dX7_write_5 (by decide) (fun c5 => ?_) (fun c5 => ?_)
  · have hf := ite_t c5 hf
    refine lv_ldc (v := (-1000000001)) hx hb hown (hts _ mT_731) dX7_write_16 ?_
    exact hret _ _ _ z _ _ hf dX7_write_18 hP hD hS
  · have hf := ite_f c5 hf
    refine lv_aload_n hx hb dX7_write_8 rfl (lv_at hl 0 rfl) ?_
    refine lv_iload_n hx hb dX7_write_9 rfl (lv_at hl 2 rfl) ?_
    obtain ⟨q10, h10, hf⟩ := bd_some hf
    refine kx_rv (As := [.int y]) (rest := []) hx hb hml hown hts hk hP hl.1 s_yX7_isValue v_yX7_isValue (c_m_isValue l D cI cZ cR za z1 z2 z3 z4 z5 z6 z7 z8 z9 z y _ h10) mT_727 rfl rfl ⟨Nat.le_of_ble_eq_true rfl, Nat.le_of_ble_eq_true rfl⟩ (ci := 7) (q0 := 0) rfl rfl rfl (Nat.le_of_ble_eq_true rfl) ⟨Nat.zero_le _, Nat.zero_le _⟩ dX7_write_10 ?_
    refine lv_if_ne (tgt := 19) hx hb dX7_write_13 (by decide) (fun c13 => ?_) (fun c13 => ?_)
    · have hf := ite_f c13 hf
      refine lv_iload_n hx hb dX7_write_19 rfl (lv_at hl 3 rfl) ?_
      obtain ⟨q20, h20, hf⟩ := bd_some hf
      refine kx_rs (As := [.int v]) (rest := []) hx hb hml hown hts hk hl.1 s_yX7_isSet mT_789 (c_m_isSet l D cI cZ cR v _ h20) mT_788 rfl rfl ⟨Nat.le_of_ble_eq_true rfl, Nat.le_of_ble_eq_true rfl⟩ rfl (Nat.le_of_ble_eq_true rfl) ⟨Nat.zero_le _, Nat.zero_le _⟩ dX7_write_20 ?_
      refine lv_if_ne (tgt := 29) hx hb dX7_write_23 (by decide) (fun c23 => ?_) (fun c23 => ?_)
      · have hf := ite_f c23 hf
        refine lv_aload_n hx hb dX7_write_29 rfl (lv_at hl 0 rfl) ?_
        refine lv_iload_n hx hb dX7_write_30 rfl (lv_at hl 1 rfl) ?_
        obtain ⟨q31, h31, hf⟩ := bd_some hf
        refine kx_rv (As := [.int x]) (rest := []) hx hb hml hown hts hk hP hl.1 s_yX7_isKept v_yX7_isKept (c_m_isKept l D cI cZ cR za z1 z2 z3 z4 z5 z6 z7 z8 z9 z x _ h31) mT_659 rfl rfl ⟨Nat.le_of_ble_eq_true rfl, Nat.le_of_ble_eq_true rfl⟩ (ci := 7) (q0 := 0) rfl rfl rfl (Nat.le_of_ble_eq_true rfl) ⟨Nat.zero_le _, Nat.zero_le _⟩ dX7_write_31 ?_
        refine lv_if_ne (tgt := 40) hx hb dX7_write_34 (by decide) (fun c34 => ?_) (fun c34 => ?_)
        · have hf := ite_f c34 hf
          refine lv_aload_n hx hb dX7_write_40 rfl (lv_at hl 0 rfl) ?_
          obtain ⟨q41, h41, hf⟩ := bd_some hf
          refine kx_wv (As := []) (rest := []) (wc := cModel cI cZ za z1 z2 z3 z4 z5 z6 z7 z8 z9 z) (wr := []) (wd := cModel cI cZ za z1 z2 z3 z4 z5 z6 z7 z8 z9 q41) (wn := cModel cI cZ za z1 z2 z3 z4 z5 z6 z7 z8 z9 q41) hx hb hml hown hts hk hP hD hS hA hl.1 s_yX7_notes v_yX7_notes (c_m_notes l D cI cZ cR za z1 z2 z3 z4 z5 z6 z7 z8 z9 z s.heap.size _ h41) mT_776 rfl rfl ⟨Nat.le_of_ble_eq_true rfl, Nat.le_of_ble_eq_true rfl⟩ [0, 1, 2, 3, 4, 5, 6, 7, 8, 9] [] [0, 1, 2, 3, 4, 5, 6, 7, 8, 9] rfl rfl (by decide) (by decide) (by decide) (by decide) rfl (ci := 7) (q0 := 0) rfl rfl rfl (Nat.le_of_ble_eq_true rfl) ⟨Nat.zero_le _, Nat.zero_le _⟩ dX7_write_41 (fun H locs hP hD hS => ?_)
          refine lv_aload_n hx hb dX7_write_44 rfl (lv_at hl 0 rfl) ?_
          refine va_get (D := D) (ci := 7) (v := .ref z1) (C := RX7) (T := TX7) (N := 17) hx hb hts inT7 hown hK hP 0 rfl rfl 0 (by decide) (hts _ mT_566) (fun _ h9 => h9) rfl dX7_write_45 ?_
          refine lv_bipush (v := 87) hx hb dX7_write_48 (by decide) ?_
          refine lv_iload_n hx hb dX7_write_50 rfl (lv_at hl 1 rfl) ?_
          refine lv_iadd hx hb dX7_write_51 ?_
          refine lv_iload_n hx hb dX7_write_52 rfl (lv_at hl 2 rfl) ?_
          obtain ⟨b53, hf⟩ := gd_some hf
          refine va_iast (n := 367) (f := q41 1) hx hb hK hP hD hS 1 0 rfl rfl (ck_in b53) dX7_write_53 (fun H locs hP hD hS => ?_)
          have hP : va_P D vwCl ([(za, .inr (7, [.ref z1, .ref z2, .int (q41 0 2), .ref z3, .ref z4, .int (q41 0 5), .ref z5, .int (q41 0 7), .ref z6, .ref z7, .ref z8, .int (q41 0 11), .int (q41 0 12), .int (q41 0 13), .int (q41 0 14), .ref z9, .int (q41 0 16)])), (z1, .inl (cI, 367, .inl (upd (q41 1) (Int32.toNatClampNeg (87 + x)) y))), (z2, .inl (cI, 5872, .inl (q41 2))), (z3, .inl (cI, 736, .inl (q41 3))), (z4, .inl (cZ, 2, .inl (q41 4))), (z5, .inl (cI, 60, .inl (q41 5))), (z6, .inl (cI, 20, .inl (q41 6))), (z7, .inl (cI, 20, .inl (q41 7))), (z8, .inl (cI, 20, .inl (q41 8))), (z9, .inl (cI, 10, .inl (q41 9)))]) H := hP
          have hD : va_D A ([(za, .inr (7, [.ref z1, .ref z2, .int (q41 0 2), .ref z3, .ref z4, .int (q41 0 5), .ref z5, .int (q41 0 7), .ref z6, .ref z7, .ref z8, .int (q41 0 11), .int (q41 0 12), .int (q41 0 13), .int (q41 0 14), .ref z9, .int (q41 0 16)])), (z1, .inl (cI, 367, .inl (upd (q41 1) (Int32.toNatClampNeg (87 + x)) y))), (z2, .inl (cI, 5872, .inl (q41 2))), (z3, .inl (cI, 736, .inl (q41 3))), (z4, .inl (cZ, 2, .inl (q41 4))), (z5, .inl (cI, 60, .inl (q41 5))), (z6, .inl (cI, 20, .inl (q41 6))), (z7, .inl (cI, 20, .inl (q41 7))), (z8, .inl (cI, 20, .inl (q41 8))), (z9, .inl (cI, 10, .inl (q41 9)))]) := hD
          refine lv_aload_n hx hb dX7_write_54 rfl (lv_at hl 0 rfl) ?_
          refine va_get (D := D) (ci := 7) (v := .ref z1) (C := RX7) (T := TX7) (N := 17) hx hb hts inT7 hown hK hP 0 rfl rfl 0 (by decide) (hts _ mT_566) (fun _ h9 => h9) rfl dX7_write_55 ?_
          refine lv_bipush (v := 97) hx hb dX7_write_58 (by decide) ?_
          refine lv_iload_n hx hb dX7_write_60 rfl (lv_at hl 1 rfl) ?_
          refine lv_iadd hx hb dX7_write_61 ?_
          refine lv_iload_n hx hb dX7_write_62 rfl (lv_at hl 3 rfl) ?_
          obtain ⟨b63, hf⟩ := gd_some hf
          refine va_iast (n := 367) (f := upd (q41 1) (Int32.toNatClampNeg (87 + x)) y) hx hb hK hP hD hS 1 0 rfl rfl (ck_in b63) dX7_write_63 (fun H locs hP hD hS => ?_)
          have hP : va_P D vwCl ([(za, .inr (7, [.ref z1, .ref z2, .int (q41 0 2), .ref z3, .ref z4, .int (q41 0 5), .ref z5, .int (q41 0 7), .ref z6, .ref z7, .ref z8, .int (q41 0 11), .int (q41 0 12), .int (q41 0 13), .int (q41 0 14), .ref z9, .int (q41 0 16)])), (z1, .inl (cI, 367, .inl (upd (upd (q41 1) (Int32.toNatClampNeg (87 + x)) y) (Int32.toNatClampNeg (97 + x)) v))), (z2, .inl (cI, 5872, .inl (q41 2))), (z3, .inl (cI, 736, .inl (q41 3))), (z4, .inl (cZ, 2, .inl (q41 4))), (z5, .inl (cI, 60, .inl (q41 5))), (z6, .inl (cI, 20, .inl (q41 6))), (z7, .inl (cI, 20, .inl (q41 7))), (z8, .inl (cI, 20, .inl (q41 8))), (z9, .inl (cI, 10, .inl (q41 9)))]) H := hP
          have hD : va_D A ([(za, .inr (7, [.ref z1, .ref z2, .int (q41 0 2), .ref z3, .ref z4, .int (q41 0 5), .ref z5, .int (q41 0 7), .ref z6, .ref z7, .ref z8, .int (q41 0 11), .int (q41 0 12), .int (q41 0 13), .int (q41 0 14), .ref z9, .int (q41 0 16)])), (z1, .inl (cI, 367, .inl (upd (upd (q41 1) (Int32.toNatClampNeg (87 + x)) y) (Int32.toNatClampNeg (97 + x)) v))), (z2, .inl (cI, 5872, .inl (q41 2))), (z3, .inl (cI, 736, .inl (q41 3))), (z4, .inl (cZ, 2, .inl (q41 4))), (z5, .inl (cI, 60, .inl (q41 5))), (z6, .inl (cI, 20, .inl (q41 6))), (z7, .inl (cI, 20, .inl (q41 7))), (z8, .inl (cI, 20, .inl (q41 8))), (z9, .inl (cI, 10, .inl (q41 9)))]) := hD
          refine lv_aload_n hx hb dX7_write_64 rfl (lv_at hl 0 rfl) ?_
          obtain ⟨q65, h65, hf⟩ := bd_some hf
          refine kx_wi (As := []) (rest := []) (wc := cModel cI cZ za z1 z2 z3 z4 z5 z6 z7 z8 z9 (sA (sA q41 1 (upd (q41 1) (Int32.toNatClampNeg (87 + x)) y)) 1 (upd (upd (q41 1) (Int32.toNatClampNeg (87 + x)) y) (Int32.toNatClampNeg (97 + x)) v))) (wr := []) (wd := cModel cI cZ za z1 z2 z3 z4 z5 z6 z7 z8 z9 q65.2) (wn := cModel cI cZ za z1 z2 z3 z4 z5 z6 z7 z8 z9 q65.2) hx hb hml hown hts hk hP hD hS hA hl.1 s_yX7_refused v_yX7_refused (c_m_refused l D cI cZ cR za z1 z2 z3 z4 z5 z6 z7 z8 z9 (sA (sA q41 1 (upd (q41 1) (Int32.toNatClampNeg (87 + x)) y)) 1 (upd (upd (q41 1) (Int32.toNatClampNeg (87 + x)) y) (Int32.toNatClampNeg (97 + x)) v)) H.size _ _ h65) mT_663 rfl rfl ⟨Nat.le_of_ble_eq_true rfl, Nat.le_of_ble_eq_true rfl⟩ [0, 1, 2, 3, 4, 5, 6, 7, 8, 9] [] [0, 1, 2, 3, 4, 5, 6, 7, 8, 9] rfl rfl (by decide) (by decide) (by decide) (by decide) rfl (ci := 7) (q0 := 0) rfl rfl rfl (Nat.le_of_ble_eq_true rfl) ⟨Nat.zero_le _, Nat.zero_le _⟩ dX7_write_65 (fun H locs hP hD hS => ?_)
          exact hret _ _ _ q65.2 _ _ hf dX7_write_68 hP hD hS
        · have hf := ite_t c34 hf
          refine lv_ldc (v := (-1000000003)) hx hb hown (hts _ mT_820) dX7_write_37 ?_
          exact hret _ _ _ z _ _ hf dX7_write_39 hP hD hS
      · have hf := ite_t c23 hf
        refine lv_ldc (v := (-1000000002)) hx hb hown (hts _ mT_722) dX7_write_26 ?_
        exact hret _ _ _ z _ _ hf dX7_write_28 hP hD hS
    · have hf := ite_t c13 hf
      refine lv_ldc (v := (-1000000001)) hx hb hown (hts _ mT_731) dX7_write_16 ?_
      exact hret _ _ _ z _ _ hf dX7_write_18 hP hD hS
theorem s_yX7_copy : kMS yX7_copy cX7_copy 3 (some .int) 0 := ⟨mT_824, mT_59, by decide +kernel⟩
theorem v_yX7_copy : kMV yX7_copy := ⟨mT_822, mT_823⟩
def k_m_copy_31 (x1_31 : Int32) (x2_31 : Int32) (z_31 : Ob) : Option (Int32 × Ob) := some (x1_31, z_31)
def lp_m_copy_31 (kk0 : Int32 → Int32 → Ob → Option (Int32 × Ob)) : Nat → Int32 → Int32 → Ob → Option (Int32 × Ob)
  | 0, _, _, _ => none
  | fu31 + 1, x1_31, x2_31, z_31 => if ((z_31 1) (Int32.toNatClampNeg 1)) ≤ x2_31 then (kk0 x1_31 x2_31 z_31) else (bd (f_m_isKept z_31 x2_31) (fun q43 => if q43 = 0 then ((lp_m_copy_31 kk0 fu31) x1_31 (x2_31 + 1) z_31) else (gd (ck x2_31 20) (gd (ck (87 + x2_31) 367) (gd (ck (10 + x2_31) 20) (gd (ck (97 + x2_31) 367) ((lp_m_copy_31 kk0 fu31) (x1_31 + 1) (x2_31 + 1) (sA (sA z_31 1 (upd (z_31 1) (Int32.toNatClampNeg (87 + x2_31)) ((z_31 6) (Int32.toNatClampNeg x2_31)))) 1 (upd (upd (z_31 1) (Int32.toNatClampNeg (87 + x2_31)) ((z_31 6) (Int32.toNatClampNeg x2_31))) (Int32.toNatClampNeg (97 + x2_31)) ((z_31 6) (Int32.toNatClampNeg (10 + x2_31))))))))))))
def f_m_copy (z : Ob) : Option (Int32 × Ob) := bd (f_m_isWell z) (fun q1 => if q1 = 0 then (some ((-1000000003), z)) else (bd (f_m_works 6 z 0 (-1)) (fun q14 => if 0 ≤ q14.1 then (bd (f_m_notes q14.2) (fun q24 => lp_m_copy_31 k_m_copy_31 10000 0 0 q24)) else (some ((-1000000003), q14.2)))))
set_option maxHeartbeats 4000000 in
set_option maxRecDepth 100000 in
theorem c_m_copy (l : Launch) (D : va_G) (cI cZ cR : ClassId) (za z1 z2 z3 z4 z5 z6 z7 z8 z9 : Nat) (z : Ob) (sz : Nat) (r : Int32) (u : Ob) (hf : f_m_copy z = some (r, u)) : kCi l yX7_copy cX7_copy 3 (some .int) { frames := 5, cells := 0, slots := 0, locals := 118 } [.ref za] D cI cZ cR (cModel cI cZ za z1 z2 z3 z4 z5 z6 z7 z8 z9 z) sz (cModel cI cZ za z1 z2 z3 z4 z5 z6 z7 z8 z9 u) r := by
  refine kMwi (wf := (fun u : Ob => cModel cI cZ za z1 z2 z3 z4 z5 z6 z7 z8 z9 u)) (u := u) (by decide) (Nat.le_of_ble_eq_true rfl) ?_
  intro p e s m below meth c Q A hx hb hml hown hts hk hP hD hA hS hret ls hl
  have hS0 := hS
  have hK := hk.1
  have hl : lv_has ls 3 [(0, .ref za)] := hl
  rw [f_m_copy] at hf
  refine lv_aload_n hx hb dX7_copy_0 rfl (lv_at hl 0 rfl) ?_
  obtain ⟨q1, h1, hf⟩ := bd_some hf
  refine kx_rv (As := []) (rest := []) hx hb hml hown hts hk hP hl.1 s_yX7_isWell v_yX7_isWell (c_m_isWell l D cI cZ cR za z1 z2 z3 z4 z5 z6 z7 z8 z9 z _ h1) mT_651 rfl rfl ⟨Nat.le_of_ble_eq_true rfl, Nat.le_of_ble_eq_true rfl⟩ (ci := 7) (q0 := 0) rfl rfl rfl (Nat.le_of_ble_eq_true rfl) ⟨Nat.zero_le _, Nat.zero_le _⟩ dX7_copy_1 ?_
  refine lv_if_eq (tgt := 20) hx hb dX7_copy_4 (by decide) (fun c4 => ?_) (fun c4 => ?_)
  · have hf := ite_t c4 hf
    refine lv_ldc (v := (-1000000003)) hx hb hown (hts _ mT_820) dX7_copy_20 ?_
    exact hret _ _ _ z _ _ hf dX7_copy_22 hP hD hS
  · have hf := ite_f c4 hf
    refine lv_aload_n hx hb dX7_copy_7 rfl (lv_at hl 0 rfl) ?_
    refine lv_aload_n hx hb dX7_copy_8 rfl (lv_at hl 0 rfl) ?_
    refine va_get (D := D) (ci := 7) (v := .ref z6) (C := RX7) (T := TX7) (N := 17) hx hb hts inT7 hown hK hP 0 rfl rfl 8 (by decide) (hts _ mT_574) (fun _ h9 => h9) rfl dX7_copy_9 ?_
    refine lv_iconst (v := 0) hx hb dX7_copy_12 (by decide) ?_
    refine lv_iconst (v := (-1)) hx hb dX7_copy_13 (by decide) ?_
    obtain ⟨q14, h14, hf⟩ := bd_some hf
    refine kx_wi (As := [.ref z6, .int 0, .int (-1)]) (rest := []) (wc := cModel cI cZ za z1 z2 z3 z4 z5 z6 z7 z8 z9 z) (wr := []) (wd := cModel cI cZ za z1 z2 z3 z4 z5 z6 z7 z8 z9 q14.2) (wn := cModel cI cZ za z1 z2 z3 z4 z5 z6 z7 z8 z9 q14.2) hx hb hml hown hts hk hP hD hS hA hl.1 s_yX7_works v_yX7_works (c_m_works6 l D cI cZ cR za z1 z2 z3 z4 z5 z6 z7 z8 z9 z 0 (-1) s.heap.size _ _ h14) mT_691 rfl rfl ⟨Nat.le_of_ble_eq_true rfl, Nat.le_of_ble_eq_true rfl⟩ [0, 1, 2, 3, 4, 5, 6, 7, 8, 9] [] [0, 1, 2, 3, 4, 5, 6, 7, 8, 9] rfl rfl (by decide) (by decide) (by decide) (by decide) rfl (ci := 7) (q0 := 0) rfl rfl rfl (Nat.le_of_ble_eq_true rfl) ⟨Nat.zero_le _, Nat.zero_le _⟩ dX7_copy_14 (fun H locs hP hD hS => ?_)
    refine lv_if_ge (tgt := 23) hx hb dX7_copy_17 (by decide) (fun c17 => ?_) (fun c17 => ?_)
    · have hf := ite_t c17 hf
      refine lv_aload_n hx hb dX7_copy_23 rfl (lv_at hl 0 rfl) ?_
      obtain ⟨q24, h24, hf⟩ := bd_some hf
      refine kx_wv (As := []) (rest := []) (wc := cModel cI cZ za z1 z2 z3 z4 z5 z6 z7 z8 z9 q14.2) (wr := []) (wd := cModel cI cZ za z1 z2 z3 z4 z5 z6 z7 z8 z9 q24) (wn := cModel cI cZ za z1 z2 z3 z4 z5 z6 z7 z8 z9 q24) hx hb hml hown hts hk hP hD hS hA hl.1 s_yX7_notes v_yX7_notes (c_m_notes l D cI cZ cR za z1 z2 z3 z4 z5 z6 z7 z8 z9 q14.2 H.size _ h24) mT_776 rfl rfl ⟨Nat.le_of_ble_eq_true rfl, Nat.le_of_ble_eq_true rfl⟩ [0, 1, 2, 3, 4, 5, 6, 7, 8, 9] [] [0, 1, 2, 3, 4, 5, 6, 7, 8, 9] rfl rfl (by decide) (by decide) (by decide) (by decide) rfl (ci := 7) (q0 := 0) rfl rfl rfl (Nat.le_of_ble_eq_true rfl) ⟨Nat.zero_le _, Nat.zero_le _⟩ dX7_copy_24 (fun H locs hP hD hS => ?_)
      refine lv_iconst (v := 0) hx hb dX7_copy_27 (by decide) ?_
      refine lv_istore_n (lv' := [(1, .int 0), (0, .ref za)]) hx hb dX7_copy_28 rfl hl (by decide) rfl (fun ls hl => ?_)
      refine lv_iconst (v := 0) hx hb dX7_copy_29 (by decide) ?_
      refine lv_istore_n (lv' := [(2, .int 0), (1, .int 0), (0, .ref za)]) hx hb dX7_copy_30 rfl hl (by decide) rfl (fun ls hl => ?_)
      have kx31 : ∀ (x1_31 : Int32) (x2_31 : Int32) (z_31 : Ob) (H : Heap) (locs : List Loc) (ls : Array Slot), k_m_copy_31 x1_31 x2_31 z_31 = some (r, u) → va_P D vwCl (cModel cI cZ za z1 z2 z3 z4 z5 z6 z7 z8 z9 z_31) H → va_D A (cModel cI cZ za z1 z2 z3 z4 z5 z6 z7 z8 z9 z_31) → va_S A s.heap H locs → lv_has ls 3 [(0, .ref za), (1, .int x1_31), (2, .int x2_31)] → W p l e ({ frames := 5, cells := 0, slots := 0, locals := 118 } : Room) s m ([.ref za] : List Value).toArray below meth c H locs 0 0 Q (F0 m 91 ls []) := by
        intro x1_31 x2_31 z_31 H locs ls hf hP hD hS hl
        rw [k_m_copy_31] at hf
        refine lv_iload_n hx hb dX7_copy_91 rfl (lv_at hl 1 rfl) ?_
        exact hret _ _ _ z_31 _ _ hf dX7_copy_92 hP hD hS
      have lh31 : ∀ (fu31 : Nat) (x1_31 : Int32) (x2_31 : Int32) (z_31 : Ob) (H : Heap) (locs : List Loc) (ls : Array Slot), lp_m_copy_31 k_m_copy_31 fu31 x1_31 x2_31 z_31 = some (r, u) → va_P D vwCl (cModel cI cZ za z1 z2 z3 z4 z5 z6 z7 z8 z9 z_31) H → va_D A (cModel cI cZ za z1 z2 z3 z4 z5 z6 z7 z8 z9 z_31) → va_S A s.heap H locs → lv_has ls 3 [(0, .ref za), (1, .int x1_31), (2, .int x2_31)] → W p l e ({ frames := 5, cells := 0, slots := 0, locals := 118 } : Room) s m ([.ref za] : List Value).toArray below meth c H locs 0 0 Q (F0 m 31 ls []) := by
        intro fu31
        induction fu31 with
        | zero => intro x1_31 x2_31 z_31 H locs ls hf hP hD hS hl; exact no_none hf
        | succ fu31 ih31 =>
          intro x1_31 x2_31 z_31 H locs ls hf hP hD hS hl
          rw [lp_m_copy_31] at hf
          refine lv_iload_n hx hb dX7_copy_31 rfl (lv_at hl 2 rfl) ?_
          refine lv_aload_n hx hb dX7_copy_32 rfl (lv_at hl 0 rfl) ?_
          refine va_get (D := D) (ci := 7) (v := .ref z1) (C := RX7) (T := TX7) (N := 17) hx hb hts inT7 hown hK hP 0 rfl rfl 0 (by decide) (hts _ mT_566) (fun _ h9 => h9) rfl dX7_copy_33 ?_
          refine lv_iconst (v := 1) hx hb dX7_copy_36 (by decide) ?_
          refine va_iald (n := 367) (f := z_31 1) hx hb hK hP 1 0 rfl rfl (ck_in (by decide)) dX7_copy_37 ?_
          refine lv_icmp_ge (tgt := 91) hx hb dX7_copy_38 (by decide) (fun c38 => ?_) (fun c38 => ?_)
          · have hf := ite_t c38 hf
            exact kx31 x1_31 x2_31 z_31 _ _ _ hf hP hD hS (lv_sub hl [0, 1, 2] rfl)
          · have hf := ite_f c38 hf
            refine lv_aload_n hx hb dX7_copy_41 rfl (lv_at hl 0 rfl) ?_
            refine lv_iload_n hx hb dX7_copy_42 rfl (lv_at hl 2 rfl) ?_
            obtain ⟨q43, h43, hf⟩ := bd_some hf
            refine kx_rv (As := [.int x2_31]) (rest := []) hx hb hml hown hts hk hP hl.1 s_yX7_isKept v_yX7_isKept (c_m_isKept l D cI cZ cR za z1 z2 z3 z4 z5 z6 z7 z8 z9 z_31 x2_31 _ h43) mT_659 rfl rfl ⟨Nat.le_of_ble_eq_true rfl, Nat.le_of_ble_eq_true rfl⟩ (ci := 7) (q0 := 0) rfl rfl rfl (Nat.le_of_ble_eq_true rfl) ⟨Nat.zero_le _, Nat.zero_le _⟩ dX7_copy_43 ?_
            refine lv_if_eq (tgt := 85) hx hb dX7_copy_46 (by decide) (fun c46 => ?_) (fun c46 => ?_)
            · have hf := ite_t c46 hf
              refine lv_iinc (v := x2_31 + 1) (lv' := [(2, .int (x2_31 + 1)), (0, .ref za), (1, .int x1_31)]) hx hb dX7_copy_85 hl (k := 2) rfl rfl (by decide) rfl (fun ls hl => ?_)
              refine lv_goto (tgt := 31) hx hb dX7_copy_88 (by decide) ?_
              exact ih31 x1_31 (x2_31 + 1) z_31 _ _ _ hf hP hD hS (lv_sub hl [1, 2, 0] rfl)
            · have hf := ite_f c46 hf
              refine lv_aload_n hx hb dX7_copy_49 rfl (lv_at hl 0 rfl) ?_
              refine va_get (D := D) (ci := 7) (v := .ref z1) (C := RX7) (T := TX7) (N := 17) hx hb hts inT7 hown hK hP 0 rfl rfl 0 (by decide) (hts _ mT_566) (fun _ h9 => h9) rfl dX7_copy_50 ?_
              refine lv_bipush (v := 87) hx hb dX7_copy_53 (by decide) ?_
              refine lv_iload_n hx hb dX7_copy_55 rfl (lv_at hl 2 rfl) ?_
              refine lv_iadd hx hb dX7_copy_56 ?_
              refine lv_aload_n hx hb dX7_copy_57 rfl (lv_at hl 0 rfl) ?_
              refine va_get (D := D) (ci := 7) (v := .ref z6) (C := RX7) (T := TX7) (N := 17) hx hb hts inT7 hown hK hP 0 rfl rfl 8 (by decide) (hts _ mT_574) (fun _ h9 => h9) rfl dX7_copy_58 ?_
              refine lv_iload_n hx hb dX7_copy_61 rfl (lv_at hl 2 rfl) ?_
              obtain ⟨b62, hf⟩ := gd_some hf
              refine va_iald (n := 20) (f := z_31 6) hx hb hK hP 6 0 rfl rfl (ck_in b62) dX7_copy_62 ?_
              obtain ⟨b63, hf⟩ := gd_some hf
              refine va_iast (n := 367) (f := z_31 1) hx hb hK hP hD hS 1 0 rfl rfl (ck_in b63) dX7_copy_63 (fun H locs hP hD hS => ?_)
              have hP : va_P D vwCl ([(za, .inr (7, [.ref z1, .ref z2, .int (z_31 0 2), .ref z3, .ref z4, .int (z_31 0 5), .ref z5, .int (z_31 0 7), .ref z6, .ref z7, .ref z8, .int (z_31 0 11), .int (z_31 0 12), .int (z_31 0 13), .int (z_31 0 14), .ref z9, .int (z_31 0 16)])), (z1, .inl (cI, 367, .inl (upd (z_31 1) (Int32.toNatClampNeg (87 + x2_31)) ((z_31 6) (Int32.toNatClampNeg x2_31))))), (z2, .inl (cI, 5872, .inl (z_31 2))), (z3, .inl (cI, 736, .inl (z_31 3))), (z4, .inl (cZ, 2, .inl (z_31 4))), (z5, .inl (cI, 60, .inl (z_31 5))), (z6, .inl (cI, 20, .inl (z_31 6))), (z7, .inl (cI, 20, .inl (z_31 7))), (z8, .inl (cI, 20, .inl (z_31 8))), (z9, .inl (cI, 10, .inl (z_31 9)))]) H := hP
              have hD : va_D A ([(za, .inr (7, [.ref z1, .ref z2, .int (z_31 0 2), .ref z3, .ref z4, .int (z_31 0 5), .ref z5, .int (z_31 0 7), .ref z6, .ref z7, .ref z8, .int (z_31 0 11), .int (z_31 0 12), .int (z_31 0 13), .int (z_31 0 14), .ref z9, .int (z_31 0 16)])), (z1, .inl (cI, 367, .inl (upd (z_31 1) (Int32.toNatClampNeg (87 + x2_31)) ((z_31 6) (Int32.toNatClampNeg x2_31))))), (z2, .inl (cI, 5872, .inl (z_31 2))), (z3, .inl (cI, 736, .inl (z_31 3))), (z4, .inl (cZ, 2, .inl (z_31 4))), (z5, .inl (cI, 60, .inl (z_31 5))), (z6, .inl (cI, 20, .inl (z_31 6))), (z7, .inl (cI, 20, .inl (z_31 7))), (z8, .inl (cI, 20, .inl (z_31 8))), (z9, .inl (cI, 10, .inl (z_31 9)))]) := hD
              refine lv_aload_n hx hb dX7_copy_64 rfl (lv_at hl 0 rfl) ?_
              refine va_get (D := D) (ci := 7) (v := .ref z1) (C := RX7) (T := TX7) (N := 17) hx hb hts inT7 hown hK hP 0 rfl rfl 0 (by decide) (hts _ mT_566) (fun _ h9 => h9) rfl dX7_copy_65 ?_
              refine lv_bipush (v := 97) hx hb dX7_copy_68 (by decide) ?_
              refine lv_iload_n hx hb dX7_copy_70 rfl (lv_at hl 2 rfl) ?_
              refine lv_iadd hx hb dX7_copy_71 ?_
              refine lv_aload_n hx hb dX7_copy_72 rfl (lv_at hl 0 rfl) ?_
              refine va_get (D := D) (ci := 7) (v := .ref z6) (C := RX7) (T := TX7) (N := 17) hx hb hts inT7 hown hK hP 0 rfl rfl 8 (by decide) (hts _ mT_574) (fun _ h9 => h9) rfl dX7_copy_73 ?_
              refine lv_bipush (v := 10) hx hb dX7_copy_76 (by decide) ?_
              refine lv_iload_n hx hb dX7_copy_78 rfl (lv_at hl 2 rfl) ?_
              refine lv_iadd hx hb dX7_copy_79 ?_
              obtain ⟨b80, hf⟩ := gd_some hf
              refine va_iald (n := 20) (f := z_31 6) hx hb hK hP 6 0 rfl rfl (ck_in b80) dX7_copy_80 ?_
              obtain ⟨b81, hf⟩ := gd_some hf
              refine va_iast (n := 367) (f := upd (z_31 1) (Int32.toNatClampNeg (87 + x2_31)) ((z_31 6) (Int32.toNatClampNeg x2_31))) hx hb hK hP hD hS 1 0 rfl rfl (ck_in b81) dX7_copy_81 (fun H locs hP hD hS => ?_)
              have hP : va_P D vwCl ([(za, .inr (7, [.ref z1, .ref z2, .int (z_31 0 2), .ref z3, .ref z4, .int (z_31 0 5), .ref z5, .int (z_31 0 7), .ref z6, .ref z7, .ref z8, .int (z_31 0 11), .int (z_31 0 12), .int (z_31 0 13), .int (z_31 0 14), .ref z9, .int (z_31 0 16)])), (z1, .inl (cI, 367, .inl (upd (upd (z_31 1) (Int32.toNatClampNeg (87 + x2_31)) ((z_31 6) (Int32.toNatClampNeg x2_31))) (Int32.toNatClampNeg (97 + x2_31)) ((z_31 6) (Int32.toNatClampNeg (10 + x2_31)))))), (z2, .inl (cI, 5872, .inl (z_31 2))), (z3, .inl (cI, 736, .inl (z_31 3))), (z4, .inl (cZ, 2, .inl (z_31 4))), (z5, .inl (cI, 60, .inl (z_31 5))), (z6, .inl (cI, 20, .inl (z_31 6))), (z7, .inl (cI, 20, .inl (z_31 7))), (z8, .inl (cI, 20, .inl (z_31 8))), (z9, .inl (cI, 10, .inl (z_31 9)))]) H := hP
              have hD : va_D A ([(za, .inr (7, [.ref z1, .ref z2, .int (z_31 0 2), .ref z3, .ref z4, .int (z_31 0 5), .ref z5, .int (z_31 0 7), .ref z6, .ref z7, .ref z8, .int (z_31 0 11), .int (z_31 0 12), .int (z_31 0 13), .int (z_31 0 14), .ref z9, .int (z_31 0 16)])), (z1, .inl (cI, 367, .inl (upd (upd (z_31 1) (Int32.toNatClampNeg (87 + x2_31)) ((z_31 6) (Int32.toNatClampNeg x2_31))) (Int32.toNatClampNeg (97 + x2_31)) ((z_31 6) (Int32.toNatClampNeg (10 + x2_31)))))), (z2, .inl (cI, 5872, .inl (z_31 2))), (z3, .inl (cI, 736, .inl (z_31 3))), (z4, .inl (cZ, 2, .inl (z_31 4))), (z5, .inl (cI, 60, .inl (z_31 5))), (z6, .inl (cI, 20, .inl (z_31 6))), (z7, .inl (cI, 20, .inl (z_31 7))), (z8, .inl (cI, 20, .inl (z_31 8))), (z9, .inl (cI, 10, .inl (z_31 9)))]) := hD
              refine lv_iinc (v := x1_31 + 1) (lv' := [(1, .int (x1_31 + 1)), (0, .ref za), (2, .int x2_31)]) hx hb dX7_copy_82 hl (k := 1) rfl rfl (by decide) rfl (fun ls hl => ?_)
              refine lv_iinc (v := x2_31 + 1) (lv' := [(2, .int (x2_31 + 1)), (1, .int (x1_31 + 1)), (0, .ref za)]) hx hb dX7_copy_85 hl (k := 2) rfl rfl (by decide) rfl (fun ls hl => ?_)
              refine lv_goto (tgt := 31) hx hb dX7_copy_88 (by decide) ?_
              exact ih31 (x1_31 + 1) (x2_31 + 1) (sA (sA z_31 1 (upd (z_31 1) (Int32.toNatClampNeg (87 + x2_31)) ((z_31 6) (Int32.toNatClampNeg x2_31)))) 1 (upd (upd (z_31 1) (Int32.toNatClampNeg (87 + x2_31)) ((z_31 6) (Int32.toNatClampNeg x2_31))) (Int32.toNatClampNeg (97 + x2_31)) ((z_31 6) (Int32.toNatClampNeg (10 + x2_31))))) _ _ _ hf hP hD hS (lv_sub hl [2, 1, 0] rfl)
      exact lh31 10000 0 0 q24 _ _ _ hf hP hD hS (lv_sub hl [2, 1, 0] rfl)
    · have hf := ite_f c17 hf
      refine lv_ldc (v := (-1000000003)) hx hb hown (hts _ mT_820) dX7_copy_20 ?_
      exact hret _ _ _ q14.2 _ _ hf dX7_copy_22 hP hD hS
theorem s_yX7_draw : kMS yX7_draw cX7_draw 2 (some .int) 1 := ⟨mT_832, mT_59, by decide +kernel⟩
theorem v_yX7_draw : kMV yX7_draw := ⟨mT_831, mT_49⟩
def f_m_draw (z : Ob) (x : Int32) : Option (Int32 × Ob) := gd (nz x) (some (((Int64.toInt32 ((((Int32.toInt64 (z 0 5)) * 1103515245) + 12345) - (((Int32.toInt64 (z 0 5)) * 1103515245) + 12345) / 2147483648 * 2147483648)) / 65536) - ((Int64.toInt32 ((((Int32.toInt64 (z 0 5)) * 1103515245) + 12345) - (((Int32.toInt64 (z 0 5)) * 1103515245) + 12345) / 2147483648 * 2147483648)) / 65536) / x * x, sI z 5 (Int64.toInt32 ((((Int32.toInt64 (z 0 5)) * 1103515245) + 12345) - (((Int32.toInt64 (z 0 5)) * 1103515245) + 12345) / 2147483648 * 2147483648))))
set_option maxHeartbeats 4000000 in
set_option maxRecDepth 100000 in
theorem c_m_draw (l : Launch) (D : va_G) (cI cZ cR : ClassId) (za z1 z2 z3 z4 z5 z6 z7 z8 z9 : Nat) (z : Ob) (x : Int32) (sz : Nat) (r : Int32) (u : Ob) (hf : f_m_draw z x = some (r, u)) : kCi l yX7_draw cX7_draw 2 (some .int) { frames := 0, cells := 0, slots := 0, locals := 0 } [.ref za, .int x] D cI cZ cR (cModel cI cZ za z1 z2 z3 z4 z5 z6 z7 z8 z9 z) sz (cModel cI cZ za z1 z2 z3 z4 z5 z6 z7 z8 z9 u) r := by
  refine kMwi (wf := (fun u : Ob => cModel cI cZ za z1 z2 z3 z4 z5 z6 z7 z8 z9 u)) (u := u) (by decide) (Nat.le_of_ble_eq_true rfl) ?_
  intro p e s m below meth c Q A hx hb hml hown hts hk hP hD hA hS hret ls hl
  have hS0 := hS
  have hK := hk.1
  have hl : lv_has ls 2 [(0, .ref za), (1, .int x)] := hl
  rw [f_m_draw] at hf
  refine lv_aload_n hx hb dX7_draw_0 rfl (lv_at hl 0 rfl) ?_
  refine lv_aload_n hx hb dX7_draw_1 rfl (lv_at hl 0 rfl) ?_
  refine va_get (D := D) (ci := 7) (v := .int (z 0 5)) (C := RX7) (T := TX7) (N := 17) hx hb hts inT7 hown hK hP 0 rfl rfl 5 (by decide) (hts _ mT_571) (fun _ h9 => h9) rfl dX7_draw_2 ?_
  refine lv_i2l (v := Int32.toInt64 (z 0 5)) hx hb dX7_draw_5 rfl ?_
  refine lv_ldc2 (v := 1103515245) hx hb hown (hts _ mT_833) dX7_draw_6 ?_
  refine lv_lmul hx hb dX7_draw_9 ?_
  refine lv_ldc2 (v := 12345) hx hb hown (hts _ mT_834) dX7_draw_10 ?_
  refine lv_ladd hx hb dX7_draw_13 ?_
  refine lv_ldc2 (v := 2147483648) hx hb hown (hts _ mT_835) dX7_draw_14 ?_
  refine lv_lrem hx hb dX7_draw_17 (by decide) ?_
  refine lv_l2i (v := Int64.toInt32 ((((Int32.toInt64 (z 0 5)) * 1103515245) + 12345) - (((Int32.toInt64 (z 0 5)) * 1103515245) + 12345) / 2147483648 * 2147483648)) hx hb dX7_draw_18 rfl ?_
  refine va_put (D := D) (ci := 7) (v := .int (Int64.toInt32 ((((Int32.toInt64 (z 0 5)) * 1103515245) + 12345) - (((Int32.toInt64 (z 0 5)) * 1103515245) + 12345) / 2147483648 * 2147483648))) (ty := .int) (C := RX7) (T := TX7) (N := 17) hx hb hts inT7 tyX7 tyX7_ok nmX7 hown hK hP hD hS 0 rfl rfl 5 (by decide) (hts _ mT_571) (fun _ h9 => h9) rfl (by decide +kernel) rfl rfl (Nat.le_of_ble_eq_true rfl) dX7_draw_19 (fun H locs hP hD hS => ?_)
  have hP : va_P D vwCl ([(za, .inr (7, [.ref z1, .ref z2, .int (z 0 2), .ref z3, .ref z4, .int (Int64.toInt32 ((((Int32.toInt64 (z 0 5)) * 1103515245) + 12345) - (((Int32.toInt64 (z 0 5)) * 1103515245) + 12345) / 2147483648 * 2147483648)), .ref z5, .int (z 0 7), .ref z6, .ref z7, .ref z8, .int (z 0 11), .int (z 0 12), .int (z 0 13), .int (z 0 14), .ref z9, .int (z 0 16)])), (z1, .inl (cI, 367, .inl (z 1))), (z2, .inl (cI, 5872, .inl (z 2))), (z3, .inl (cI, 736, .inl (z 3))), (z4, .inl (cZ, 2, .inl (z 4))), (z5, .inl (cI, 60, .inl (z 5))), (z6, .inl (cI, 20, .inl (z 6))), (z7, .inl (cI, 20, .inl (z 7))), (z8, .inl (cI, 20, .inl (z 8))), (z9, .inl (cI, 10, .inl (z 9)))]) H := hP
  have hD : va_D A ([(za, .inr (7, [.ref z1, .ref z2, .int (z 0 2), .ref z3, .ref z4, .int (Int64.toInt32 ((((Int32.toInt64 (z 0 5)) * 1103515245) + 12345) - (((Int32.toInt64 (z 0 5)) * 1103515245) + 12345) / 2147483648 * 2147483648)), .ref z5, .int (z 0 7), .ref z6, .ref z7, .ref z8, .int (z 0 11), .int (z 0 12), .int (z 0 13), .int (z 0 14), .ref z9, .int (z 0 16)])), (z1, .inl (cI, 367, .inl (z 1))), (z2, .inl (cI, 5872, .inl (z 2))), (z3, .inl (cI, 736, .inl (z 3))), (z4, .inl (cZ, 2, .inl (z 4))), (z5, .inl (cI, 60, .inl (z 5))), (z6, .inl (cI, 20, .inl (z 6))), (z7, .inl (cI, 20, .inl (z 7))), (z8, .inl (cI, 20, .inl (z 8))), (z9, .inl (cI, 10, .inl (z 9)))]) := hD
  refine lv_aload_n hx hb dX7_draw_22 rfl (lv_at hl 0 rfl) ?_
  refine va_get (D := D) (ci := 7) (v := .int (Int64.toInt32 ((((Int32.toInt64 (z 0 5)) * 1103515245) + 12345) - (((Int32.toInt64 (z 0 5)) * 1103515245) + 12345) / 2147483648 * 2147483648))) (C := RX7) (T := TX7) (N := 17) hx hb hts inT7 hown hK hP 0 rfl rfl 5 (by decide) (hts _ mT_571) (fun _ h9 => h9) rfl dX7_draw_23 ?_
  refine lv_ldc (v := 65536) hx hb hown (hts _ mT_836) dX7_draw_26 ?_
  refine lv_idiv hx hb dX7_draw_28 (by decide) ?_
  refine lv_iload_n hx hb dX7_draw_29 rfl (lv_at hl 1 rfl) ?_
  obtain ⟨b30, hf⟩ := gd_some hf
  refine lv_irem hx hb dX7_draw_30 (nz_ne b30) ?_
  exact hret _ _ _ (sI z 5 (Int64.toInt32 ((((Int32.toInt64 (z 0 5)) * 1103515245) + 12345) - (((Int32.toInt64 (z 0 5)) * 1103515245) + 12345) / 2147483648 * 2147483648))) _ _ hf dX7_draw_31 hP hD hS
theorem s_yX7_drift : kMS yX7_drift cX7_drift 8 (some .int) 1 := ⟨mT_828, mT_59, by decide +kernel⟩
theorem v_yX7_drift : kMV yX7_drift := ⟨mT_826, mT_827⟩
def k_m_drift_15 (x2_15 : Int32) (z_15 : Ob) : Option (Int32 × Ob) := some ((z_15 1) (Int32.toNatClampNeg 2), z_15)
def lp_m_drift_15 (x : Int32) (kk0 : Int32 → Ob → Option (Int32 × Ob)) : Nat → Int32 → Ob → Option (Int32 × Ob)
  | 0, _, _ => none
  | fu15 + 1, x2_15, z_15 => if x ≤ x2_15 then (kk0 x2_15 z_15) else (if ((z_15 1) (Int32.toNatClampNeg 1)) ≤ 0 then (kk0 x2_15 z_15) else (if 20 ≤ ((z_15 1) (Int32.toNatClampNeg 2)) then (kk0 x2_15 z_15) else (bd (f_m_notes z_15) (fun q41 => bd (f_m_draw q41 ((q41 1) (Int32.toNatClampNeg 1))) (fun q51 => bd (f_m_draw q51.2 ((q51.2 1) (Int32.toNatClampNeg 1))) (fun q62 => bd (f_m_draw q62.2 ((q62.2 1) (Int32.toNatClampNeg 0))) (fun q74 => bd (f_m_draw q74.2 8) (fun q83 => bd (f_m_draw q83.2 8) (fun q93 => bd (f_m_comes q93.2 q51.1 q62.1 (1 <<< (q83.1 &&& 31)) (1 <<< (q93.1 &&& 31)) q74.1) (fun q109 => (lp_m_drift_15 x kk0 fu15) (x2_15 + 1) q109))))))))))
def f_m_drift (z : Ob) (x : Int32) : Option (Int32 × Ob) := bd (f_m_in x 1 16) (fun q4 => if q4 = 0 then (some ((-1000000002), z)) else (lp_m_drift_15 x k_m_drift_15 10000 0 z))
set_option maxHeartbeats 4000000 in
set_option maxRecDepth 100000 in
theorem c_m_drift (l : Launch) (D : va_G) (cI cZ cR : ClassId) (za z1 z2 z3 z4 z5 z6 z7 z8 z9 : Nat) (z : Ob) (x : Int32) (sz : Nat) (r : Int32) (u : Ob) (hf : f_m_drift z x = some (r, u)) : kCi l yX7_drift cX7_drift 8 (some .int) { frames := 1, cells := 0, slots := 0, locals := 27 } [.ref za, .int x] D cI cZ cR (cModel cI cZ za z1 z2 z3 z4 z5 z6 z7 z8 z9 z) sz (cModel cI cZ za z1 z2 z3 z4 z5 z6 z7 z8 z9 u) r := by
  refine kMwi (wf := (fun u : Ob => cModel cI cZ za z1 z2 z3 z4 z5 z6 z7 z8 z9 u)) (u := u) (by decide) (Nat.le_of_ble_eq_true rfl) ?_
  intro p e s m below meth c Q A hx hb hml hown hts hk hP hD hA hS hret ls hl
  have hS0 := hS
  have hK := hk.1
  have hl : lv_has ls 8 [(0, .ref za), (1, .int x)] := hl
  rw [f_m_drift] at hf
  refine lv_iload_n hx hb dX7_drift_0 rfl (lv_at hl 1 rfl) ?_
  refine lv_iconst (v := 1) hx hb dX7_drift_1 (by decide) ?_
  refine lv_bipush (v := 16) hx hb dX7_drift_2 (by decide) ?_
  obtain ⟨q4, h4, hf⟩ := bd_some hf
  refine kx_rs (As := [.int x, .int 1, .int 16]) (rest := []) hx hb hml hown hts hk hl.1 s_yX7_in mT_720 (c_m_in l D cI cZ cR x 1 16 _ h4) mT_719 rfl rfl ⟨Nat.le_of_ble_eq_true rfl, Nat.le_of_ble_eq_true rfl⟩ rfl (Nat.le_of_ble_eq_true rfl) ⟨Nat.zero_le _, Nat.zero_le _⟩ dX7_drift_4 ?_
  refine lv_if_ne (tgt := 13) hx hb dX7_drift_7 (by decide) (fun c7 => ?_) (fun c7 => ?_)
  · have hf := ite_f c7 hf
    refine lv_iconst (v := 0) hx hb dX7_drift_13 (by decide) ?_
    refine lv_istore_n (lv' := [(2, .int 0), (0, .ref za), (1, .int x)]) hx hb dX7_drift_14 rfl hl (by decide) rfl (fun ls hl => ?_)
    have kx15 : ∀ (x2_15 : Int32) (z_15 : Ob) (H : Heap) (locs : List Loc) (ls : Array Slot), k_m_drift_15 x2_15 z_15 = some (r, u) → va_P D vwCl (cModel cI cZ za z1 z2 z3 z4 z5 z6 z7 z8 z9 z_15) H → va_D A (cModel cI cZ za z1 z2 z3 z4 z5 z6 z7 z8 z9 z_15) → va_S A s.heap H locs → lv_has ls 8 [(0, .ref za), (1, .int x), (2, .int x2_15)] → W p l e ({ frames := 1, cells := 0, slots := 0, locals := 27 } : Room) s m ([.ref za, .int x] : List Value).toArray below meth c H locs 0 0 Q (F0 m 118 ls []) := by
      intro x2_15 z_15 H locs ls hf hP hD hS hl
      rw [k_m_drift_15] at hf
      refine lv_aload_n hx hb dX7_drift_118 rfl (lv_at hl 0 rfl) ?_
      refine va_get (D := D) (ci := 7) (v := .ref z1) (C := RX7) (T := TX7) (N := 17) hx hb hts inT7 hown hK hP 0 rfl rfl 0 (by decide) (hts _ mT_566) (fun _ h9 => h9) rfl dX7_drift_119 ?_
      refine lv_iconst (v := 2) hx hb dX7_drift_122 (by decide) ?_
      refine va_iald (n := 367) (f := z_15 1) hx hb hK hP 1 0 rfl rfl (ck_in (by decide)) dX7_drift_123 ?_
      exact hret _ _ _ z_15 _ _ hf dX7_drift_124 hP hD hS
    have lh15 : ∀ (fu15 : Nat) (x2_15 : Int32) (z_15 : Ob) (H : Heap) (locs : List Loc) (ls : Array Slot), lp_m_drift_15 x k_m_drift_15 fu15 x2_15 z_15 = some (r, u) → va_P D vwCl (cModel cI cZ za z1 z2 z3 z4 z5 z6 z7 z8 z9 z_15) H → va_D A (cModel cI cZ za z1 z2 z3 z4 z5 z6 z7 z8 z9 z_15) → va_S A s.heap H locs → lv_has ls 8 [(0, .ref za), (1, .int x), (2, .int x2_15)] → W p l e ({ frames := 1, cells := 0, slots := 0, locals := 27 } : Room) s m ([.ref za, .int x] : List Value).toArray below meth c H locs 0 0 Q (F0 m 15 ls []) := by
      intro fu15
      induction fu15 with
      | zero => intro x2_15 z_15 H locs ls hf hP hD hS hl; exact no_none hf
      | succ fu15 ih15 =>
        intro x2_15 z_15 H locs ls hf hP hD hS hl
        rw [lp_m_drift_15] at hf
        refine lv_iload_n hx hb dX7_drift_15 rfl (lv_at hl 2 rfl) ?_
        refine lv_iload_n hx hb dX7_drift_16 rfl (lv_at hl 1 rfl) ?_
        refine lv_icmp_ge (tgt := 118) hx hb dX7_drift_17 (by decide) (fun c17 => ?_) (fun c17 => ?_)
        · have hf := ite_t c17 hf
          exact kx15 x2_15 z_15 _ _ _ hf hP hD hS (lv_sub hl [0, 1, 2] rfl)
        · have hf := ite_f c17 hf
          refine lv_aload_n hx hb dX7_drift_20 rfl (lv_at hl 0 rfl) ?_
          refine va_get (D := D) (ci := 7) (v := .ref z1) (C := RX7) (T := TX7) (N := 17) hx hb hts inT7 hown hK hP 0 rfl rfl 0 (by decide) (hts _ mT_566) (fun _ h9 => h9) rfl dX7_drift_21 ?_
          refine lv_iconst (v := 1) hx hb dX7_drift_24 (by decide) ?_
          refine va_iald (n := 367) (f := z_15 1) hx hb hK hP 1 0 rfl rfl (ck_in (by decide)) dX7_drift_25 ?_
          refine lv_if_le (tgt := 118) hx hb dX7_drift_26 (by decide) (fun c26 => ?_) (fun c26 => ?_)
          · have hf := ite_t c26 hf
            exact kx15 x2_15 z_15 _ _ _ hf hP hD hS (lv_sub hl [0, 1, 2] rfl)
          · have hf := ite_f c26 hf
            refine lv_aload_n hx hb dX7_drift_29 rfl (lv_at hl 0 rfl) ?_
            refine va_get (D := D) (ci := 7) (v := .ref z1) (C := RX7) (T := TX7) (N := 17) hx hb hts inT7 hown hK hP 0 rfl rfl 0 (by decide) (hts _ mT_566) (fun _ h9 => h9) rfl dX7_drift_30 ?_
            refine lv_iconst (v := 2) hx hb dX7_drift_33 (by decide) ?_
            refine va_iald (n := 367) (f := z_15 1) hx hb hK hP 1 0 rfl rfl (ck_in (by decide)) dX7_drift_34 ?_
            refine lv_bipush (v := 20) hx hb dX7_drift_35 (by decide) ?_
            refine lv_icmp_ge (tgt := 118) hx hb dX7_drift_37 (by decide) (fun c37 => ?_) (fun c37 => ?_)
            · have hf := ite_t c37 hf
              exact kx15 x2_15 z_15 _ _ _ hf hP hD hS (lv_sub hl [0, 1, 2] rfl)
            · have hf := ite_f c37 hf
              refine lv_aload_n hx hb dX7_drift_40 rfl (lv_at hl 0 rfl) ?_
              obtain ⟨q41, h41, hf⟩ := bd_some hf
              refine kx_wv (As := []) (rest := []) (wc := cModel cI cZ za z1 z2 z3 z4 z5 z6 z7 z8 z9 z_15) (wr := []) (wd := cModel cI cZ za z1 z2 z3 z4 z5 z6 z7 z8 z9 q41) (wn := cModel cI cZ za z1 z2 z3 z4 z5 z6 z7 z8 z9 q41) hx hb hml hown hts hk hP hD hS hA hl.1 s_yX7_notes v_yX7_notes (c_m_notes l D cI cZ cR za z1 z2 z3 z4 z5 z6 z7 z8 z9 z_15 H.size _ h41) mT_776 rfl rfl ⟨Nat.le_of_ble_eq_true rfl, Nat.le_of_ble_eq_true rfl⟩ [0, 1, 2, 3, 4, 5, 6, 7, 8, 9] [] [0, 1, 2, 3, 4, 5, 6, 7, 8, 9] rfl rfl (by decide) (by decide) (by decide) (by decide) rfl (ci := 7) (q0 := 0) rfl rfl rfl (Nat.le_of_ble_eq_true rfl) ⟨Nat.zero_le _, Nat.zero_le _⟩ dX7_drift_41 (fun H locs hP hD hS => ?_)
              refine lv_aload_n hx hb dX7_drift_44 rfl (lv_at hl 0 rfl) ?_
              refine lv_aload_n hx hb dX7_drift_45 rfl (lv_at hl 0 rfl) ?_
              refine va_get (D := D) (ci := 7) (v := .ref z1) (C := RX7) (T := TX7) (N := 17) hx hb hts inT7 hown hK hP 0 rfl rfl 0 (by decide) (hts _ mT_566) (fun _ h9 => h9) rfl dX7_drift_46 ?_
              refine lv_iconst (v := 1) hx hb dX7_drift_49 (by decide) ?_
              refine va_iald (n := 367) (f := q41 1) hx hb hK hP 1 0 rfl rfl (ck_in (by decide)) dX7_drift_50 ?_
              obtain ⟨q51, h51, hf⟩ := bd_some hf
              refine kx_wi (As := [.int ((q41 1) (Int32.toNatClampNeg 1))]) (rest := []) (wc := cModel cI cZ za z1 z2 z3 z4 z5 z6 z7 z8 z9 q41) (wr := []) (wd := cModel cI cZ za z1 z2 z3 z4 z5 z6 z7 z8 z9 q51.2) (wn := cModel cI cZ za z1 z2 z3 z4 z5 z6 z7 z8 z9 q51.2) hx hb hml hown hts hk hP hD hS hA hl.1 s_yX7_draw v_yX7_draw (c_m_draw l D cI cZ cR za z1 z2 z3 z4 z5 z6 z7 z8 z9 q41 ((q41 1) (Int32.toNatClampNeg 1)) H.size _ _ h51) mT_829 rfl rfl ⟨Nat.le_of_ble_eq_true rfl, Nat.le_of_ble_eq_true rfl⟩ [0, 1, 2, 3, 4, 5, 6, 7, 8, 9] [] [0, 1, 2, 3, 4, 5, 6, 7, 8, 9] rfl rfl (by decide) (by decide) (by decide) (by decide) rfl (ci := 7) (q0 := 0) rfl rfl rfl (Nat.le_of_ble_eq_true rfl) ⟨Nat.zero_le _, Nat.zero_le _⟩ dX7_drift_51 (fun H locs hP hD hS => ?_)
              refine lv_istore_n (lv' := [(3, .int q51.1), (0, .ref za), (1, .int x), (2, .int x2_15)]) hx hb dX7_drift_54 rfl hl (by decide) rfl (fun ls hl => ?_)
              refine lv_aload_n hx hb dX7_drift_55 rfl (lv_at hl 1 rfl) ?_
              refine lv_aload_n hx hb dX7_drift_56 rfl (lv_at hl 1 rfl) ?_
              refine va_get (D := D) (ci := 7) (v := .ref z1) (C := RX7) (T := TX7) (N := 17) hx hb hts inT7 hown hK hP 0 rfl rfl 0 (by decide) (hts _ mT_566) (fun _ h9 => h9) rfl dX7_drift_57 ?_
              refine lv_iconst (v := 1) hx hb dX7_drift_60 (by decide) ?_
              refine va_iald (n := 367) (f := q51.2 1) hx hb hK hP 1 0 rfl rfl (ck_in (by decide)) dX7_drift_61 ?_
              obtain ⟨q62, h62, hf⟩ := bd_some hf
              refine kx_wi (As := [.int ((q51.2 1) (Int32.toNatClampNeg 1))]) (rest := []) (wc := cModel cI cZ za z1 z2 z3 z4 z5 z6 z7 z8 z9 q51.2) (wr := []) (wd := cModel cI cZ za z1 z2 z3 z4 z5 z6 z7 z8 z9 q62.2) (wn := cModel cI cZ za z1 z2 z3 z4 z5 z6 z7 z8 z9 q62.2) hx hb hml hown hts hk hP hD hS hA hl.1 s_yX7_draw v_yX7_draw (c_m_draw l D cI cZ cR za z1 z2 z3 z4 z5 z6 z7 z8 z9 q51.2 ((q51.2 1) (Int32.toNatClampNeg 1)) H.size _ _ h62) mT_829 rfl rfl ⟨Nat.le_of_ble_eq_true rfl, Nat.le_of_ble_eq_true rfl⟩ [0, 1, 2, 3, 4, 5, 6, 7, 8, 9] [] [0, 1, 2, 3, 4, 5, 6, 7, 8, 9] rfl rfl (by decide) (by decide) (by decide) (by decide) rfl (ci := 7) (q0 := 0) rfl rfl rfl (Nat.le_of_ble_eq_true rfl) ⟨Nat.zero_le _, Nat.zero_le _⟩ dX7_drift_62 (fun H locs hP hD hS => ?_)
              refine lv_istore (lv' := [(4, .int q62.1), (3, .int q51.1), (0, .ref za), (1, .int x), (2, .int x2_15)]) hx hb dX7_drift_65 hl (by decide) rfl (fun ls hl => ?_)
              refine lv_aload_n hx hb dX7_drift_67 rfl (lv_at hl 2 rfl) ?_
              refine lv_aload_n hx hb dX7_drift_68 rfl (lv_at hl 2 rfl) ?_
              refine va_get (D := D) (ci := 7) (v := .ref z1) (C := RX7) (T := TX7) (N := 17) hx hb hts inT7 hown hK hP 0 rfl rfl 0 (by decide) (hts _ mT_566) (fun _ h9 => h9) rfl dX7_drift_69 ?_
              refine lv_iconst (v := 0) hx hb dX7_drift_72 (by decide) ?_
              refine va_iald (n := 367) (f := q62.2 1) hx hb hK hP 1 0 rfl rfl (ck_in (by decide)) dX7_drift_73 ?_
              obtain ⟨q74, h74, hf⟩ := bd_some hf
              refine kx_wi (As := [.int ((q62.2 1) (Int32.toNatClampNeg 0))]) (rest := []) (wc := cModel cI cZ za z1 z2 z3 z4 z5 z6 z7 z8 z9 q62.2) (wr := []) (wd := cModel cI cZ za z1 z2 z3 z4 z5 z6 z7 z8 z9 q74.2) (wn := cModel cI cZ za z1 z2 z3 z4 z5 z6 z7 z8 z9 q74.2) hx hb hml hown hts hk hP hD hS hA hl.1 s_yX7_draw v_yX7_draw (c_m_draw l D cI cZ cR za z1 z2 z3 z4 z5 z6 z7 z8 z9 q62.2 ((q62.2 1) (Int32.toNatClampNeg 0)) H.size _ _ h74) mT_829 rfl rfl ⟨Nat.le_of_ble_eq_true rfl, Nat.le_of_ble_eq_true rfl⟩ [0, 1, 2, 3, 4, 5, 6, 7, 8, 9] [] [0, 1, 2, 3, 4, 5, 6, 7, 8, 9] rfl rfl (by decide) (by decide) (by decide) (by decide) rfl (ci := 7) (q0 := 0) rfl rfl rfl (Nat.le_of_ble_eq_true rfl) ⟨Nat.zero_le _, Nat.zero_le _⟩ dX7_drift_74 (fun H locs hP hD hS => ?_)
              refine lv_istore (lv' := [(5, .int q74.1), (4, .int q62.1), (3, .int q51.1), (0, .ref za), (1, .int x), (2, .int x2_15)]) hx hb dX7_drift_77 hl (by decide) rfl (fun ls hl => ?_)
              refine lv_iconst (v := 1) hx hb dX7_drift_79 (by decide) ?_
              refine lv_aload_n hx hb dX7_drift_80 rfl (lv_at hl 3 rfl) ?_
              refine lv_bipush (v := 8) hx hb dX7_drift_81 (by decide) ?_
              obtain ⟨q83, h83, hf⟩ := bd_some hf
              refine kx_wi (As := [.int 8]) (rest := [.int 1]) (wc := cModel cI cZ za z1 z2 z3 z4 z5 z6 z7 z8 z9 q74.2) (wr := []) (wd := cModel cI cZ za z1 z2 z3 z4 z5 z6 z7 z8 z9 q83.2) (wn := cModel cI cZ za z1 z2 z3 z4 z5 z6 z7 z8 z9 q83.2) hx hb hml hown hts hk hP hD hS hA hl.1 s_yX7_draw v_yX7_draw (c_m_draw l D cI cZ cR za z1 z2 z3 z4 z5 z6 z7 z8 z9 q74.2 8 H.size _ _ h83) mT_829 rfl rfl ⟨Nat.le_of_ble_eq_true rfl, Nat.le_of_ble_eq_true rfl⟩ [0, 1, 2, 3, 4, 5, 6, 7, 8, 9] [] [0, 1, 2, 3, 4, 5, 6, 7, 8, 9] rfl rfl (by decide) (by decide) (by decide) (by decide) rfl (ci := 7) (q0 := 0) rfl rfl rfl (Nat.le_of_ble_eq_true rfl) ⟨Nat.zero_le _, Nat.zero_le _⟩ dX7_drift_83 (fun H locs hP hD hS => ?_)
              refine lv_ishl hx hb dX7_drift_86 ?_
              refine lv_istore (lv' := [(6, .int (1 <<< (q83.1 &&& 31))), (5, .int q74.1), (4, .int q62.1), (3, .int q51.1), (0, .ref za), (1, .int x), (2, .int x2_15)]) hx hb dX7_drift_87 hl (by decide) rfl (fun ls hl => ?_)
              refine lv_iconst (v := 1) hx hb dX7_drift_89 (by decide) ?_
              refine lv_aload_n hx hb dX7_drift_90 rfl (lv_at hl 4 rfl) ?_
              refine lv_bipush (v := 8) hx hb dX7_drift_91 (by decide) ?_
              obtain ⟨q93, h93, hf⟩ := bd_some hf
              refine kx_wi (As := [.int 8]) (rest := [.int 1]) (wc := cModel cI cZ za z1 z2 z3 z4 z5 z6 z7 z8 z9 q83.2) (wr := []) (wd := cModel cI cZ za z1 z2 z3 z4 z5 z6 z7 z8 z9 q93.2) (wn := cModel cI cZ za z1 z2 z3 z4 z5 z6 z7 z8 z9 q93.2) hx hb hml hown hts hk hP hD hS hA hl.1 s_yX7_draw v_yX7_draw (c_m_draw l D cI cZ cR za z1 z2 z3 z4 z5 z6 z7 z8 z9 q83.2 8 H.size _ _ h93) mT_829 rfl rfl ⟨Nat.le_of_ble_eq_true rfl, Nat.le_of_ble_eq_true rfl⟩ [0, 1, 2, 3, 4, 5, 6, 7, 8, 9] [] [0, 1, 2, 3, 4, 5, 6, 7, 8, 9] rfl rfl (by decide) (by decide) (by decide) (by decide) rfl (ci := 7) (q0 := 0) rfl rfl rfl (Nat.le_of_ble_eq_true rfl) ⟨Nat.zero_le _, Nat.zero_le _⟩ dX7_drift_93 (fun H locs hP hD hS => ?_)
              refine lv_ishl hx hb dX7_drift_96 ?_
              refine lv_istore (lv' := [(7, .int (1 <<< (q93.1 &&& 31))), (6, .int (1 <<< (q83.1 &&& 31))), (5, .int q74.1), (4, .int q62.1), (3, .int q51.1), (0, .ref za), (1, .int x), (2, .int x2_15)]) hx hb dX7_drift_97 hl (by decide) rfl (fun ls hl => ?_)
              refine lv_aload_n hx hb dX7_drift_99 rfl (lv_at hl 5 rfl) ?_
              refine lv_iload_n hx hb dX7_drift_100 rfl (lv_at hl 4 rfl) ?_
              refine lv_iload hx hb dX7_drift_101 (lv_at hl 3 rfl) ?_
              refine lv_iload hx hb dX7_drift_103 (lv_at hl 1 rfl) ?_
              refine lv_iload hx hb dX7_drift_105 (lv_at hl 0 rfl) ?_
              refine lv_iload hx hb dX7_drift_107 (lv_at hl 2 rfl) ?_
              obtain ⟨q109, h109, hf⟩ := bd_some hf
              refine kx_wv (As := [.int q51.1, .int q62.1, .int (1 <<< (q83.1 &&& 31)), .int (1 <<< (q93.1 &&& 31)), .int q74.1]) (rest := []) (wc := cModel cI cZ za z1 z2 z3 z4 z5 z6 z7 z8 z9 q93.2) (wr := []) (wd := cModel cI cZ za z1 z2 z3 z4 z5 z6 z7 z8 z9 q109) (wn := cModel cI cZ za z1 z2 z3 z4 z5 z6 z7 z8 z9 q109) hx hb hml hown hts hk hP hD hS hA hl.1 s_yX7_comes v_yX7_comes (c_m_comes l D cI cZ cR za z1 z2 z3 z4 z5 z6 z7 z8 z9 q93.2 q51.1 q62.1 (1 <<< (q83.1 &&& 31)) (1 <<< (q93.1 &&& 31)) q74.1 H.size _ h109) mT_796 rfl rfl ⟨Nat.le_of_ble_eq_true rfl, Nat.le_of_ble_eq_true rfl⟩ [0, 1, 2, 3, 4, 5, 6, 7, 8, 9] [] [0, 1, 2, 3, 4, 5, 6, 7, 8, 9] rfl rfl (by decide) (by decide) (by decide) (by decide) rfl (ci := 7) (q0 := 0) rfl rfl rfl (Nat.le_of_ble_eq_true rfl) ⟨Nat.zero_le _, Nat.zero_le _⟩ dX7_drift_109 (fun H locs hP hD hS => ?_)
              refine lv_iinc (v := x2_15 + 1) (lv' := [(2, .int (x2_15 + 1)), (7, .int (1 <<< (q93.1 &&& 31))), (6, .int (1 <<< (q83.1 &&& 31))), (5, .int q74.1), (4, .int q62.1), (3, .int q51.1), (0, .ref za), (1, .int x)]) hx hb dX7_drift_112 hl (k := 7) rfl rfl (by decide) rfl (fun ls hl => ?_)
              refine lv_goto (tgt := 15) hx hb dX7_drift_115 (by decide) ?_
              exact ih15 (x2_15 + 1) q109 _ _ _ hf hP hD hS (lv_sub hl [6, 7, 0] rfl)
    exact lh15 10000 0 z _ _ _ hf hP hD hS (lv_sub hl [1, 2, 0] rfl)
  · have hf := ite_t c7 hf
    refine lv_ldc (v := (-1000000002)) hx hb hown (hts _ mT_722) dX7_drift_10 ?_
    exact hret _ _ _ z _ _ hf dX7_drift_12 hP hD hS
theorem s_yX7_undo : kMS yX7_undo cX7_undo 3 (some .int) 1 := ⟨mT_840, mT_59, by decide +kernel⟩
theorem v_yX7_undo : kMV yX7_undo := ⟨mT_838, mT_839⟩
def k_m_undo_36 (x2_36 : Int32) (z_36 : Ob) : Option (Int32 × Ob) := some ((z_36 1) (Int32.toNatClampNeg 2), z_36)
def lp_m_undo_36 (kk0 : Int32 → Ob → Option (Int32 × Ob)) : Nat → Int32 → Ob → Option (Int32 × Ob)
  | 0, _, _ => none
  | fu36 + 1, x2_36, z_36 => if 367 ≤ x2_36 then (kk0 x2_36 z_36) else (gd (ck ((367 * (z_36 0 2)) + x2_36) 5872) (gd (ck x2_36 367) ((lp_m_undo_36 kk0 fu36) (x2_36 + 1) (sA z_36 1 (upd (z_36 1) (Int32.toNatClampNeg x2_36) ((z_36 2) (Int32.toNatClampNeg ((367 * (z_36 0 2)) + x2_36))))))))
def f_m_undo (z : Ob) (x : Int32) : Option (Int32 × Ob) := bd (f_m_in x 1 16) (fun q4 => if q4 = 0 then (some ((-1000000002), z)) else (if x ≤ (z 0 2) then (lp_m_undo_36 k_m_undo_36 10000 0 (sI z 2 ((z 0 2) - x))) else (some ((-1000000003), z))))
set_option maxHeartbeats 4000000 in
set_option maxRecDepth 100000 in
theorem c_m_undo (l : Launch) (D : va_G) (cI cZ cR : ClassId) (za z1 z2 z3 z4 z5 z6 z7 z8 z9 : Nat) (z : Ob) (x : Int32) (sz : Nat) (r : Int32) (u : Ob) (hf : f_m_undo z x = some (r, u)) : kCi l yX7_undo cX7_undo 3 (some .int) { frames := 1, cells := 0, slots := 0, locals := 22 } [.ref za, .int x] D cI cZ cR (cModel cI cZ za z1 z2 z3 z4 z5 z6 z7 z8 z9 z) sz (cModel cI cZ za z1 z2 z3 z4 z5 z6 z7 z8 z9 u) r := by
  refine kMwi (wf := (fun u : Ob => cModel cI cZ za z1 z2 z3 z4 z5 z6 z7 z8 z9 u)) (u := u) (by decide) (Nat.le_of_ble_eq_true rfl) ?_
  intro p e s m below meth c Q A hx hb hml hown hts hk hP hD hA hS hret ls hl
  have hS0 := hS
  have hK := hk.1
  have hl : lv_has ls 3 [(0, .ref za), (1, .int x)] := hl
  rw [f_m_undo] at hf
  refine lv_iload_n hx hb dX7_undo_0 rfl (lv_at hl 1 rfl) ?_
  refine lv_iconst (v := 1) hx hb dX7_undo_1 (by decide) ?_
  refine lv_bipush (v := 16) hx hb dX7_undo_2 (by decide) ?_
  obtain ⟨q4, h4, hf⟩ := bd_some hf
  refine kx_rs (As := [.int x, .int 1, .int 16]) (rest := []) hx hb hml hown hts hk hl.1 s_yX7_in mT_720 (c_m_in l D cI cZ cR x 1 16 _ h4) mT_719 rfl rfl ⟨Nat.le_of_ble_eq_true rfl, Nat.le_of_ble_eq_true rfl⟩ rfl (Nat.le_of_ble_eq_true rfl) ⟨Nat.zero_le _, Nat.zero_le _⟩ dX7_undo_4 ?_
  refine lv_if_ne (tgt := 13) hx hb dX7_undo_7 (by decide) (fun c7 => ?_) (fun c7 => ?_)
  · have hf := ite_f c7 hf
    refine lv_iload_n hx hb dX7_undo_13 rfl (lv_at hl 1 rfl) ?_
    refine lv_aload_n hx hb dX7_undo_14 rfl (lv_at hl 0 rfl) ?_
    refine va_get (D := D) (ci := 7) (v := .int (z 0 2)) (C := RX7) (T := TX7) (N := 17) hx hb hts inT7 hown hK hP 0 rfl rfl 2 (by decide) (hts _ mT_568) (fun _ h9 => h9) rfl dX7_undo_15 ?_
    refine lv_icmp_le (tgt := 24) hx hb dX7_undo_18 (by decide) (fun c18 => ?_) (fun c18 => ?_)
    · have hf := ite_t c18 hf
      refine lv_aload_n hx hb dX7_undo_24 rfl (lv_at hl 0 rfl) ?_
      refine lv_dup hx hb dX7_undo_25 rfl ?_
      refine va_get (D := D) (ci := 7) (v := .int (z 0 2)) (C := RX7) (T := TX7) (N := 17) hx hb hts inT7 hown hK hP 0 rfl rfl 2 (by decide) (hts _ mT_568) (fun _ h9 => h9) rfl dX7_undo_26 ?_
      refine lv_iload_n hx hb dX7_undo_29 rfl (lv_at hl 1 rfl) ?_
      refine lv_isub hx hb dX7_undo_30 ?_
      refine va_put (D := D) (ci := 7) (v := .int ((z 0 2) - x)) (ty := .int) (C := RX7) (T := TX7) (N := 17) hx hb hts inT7 tyX7 tyX7_ok nmX7 hown hK hP hD hS 0 rfl rfl 2 (by decide) (hts _ mT_568) (fun _ h9 => h9) rfl (by decide +kernel) rfl rfl (Nat.le_of_ble_eq_true rfl) dX7_undo_31 (fun H locs hP hD hS => ?_)
      have hP : va_P D vwCl ([(za, .inr (7, [.ref z1, .ref z2, .int ((z 0 2) - x), .ref z3, .ref z4, .int (z 0 5), .ref z5, .int (z 0 7), .ref z6, .ref z7, .ref z8, .int (z 0 11), .int (z 0 12), .int (z 0 13), .int (z 0 14), .ref z9, .int (z 0 16)])), (z1, .inl (cI, 367, .inl (z 1))), (z2, .inl (cI, 5872, .inl (z 2))), (z3, .inl (cI, 736, .inl (z 3))), (z4, .inl (cZ, 2, .inl (z 4))), (z5, .inl (cI, 60, .inl (z 5))), (z6, .inl (cI, 20, .inl (z 6))), (z7, .inl (cI, 20, .inl (z 7))), (z8, .inl (cI, 20, .inl (z 8))), (z9, .inl (cI, 10, .inl (z 9)))]) H := hP
      have hD : va_D A ([(za, .inr (7, [.ref z1, .ref z2, .int ((z 0 2) - x), .ref z3, .ref z4, .int (z 0 5), .ref z5, .int (z 0 7), .ref z6, .ref z7, .ref z8, .int (z 0 11), .int (z 0 12), .int (z 0 13), .int (z 0 14), .ref z9, .int (z 0 16)])), (z1, .inl (cI, 367, .inl (z 1))), (z2, .inl (cI, 5872, .inl (z 2))), (z3, .inl (cI, 736, .inl (z 3))), (z4, .inl (cZ, 2, .inl (z 4))), (z5, .inl (cI, 60, .inl (z 5))), (z6, .inl (cI, 20, .inl (z 6))), (z7, .inl (cI, 20, .inl (z 7))), (z8, .inl (cI, 20, .inl (z 8))), (z9, .inl (cI, 10, .inl (z 9)))]) := hD
      refine lv_iconst (v := 0) hx hb dX7_undo_34 (by decide) ?_
      refine lv_istore_n (lv' := [(2, .int 0), (0, .ref za), (1, .int x)]) hx hb dX7_undo_35 rfl hl (by decide) rfl (fun ls hl => ?_)
      have kx36 : ∀ (x2_36 : Int32) (z_36 : Ob) (H : Heap) (locs : List Loc) (ls : Array Slot), k_m_undo_36 x2_36 z_36 = some (r, u) → va_P D vwCl (cModel cI cZ za z1 z2 z3 z4 z5 z6 z7 z8 z9 z_36) H → va_D A (cModel cI cZ za z1 z2 z3 z4 z5 z6 z7 z8 z9 z_36) → va_S A s.heap H locs → lv_has ls 3 [(0, .ref za), (1, .int x), (2, .int x2_36)] → W p l e ({ frames := 1, cells := 0, slots := 0, locals := 22 } : Room) s m ([.ref za, .int x] : List Value).toArray below meth c H locs 0 0 Q (F0 m 70 ls []) := by
        intro x2_36 z_36 H locs ls hf hP hD hS hl
        rw [k_m_undo_36] at hf
        refine lv_aload_n hx hb dX7_undo_70 rfl (lv_at hl 0 rfl) ?_
        refine va_get (D := D) (ci := 7) (v := .ref z1) (C := RX7) (T := TX7) (N := 17) hx hb hts inT7 hown hK hP 0 rfl rfl 0 (by decide) (hts _ mT_566) (fun _ h9 => h9) rfl dX7_undo_71 ?_
        refine lv_iconst (v := 2) hx hb dX7_undo_74 (by decide) ?_
        refine va_iald (n := 367) (f := z_36 1) hx hb hK hP 1 0 rfl rfl (ck_in (by decide)) dX7_undo_75 ?_
        exact hret _ _ _ z_36 _ _ hf dX7_undo_76 hP hD hS
      have lh36 : ∀ (fu36 : Nat) (x2_36 : Int32) (z_36 : Ob) (H : Heap) (locs : List Loc) (ls : Array Slot), lp_m_undo_36 k_m_undo_36 fu36 x2_36 z_36 = some (r, u) → va_P D vwCl (cModel cI cZ za z1 z2 z3 z4 z5 z6 z7 z8 z9 z_36) H → va_D A (cModel cI cZ za z1 z2 z3 z4 z5 z6 z7 z8 z9 z_36) → va_S A s.heap H locs → lv_has ls 3 [(0, .ref za), (1, .int x), (2, .int x2_36)] → W p l e ({ frames := 1, cells := 0, slots := 0, locals := 22 } : Room) s m ([.ref za, .int x] : List Value).toArray below meth c H locs 0 0 Q (F0 m 36 ls []) := by
        intro fu36
        induction fu36 with
        | zero => intro x2_36 z_36 H locs ls hf hP hD hS hl; exact no_none hf
        | succ fu36 ih36 =>
          intro x2_36 z_36 H locs ls hf hP hD hS hl
          rw [lp_m_undo_36] at hf
          refine lv_iload_n hx hb dX7_undo_36 rfl (lv_at hl 2 rfl) ?_
          refine lv_sipush (v := 367) hx hb dX7_undo_37 (by decide) ?_
          refine lv_icmp_ge (tgt := 70) hx hb dX7_undo_40 (by decide) (fun c40 => ?_) (fun c40 => ?_)
          · have hf := ite_t c40 hf
            exact kx36 x2_36 z_36 _ _ _ hf hP hD hS (lv_sub hl [0, 1, 2] rfl)
          · have hf := ite_f c40 hf
            refine lv_aload_n hx hb dX7_undo_43 rfl (lv_at hl 0 rfl) ?_
            refine va_get (D := D) (ci := 7) (v := .ref z1) (C := RX7) (T := TX7) (N := 17) hx hb hts inT7 hown hK hP 0 rfl rfl 0 (by decide) (hts _ mT_566) (fun _ h9 => h9) rfl dX7_undo_44 ?_
            refine lv_iload_n hx hb dX7_undo_47 rfl (lv_at hl 2 rfl) ?_
            refine lv_aload_n hx hb dX7_undo_48 rfl (lv_at hl 0 rfl) ?_
            refine va_get (D := D) (ci := 7) (v := .ref z2) (C := RX7) (T := TX7) (N := 17) hx hb hts inT7 hown hK hP 0 rfl rfl 1 (by decide) (hts _ mT_567) (fun _ h9 => h9) rfl dX7_undo_49 ?_
            refine lv_sipush (v := 367) hx hb dX7_undo_52 (by decide) ?_
            refine lv_aload_n hx hb dX7_undo_55 rfl (lv_at hl 0 rfl) ?_
            refine va_get (D := D) (ci := 7) (v := .int (z_36 0 2)) (C := RX7) (T := TX7) (N := 17) hx hb hts inT7 hown hK hP 0 rfl rfl 2 (by decide) (hts _ mT_568) (fun _ h9 => h9) rfl dX7_undo_56 ?_
            refine lv_imul hx hb dX7_undo_59 ?_
            refine lv_iload_n hx hb dX7_undo_60 rfl (lv_at hl 2 rfl) ?_
            refine lv_iadd hx hb dX7_undo_61 ?_
            obtain ⟨b62, hf⟩ := gd_some hf
            refine va_iald (n := 5872) (f := z_36 2) hx hb hK hP 2 0 rfl rfl (ck_in b62) dX7_undo_62 ?_
            obtain ⟨b63, hf⟩ := gd_some hf
            refine va_iast (n := 367) (f := z_36 1) hx hb hK hP hD hS 1 0 rfl rfl (ck_in b63) dX7_undo_63 (fun H locs hP hD hS => ?_)
            have hP : va_P D vwCl ([(za, .inr (7, [.ref z1, .ref z2, .int (z_36 0 2), .ref z3, .ref z4, .int (z_36 0 5), .ref z5, .int (z_36 0 7), .ref z6, .ref z7, .ref z8, .int (z_36 0 11), .int (z_36 0 12), .int (z_36 0 13), .int (z_36 0 14), .ref z9, .int (z_36 0 16)])), (z1, .inl (cI, 367, .inl (upd (z_36 1) (Int32.toNatClampNeg x2_36) ((z_36 2) (Int32.toNatClampNeg ((367 * (z_36 0 2)) + x2_36)))))), (z2, .inl (cI, 5872, .inl (z_36 2))), (z3, .inl (cI, 736, .inl (z_36 3))), (z4, .inl (cZ, 2, .inl (z_36 4))), (z5, .inl (cI, 60, .inl (z_36 5))), (z6, .inl (cI, 20, .inl (z_36 6))), (z7, .inl (cI, 20, .inl (z_36 7))), (z8, .inl (cI, 20, .inl (z_36 8))), (z9, .inl (cI, 10, .inl (z_36 9)))]) H := hP
            have hD : va_D A ([(za, .inr (7, [.ref z1, .ref z2, .int (z_36 0 2), .ref z3, .ref z4, .int (z_36 0 5), .ref z5, .int (z_36 0 7), .ref z6, .ref z7, .ref z8, .int (z_36 0 11), .int (z_36 0 12), .int (z_36 0 13), .int (z_36 0 14), .ref z9, .int (z_36 0 16)])), (z1, .inl (cI, 367, .inl (upd (z_36 1) (Int32.toNatClampNeg x2_36) ((z_36 2) (Int32.toNatClampNeg ((367 * (z_36 0 2)) + x2_36)))))), (z2, .inl (cI, 5872, .inl (z_36 2))), (z3, .inl (cI, 736, .inl (z_36 3))), (z4, .inl (cZ, 2, .inl (z_36 4))), (z5, .inl (cI, 60, .inl (z_36 5))), (z6, .inl (cI, 20, .inl (z_36 6))), (z7, .inl (cI, 20, .inl (z_36 7))), (z8, .inl (cI, 20, .inl (z_36 8))), (z9, .inl (cI, 10, .inl (z_36 9)))]) := hD
            refine lv_iinc (v := x2_36 + 1) (lv' := [(2, .int (x2_36 + 1)), (0, .ref za), (1, .int x)]) hx hb dX7_undo_64 hl (k := 2) rfl rfl (by decide) rfl (fun ls hl => ?_)
            refine lv_goto (tgt := 36) hx hb dX7_undo_67 (by decide) ?_
            exact ih36 (x2_36 + 1) (sA z_36 1 (upd (z_36 1) (Int32.toNatClampNeg x2_36) ((z_36 2) (Int32.toNatClampNeg ((367 * (z_36 0 2)) + x2_36))))) _ _ _ hf hP hD hS (lv_sub hl [1, 2, 0] rfl)
      exact lh36 10000 0 (sI z 2 ((z 0 2) - x)) _ _ _ hf hP hD hS (lv_sub hl [1, 2, 0] rfl)
    · have hf := ite_f c18 hf
      refine lv_ldc (v := (-1000000003)) hx hb hown (hts _ mT_820) dX7_undo_21 ?_
      exact hret _ _ _ z _ _ hf dX7_undo_23 hP hD hS
  · have hf := ite_t c7 hf
    refine lv_ldc (v := (-1000000002)) hx hb hown (hts _ mT_722) dX7_undo_10 ?_
    exact hret _ _ _ z _ _ hf dX7_undo_12 hP hD hS
theorem s_yX7_note : kMS yX7_note cX7_note 4 (some .int) 3 := ⟨mT_844, mT_59, by decide +kernel⟩
theorem v_yX7_note : kMV yX7_note := ⟨mT_842, mT_843⟩
def f_m_note (z : Ob) (x : Int32) (y : Int32) (v : Int32) : Option (Int32 × Ob) := bd (f_m_isPlace z x) (fun q2 => if q2 = 0 then (some ((-1000000001), z)) else (bd (f_m_isValue z y) (fun q10 => if q10 = 0 then (some ((-1000000001), z)) else (bd (f_m_isSet v) (fun q20 => if q20 = 0 then (some ((-1000000002), z)) else (if (z 0 7) = 20 then (some ((-1000000004), z)) else (gd (ck (3 * (z 0 7)) 60) (gd (ck ((3 * (z 0 7)) + 1) 60) (gd (ck ((3 * (z 0 7)) + 2) 60) (some ((z 0 7) + 1, sI (sA (sA (sA z 5 (upd (z 5) (Int32.toNatClampNeg (3 * (z 0 7))) x)) 5 (upd (upd (z 5) (Int32.toNatClampNeg (3 * (z 0 7))) x) (Int32.toNatClampNeg ((3 * (z 0 7)) + 1)) y)) 5 (upd (upd (upd (z 5) (Int32.toNatClampNeg (3 * (z 0 7))) x) (Int32.toNatClampNeg ((3 * (z 0 7)) + 1)) y) (Int32.toNatClampNeg ((3 * (z 0 7)) + 2)) v)) 7 ((z 0 7) + 1))))))))))))
set_option maxHeartbeats 4000000 in
set_option maxRecDepth 100000 in
theorem c_m_note (l : Launch) (D : va_G) (cI cZ cR : ClassId) (za z1 z2 z3 z4 z5 z6 z7 z8 z9 : Nat) (z : Ob) (x : Int32) (y : Int32) (v : Int32) (sz : Nat) (r : Int32) (u : Ob) (hf : f_m_note z x y v = some (r, u)) : kCi l yX7_note cX7_note 4 (some .int) { frames := 2, cells := 0, slots := 0, locals := 43 } [.ref za, .int x, .int y, .int v] D cI cZ cR (cModel cI cZ za z1 z2 z3 z4 z5 z6 z7 z8 z9 z) sz (cModel cI cZ za z1 z2 z3 z4 z5 z6 z7 z8 z9 u) r := by
  refine kMwi (wf := (fun u : Ob => cModel cI cZ za z1 z2 z3 z4 z5 z6 z7 z8 z9 u)) (u := u) (by decide) (Nat.le_of_ble_eq_true rfl) ?_
  intro p e s m below meth c Q A hx hb hml hown hts hk hP hD hA hS hret ls hl
  have hS0 := hS
  have hK := hk.1
  have hl : lv_has ls 4 [(0, .ref za), (1, .int x), (2, .int y), (3, .int v)] := hl
  rw [f_m_note] at hf
  refine lv_aload_n hx hb dX7_note_0 rfl (lv_at hl 0 rfl) ?_
  refine lv_iload_n hx hb dX7_note_1 rfl (lv_at hl 1 rfl) ?_
  obtain ⟨q2, h2, hf⟩ := bd_some hf
  refine kx_rv (As := [.int x]) (rest := []) hx hb hml hown hts hk hP hl.1 s_yX7_isPlace v_yX7_isPlace (c_m_isPlace l D cI cZ cR za z1 z2 z3 z4 z5 z6 z7 z8 z9 z x _ h2) mT_715 rfl rfl ⟨Nat.le_of_ble_eq_true rfl, Nat.le_of_ble_eq_true rfl⟩ (ci := 7) (q0 := 0) rfl rfl rfl (Nat.le_of_ble_eq_true rfl) ⟨Nat.zero_le _, Nat.zero_le _⟩ dX7_note_2 ?_
  refine lv_if_eq (tgt := 16) hx hb dX7_note_5 (by decide) (fun c5 => ?_) (fun c5 => ?_)
  · have hf := ite_t c5 hf
    refine lv_ldc (v := (-1000000001)) hx hb hown (hts _ mT_731) dX7_note_16 ?_
    exact hret _ _ _ z _ _ hf dX7_note_18 hP hD hS
  · have hf := ite_f c5 hf
    refine lv_aload_n hx hb dX7_note_8 rfl (lv_at hl 0 rfl) ?_
    refine lv_iload_n hx hb dX7_note_9 rfl (lv_at hl 2 rfl) ?_
    obtain ⟨q10, h10, hf⟩ := bd_some hf
    refine kx_rv (As := [.int y]) (rest := []) hx hb hml hown hts hk hP hl.1 s_yX7_isValue v_yX7_isValue (c_m_isValue l D cI cZ cR za z1 z2 z3 z4 z5 z6 z7 z8 z9 z y _ h10) mT_727 rfl rfl ⟨Nat.le_of_ble_eq_true rfl, Nat.le_of_ble_eq_true rfl⟩ (ci := 7) (q0 := 0) rfl rfl rfl (Nat.le_of_ble_eq_true rfl) ⟨Nat.zero_le _, Nat.zero_le _⟩ dX7_note_10 ?_
    refine lv_if_ne (tgt := 19) hx hb dX7_note_13 (by decide) (fun c13 => ?_) (fun c13 => ?_)
    · have hf := ite_f c13 hf
      refine lv_iload_n hx hb dX7_note_19 rfl (lv_at hl 3 rfl) ?_
      obtain ⟨q20, h20, hf⟩ := bd_some hf
      refine kx_rs (As := [.int v]) (rest := []) hx hb hml hown hts hk hl.1 s_yX7_isSet mT_789 (c_m_isSet l D cI cZ cR v _ h20) mT_788 rfl rfl ⟨Nat.le_of_ble_eq_true rfl, Nat.le_of_ble_eq_true rfl⟩ rfl (Nat.le_of_ble_eq_true rfl) ⟨Nat.zero_le _, Nat.zero_le _⟩ dX7_note_20 ?_
      refine lv_if_ne (tgt := 29) hx hb dX7_note_23 (by decide) (fun c23 => ?_) (fun c23 => ?_)
      · have hf := ite_f c23 hf
        refine lv_aload_n hx hb dX7_note_29 rfl (lv_at hl 0 rfl) ?_
        refine va_get (D := D) (ci := 7) (v := .int (z 0 7)) (C := RX7) (T := TX7) (N := 17) hx hb hts inT7 hown hK hP 0 rfl rfl 7 (by decide) (hts _ mT_573) (fun _ h9 => h9) rfl dX7_note_30 ?_
        refine lv_bipush (v := 20) hx hb dX7_note_33 (by decide) ?_
        refine lv_icmp_ne (tgt := 41) hx hb dX7_note_35 (by decide) (fun c35 => ?_) (fun c35 => ?_)
        · have hf := ite_f c35 hf
          refine lv_aload_n hx hb dX7_note_41 rfl (lv_at hl 0 rfl) ?_
          refine va_get (D := D) (ci := 7) (v := .ref z5) (C := RX7) (T := TX7) (N := 17) hx hb hts inT7 hown hK hP 0 rfl rfl 6 (by decide) (hts _ mT_572) (fun _ h9 => h9) rfl dX7_note_42 ?_
          refine lv_iconst (v := 3) hx hb dX7_note_45 (by decide) ?_
          refine lv_aload_n hx hb dX7_note_46 rfl (lv_at hl 0 rfl) ?_
          refine va_get (D := D) (ci := 7) (v := .int (z 0 7)) (C := RX7) (T := TX7) (N := 17) hx hb hts inT7 hown hK hP 0 rfl rfl 7 (by decide) (hts _ mT_573) (fun _ h9 => h9) rfl dX7_note_47 ?_
          refine lv_imul hx hb dX7_note_50 ?_
          refine lv_iload_n hx hb dX7_note_51 rfl (lv_at hl 1 rfl) ?_
          obtain ⟨b52, hf⟩ := gd_some hf
          refine va_iast (n := 60) (f := z 5) hx hb hK hP hD hS 5 0 rfl rfl (ck_in b52) dX7_note_52 (fun H locs hP hD hS => ?_)
          have hP : va_P D vwCl ([(za, .inr (7, [.ref z1, .ref z2, .int (z 0 2), .ref z3, .ref z4, .int (z 0 5), .ref z5, .int (z 0 7), .ref z6, .ref z7, .ref z8, .int (z 0 11), .int (z 0 12), .int (z 0 13), .int (z 0 14), .ref z9, .int (z 0 16)])), (z1, .inl (cI, 367, .inl (z 1))), (z2, .inl (cI, 5872, .inl (z 2))), (z3, .inl (cI, 736, .inl (z 3))), (z4, .inl (cZ, 2, .inl (z 4))), (z5, .inl (cI, 60, .inl (upd (z 5) (Int32.toNatClampNeg (3 * (z 0 7))) x))), (z6, .inl (cI, 20, .inl (z 6))), (z7, .inl (cI, 20, .inl (z 7))), (z8, .inl (cI, 20, .inl (z 8))), (z9, .inl (cI, 10, .inl (z 9)))]) H := hP
          have hD : va_D A ([(za, .inr (7, [.ref z1, .ref z2, .int (z 0 2), .ref z3, .ref z4, .int (z 0 5), .ref z5, .int (z 0 7), .ref z6, .ref z7, .ref z8, .int (z 0 11), .int (z 0 12), .int (z 0 13), .int (z 0 14), .ref z9, .int (z 0 16)])), (z1, .inl (cI, 367, .inl (z 1))), (z2, .inl (cI, 5872, .inl (z 2))), (z3, .inl (cI, 736, .inl (z 3))), (z4, .inl (cZ, 2, .inl (z 4))), (z5, .inl (cI, 60, .inl (upd (z 5) (Int32.toNatClampNeg (3 * (z 0 7))) x))), (z6, .inl (cI, 20, .inl (z 6))), (z7, .inl (cI, 20, .inl (z 7))), (z8, .inl (cI, 20, .inl (z 8))), (z9, .inl (cI, 10, .inl (z 9)))]) := hD
          refine lv_aload_n hx hb dX7_note_53 rfl (lv_at hl 0 rfl) ?_
          refine va_get (D := D) (ci := 7) (v := .ref z5) (C := RX7) (T := TX7) (N := 17) hx hb hts inT7 hown hK hP 0 rfl rfl 6 (by decide) (hts _ mT_572) (fun _ h9 => h9) rfl dX7_note_54 ?_
          refine lv_iconst (v := 3) hx hb dX7_note_57 (by decide) ?_
          refine lv_aload_n hx hb dX7_note_58 rfl (lv_at hl 0 rfl) ?_
          refine va_get (D := D) (ci := 7) (v := .int (z 0 7)) (C := RX7) (T := TX7) (N := 17) hx hb hts inT7 hown hK hP 0 rfl rfl 7 (by decide) (hts _ mT_573) (fun _ h9 => h9) rfl dX7_note_59 ?_
          refine lv_imul hx hb dX7_note_62 ?_
          refine lv_iconst (v := 1) hx hb dX7_note_63 (by decide) ?_
          refine lv_iadd hx hb dX7_note_64 ?_
          refine lv_iload_n hx hb dX7_note_65 rfl (lv_at hl 2 rfl) ?_
          obtain ⟨b66, hf⟩ := gd_some hf
          refine va_iast (n := 60) (f := upd (z 5) (Int32.toNatClampNeg (3 * (z 0 7))) x) hx hb hK hP hD hS 5 0 rfl rfl (ck_in b66) dX7_note_66 (fun H locs hP hD hS => ?_)
          have hP : va_P D vwCl ([(za, .inr (7, [.ref z1, .ref z2, .int (z 0 2), .ref z3, .ref z4, .int (z 0 5), .ref z5, .int (z 0 7), .ref z6, .ref z7, .ref z8, .int (z 0 11), .int (z 0 12), .int (z 0 13), .int (z 0 14), .ref z9, .int (z 0 16)])), (z1, .inl (cI, 367, .inl (z 1))), (z2, .inl (cI, 5872, .inl (z 2))), (z3, .inl (cI, 736, .inl (z 3))), (z4, .inl (cZ, 2, .inl (z 4))), (z5, .inl (cI, 60, .inl (upd (upd (z 5) (Int32.toNatClampNeg (3 * (z 0 7))) x) (Int32.toNatClampNeg ((3 * (z 0 7)) + 1)) y))), (z6, .inl (cI, 20, .inl (z 6))), (z7, .inl (cI, 20, .inl (z 7))), (z8, .inl (cI, 20, .inl (z 8))), (z9, .inl (cI, 10, .inl (z 9)))]) H := hP
          have hD : va_D A ([(za, .inr (7, [.ref z1, .ref z2, .int (z 0 2), .ref z3, .ref z4, .int (z 0 5), .ref z5, .int (z 0 7), .ref z6, .ref z7, .ref z8, .int (z 0 11), .int (z 0 12), .int (z 0 13), .int (z 0 14), .ref z9, .int (z 0 16)])), (z1, .inl (cI, 367, .inl (z 1))), (z2, .inl (cI, 5872, .inl (z 2))), (z3, .inl (cI, 736, .inl (z 3))), (z4, .inl (cZ, 2, .inl (z 4))), (z5, .inl (cI, 60, .inl (upd (upd (z 5) (Int32.toNatClampNeg (3 * (z 0 7))) x) (Int32.toNatClampNeg ((3 * (z 0 7)) + 1)) y))), (z6, .inl (cI, 20, .inl (z 6))), (z7, .inl (cI, 20, .inl (z 7))), (z8, .inl (cI, 20, .inl (z 8))), (z9, .inl (cI, 10, .inl (z 9)))]) := hD
          refine lv_aload_n hx hb dX7_note_67 rfl (lv_at hl 0 rfl) ?_
          refine va_get (D := D) (ci := 7) (v := .ref z5) (C := RX7) (T := TX7) (N := 17) hx hb hts inT7 hown hK hP 0 rfl rfl 6 (by decide) (hts _ mT_572) (fun _ h9 => h9) rfl dX7_note_68 ?_
          refine lv_iconst (v := 3) hx hb dX7_note_71 (by decide) ?_
          refine lv_aload_n hx hb dX7_note_72 rfl (lv_at hl 0 rfl) ?_
          refine va_get (D := D) (ci := 7) (v := .int (z 0 7)) (C := RX7) (T := TX7) (N := 17) hx hb hts inT7 hown hK hP 0 rfl rfl 7 (by decide) (hts _ mT_573) (fun _ h9 => h9) rfl dX7_note_73 ?_
          refine lv_imul hx hb dX7_note_76 ?_
          refine lv_iconst (v := 2) hx hb dX7_note_77 (by decide) ?_
          refine lv_iadd hx hb dX7_note_78 ?_
          refine lv_iload_n hx hb dX7_note_79 rfl (lv_at hl 3 rfl) ?_
          obtain ⟨b80, hf⟩ := gd_some hf
          refine va_iast (n := 60) (f := upd (upd (z 5) (Int32.toNatClampNeg (3 * (z 0 7))) x) (Int32.toNatClampNeg ((3 * (z 0 7)) + 1)) y) hx hb hK hP hD hS 5 0 rfl rfl (ck_in b80) dX7_note_80 (fun H locs hP hD hS => ?_)
          have hP : va_P D vwCl ([(za, .inr (7, [.ref z1, .ref z2, .int (z 0 2), .ref z3, .ref z4, .int (z 0 5), .ref z5, .int (z 0 7), .ref z6, .ref z7, .ref z8, .int (z 0 11), .int (z 0 12), .int (z 0 13), .int (z 0 14), .ref z9, .int (z 0 16)])), (z1, .inl (cI, 367, .inl (z 1))), (z2, .inl (cI, 5872, .inl (z 2))), (z3, .inl (cI, 736, .inl (z 3))), (z4, .inl (cZ, 2, .inl (z 4))), (z5, .inl (cI, 60, .inl (upd (upd (upd (z 5) (Int32.toNatClampNeg (3 * (z 0 7))) x) (Int32.toNatClampNeg ((3 * (z 0 7)) + 1)) y) (Int32.toNatClampNeg ((3 * (z 0 7)) + 2)) v))), (z6, .inl (cI, 20, .inl (z 6))), (z7, .inl (cI, 20, .inl (z 7))), (z8, .inl (cI, 20, .inl (z 8))), (z9, .inl (cI, 10, .inl (z 9)))]) H := hP
          have hD : va_D A ([(za, .inr (7, [.ref z1, .ref z2, .int (z 0 2), .ref z3, .ref z4, .int (z 0 5), .ref z5, .int (z 0 7), .ref z6, .ref z7, .ref z8, .int (z 0 11), .int (z 0 12), .int (z 0 13), .int (z 0 14), .ref z9, .int (z 0 16)])), (z1, .inl (cI, 367, .inl (z 1))), (z2, .inl (cI, 5872, .inl (z 2))), (z3, .inl (cI, 736, .inl (z 3))), (z4, .inl (cZ, 2, .inl (z 4))), (z5, .inl (cI, 60, .inl (upd (upd (upd (z 5) (Int32.toNatClampNeg (3 * (z 0 7))) x) (Int32.toNatClampNeg ((3 * (z 0 7)) + 1)) y) (Int32.toNatClampNeg ((3 * (z 0 7)) + 2)) v))), (z6, .inl (cI, 20, .inl (z 6))), (z7, .inl (cI, 20, .inl (z 7))), (z8, .inl (cI, 20, .inl (z 8))), (z9, .inl (cI, 10, .inl (z 9)))]) := hD
          refine lv_aload_n hx hb dX7_note_81 rfl (lv_at hl 0 rfl) ?_
          refine lv_dup hx hb dX7_note_82 rfl ?_
          refine va_get (D := D) (ci := 7) (v := .int (z 0 7)) (C := RX7) (T := TX7) (N := 17) hx hb hts inT7 hown hK hP 0 rfl rfl 7 (by decide) (hts _ mT_573) (fun _ h9 => h9) rfl dX7_note_83 ?_
          refine lv_iconst (v := 1) hx hb dX7_note_86 (by decide) ?_
          refine lv_iadd hx hb dX7_note_87 ?_
          refine va_put (D := D) (ci := 7) (v := .int ((z 0 7) + 1)) (ty := .int) (C := RX7) (T := TX7) (N := 17) hx hb hts inT7 tyX7 tyX7_ok nmX7 hown hK hP hD hS 0 rfl rfl 7 (by decide) (hts _ mT_573) (fun _ h9 => h9) rfl (by decide +kernel) rfl rfl (Nat.le_of_ble_eq_true rfl) dX7_note_88 (fun H locs hP hD hS => ?_)
          have hP : va_P D vwCl ([(za, .inr (7, [.ref z1, .ref z2, .int (z 0 2), .ref z3, .ref z4, .int (z 0 5), .ref z5, .int ((z 0 7) + 1), .ref z6, .ref z7, .ref z8, .int (z 0 11), .int (z 0 12), .int (z 0 13), .int (z 0 14), .ref z9, .int (z 0 16)])), (z1, .inl (cI, 367, .inl (z 1))), (z2, .inl (cI, 5872, .inl (z 2))), (z3, .inl (cI, 736, .inl (z 3))), (z4, .inl (cZ, 2, .inl (z 4))), (z5, .inl (cI, 60, .inl (upd (upd (upd (z 5) (Int32.toNatClampNeg (3 * (z 0 7))) x) (Int32.toNatClampNeg ((3 * (z 0 7)) + 1)) y) (Int32.toNatClampNeg ((3 * (z 0 7)) + 2)) v))), (z6, .inl (cI, 20, .inl (z 6))), (z7, .inl (cI, 20, .inl (z 7))), (z8, .inl (cI, 20, .inl (z 8))), (z9, .inl (cI, 10, .inl (z 9)))]) H := hP
          have hD : va_D A ([(za, .inr (7, [.ref z1, .ref z2, .int (z 0 2), .ref z3, .ref z4, .int (z 0 5), .ref z5, .int ((z 0 7) + 1), .ref z6, .ref z7, .ref z8, .int (z 0 11), .int (z 0 12), .int (z 0 13), .int (z 0 14), .ref z9, .int (z 0 16)])), (z1, .inl (cI, 367, .inl (z 1))), (z2, .inl (cI, 5872, .inl (z 2))), (z3, .inl (cI, 736, .inl (z 3))), (z4, .inl (cZ, 2, .inl (z 4))), (z5, .inl (cI, 60, .inl (upd (upd (upd (z 5) (Int32.toNatClampNeg (3 * (z 0 7))) x) (Int32.toNatClampNeg ((3 * (z 0 7)) + 1)) y) (Int32.toNatClampNeg ((3 * (z 0 7)) + 2)) v))), (z6, .inl (cI, 20, .inl (z 6))), (z7, .inl (cI, 20, .inl (z 7))), (z8, .inl (cI, 20, .inl (z 8))), (z9, .inl (cI, 10, .inl (z 9)))]) := hD
          refine lv_aload_n hx hb dX7_note_91 rfl (lv_at hl 0 rfl) ?_
          refine va_get (D := D) (ci := 7) (v := .int ((z 0 7) + 1)) (C := RX7) (T := TX7) (N := 17) hx hb hts inT7 hown hK hP 0 rfl rfl 7 (by decide) (hts _ mT_573) (fun _ h9 => h9) rfl dX7_note_92 ?_
          exact hret _ _ _ (sI (sA (sA (sA z 5 (upd (z 5) (Int32.toNatClampNeg (3 * (z 0 7))) x)) 5 (upd (upd (z 5) (Int32.toNatClampNeg (3 * (z 0 7))) x) (Int32.toNatClampNeg ((3 * (z 0 7)) + 1)) y)) 5 (upd (upd (upd (z 5) (Int32.toNatClampNeg (3 * (z 0 7))) x) (Int32.toNatClampNeg ((3 * (z 0 7)) + 1)) y) (Int32.toNatClampNeg ((3 * (z 0 7)) + 2)) v)) 7 ((z 0 7) + 1)) _ _ hf dX7_note_95 hP hD hS
        · have hf := ite_t c35 hf
          refine lv_ldc (v := (-1000000004)) hx hb hown (hts _ mT_795) dX7_note_38 ?_
          exact hret _ _ _ z _ _ hf dX7_note_40 hP hD hS
      · have hf := ite_t c23 hf
        refine lv_ldc (v := (-1000000002)) hx hb hown (hts _ mT_722) dX7_note_26 ?_
        exact hret _ _ _ z _ _ hf dX7_note_28 hP hD hS
    · have hf := ite_t c13 hf
      refine lv_ldc (v := (-1000000001)) hx hb hown (hts _ mT_731) dX7_note_16 ?_
      exact hret _ _ _ z _ _ hf dX7_note_18 hP hD hS
theorem s_yX7_tear : kMS yX7_tear cX7_tear 2 (some .int) 0 := ⟨mT_848, mT_59, by decide +kernel⟩
theorem v_yX7_tear : kMV yX7_tear := ⟨mT_846, mT_847⟩
def f_m_tear (z : Ob) : Option (Int32 × Ob) := some (z 0 7, sI z 7 0)
set_option maxHeartbeats 4000000 in
set_option maxRecDepth 100000 in
theorem c_m_tear (l : Launch) (D : va_G) (cI cZ cR : ClassId) (za z1 z2 z3 z4 z5 z6 z7 z8 z9 : Nat) (z : Ob) (sz : Nat) (r : Int32) (u : Ob) (hf : f_m_tear z = some (r, u)) : kCi l yX7_tear cX7_tear 2 (some .int) { frames := 0, cells := 0, slots := 0, locals := 0 } [.ref za] D cI cZ cR (cModel cI cZ za z1 z2 z3 z4 z5 z6 z7 z8 z9 z) sz (cModel cI cZ za z1 z2 z3 z4 z5 z6 z7 z8 z9 u) r := by
  refine kMwi (wf := (fun u : Ob => cModel cI cZ za z1 z2 z3 z4 z5 z6 z7 z8 z9 u)) (u := u) (by decide) (Nat.le_of_ble_eq_true rfl) ?_
  intro p e s m below meth c Q A hx hb hml hown hts hk hP hD hA hS hret ls hl
  have hS0 := hS
  have hK := hk.1
  have hl : lv_has ls 2 [(0, .ref za)] := hl
  rw [f_m_tear] at hf
  refine lv_aload_n hx hb dX7_tear_0 rfl (lv_at hl 0 rfl) ?_
  refine va_get (D := D) (ci := 7) (v := .int (z 0 7)) (C := RX7) (T := TX7) (N := 17) hx hb hts inT7 hown hK hP 0 rfl rfl 7 (by decide) (hts _ mT_573) (fun _ h9 => h9) rfl dX7_tear_1 ?_
  refine lv_istore_n (lv' := [(1, .int (z 0 7)), (0, .ref za)]) hx hb dX7_tear_4 rfl hl (by decide) rfl (fun ls hl => ?_)
  refine lv_aload_n hx hb dX7_tear_5 rfl (lv_at hl 1 rfl) ?_
  refine lv_iconst (v := 0) hx hb dX7_tear_6 (by decide) ?_
  refine va_put (D := D) (ci := 7) (v := .int 0) (ty := .int) (C := RX7) (T := TX7) (N := 17) hx hb hts inT7 tyX7 tyX7_ok nmX7 hown hK hP hD hS 0 rfl rfl 7 (by decide) (hts _ mT_573) (fun _ h9 => h9) rfl (by decide +kernel) rfl rfl (Nat.le_of_ble_eq_true rfl) dX7_tear_7 (fun H locs hP hD hS => ?_)
  have hP : va_P D vwCl ([(za, .inr (7, [.ref z1, .ref z2, .int (z 0 2), .ref z3, .ref z4, .int (z 0 5), .ref z5, .int 0, .ref z6, .ref z7, .ref z8, .int (z 0 11), .int (z 0 12), .int (z 0 13), .int (z 0 14), .ref z9, .int (z 0 16)])), (z1, .inl (cI, 367, .inl (z 1))), (z2, .inl (cI, 5872, .inl (z 2))), (z3, .inl (cI, 736, .inl (z 3))), (z4, .inl (cZ, 2, .inl (z 4))), (z5, .inl (cI, 60, .inl (z 5))), (z6, .inl (cI, 20, .inl (z 6))), (z7, .inl (cI, 20, .inl (z 7))), (z8, .inl (cI, 20, .inl (z 8))), (z9, .inl (cI, 10, .inl (z 9)))]) H := hP
  have hD : va_D A ([(za, .inr (7, [.ref z1, .ref z2, .int (z 0 2), .ref z3, .ref z4, .int (z 0 5), .ref z5, .int 0, .ref z6, .ref z7, .ref z8, .int (z 0 11), .int (z 0 12), .int (z 0 13), .int (z 0 14), .ref z9, .int (z 0 16)])), (z1, .inl (cI, 367, .inl (z 1))), (z2, .inl (cI, 5872, .inl (z 2))), (z3, .inl (cI, 736, .inl (z 3))), (z4, .inl (cZ, 2, .inl (z 4))), (z5, .inl (cI, 60, .inl (z 5))), (z6, .inl (cI, 20, .inl (z 6))), (z7, .inl (cI, 20, .inl (z 7))), (z8, .inl (cI, 20, .inl (z 8))), (z9, .inl (cI, 10, .inl (z 9)))]) := hD
  refine lv_iload_n hx hb dX7_tear_10 rfl (lv_at hl 0 rfl) ?_
  exact hret _ _ _ (sI z 7 0) _ _ hf dX7_tear_11 hP hD hS
theorem s_yX7_seed : kMS yX7_seed cX7_seed 3 (some .int) 1 := ⟨mT_852, mT_59, by decide +kernel⟩
theorem v_yX7_seed : kMV yX7_seed := ⟨mT_850, mT_851⟩
def f_m_seed (z : Ob) (x : Int32) : Option (Int32 × Ob) := if 0 ≤ x then (some (z 0 5, sI z 5 x)) else (some ((-1000000002), z))
set_option maxHeartbeats 4000000 in
set_option maxRecDepth 100000 in
theorem c_m_seed (l : Launch) (D : va_G) (cI cZ cR : ClassId) (za z1 z2 z3 z4 z5 z6 z7 z8 z9 : Nat) (z : Ob) (x : Int32) (sz : Nat) (r : Int32) (u : Ob) (hf : f_m_seed z x = some (r, u)) : kCi l yX7_seed cX7_seed 3 (some .int) { frames := 0, cells := 0, slots := 0, locals := 0 } [.ref za, .int x] D cI cZ cR (cModel cI cZ za z1 z2 z3 z4 z5 z6 z7 z8 z9 z) sz (cModel cI cZ za z1 z2 z3 z4 z5 z6 z7 z8 z9 u) r := by
  refine kMwi (wf := (fun u : Ob => cModel cI cZ za z1 z2 z3 z4 z5 z6 z7 z8 z9 u)) (u := u) (by decide) (Nat.le_of_ble_eq_true rfl) ?_
  intro p e s m below meth c Q A hx hb hml hown hts hk hP hD hA hS hret ls hl
  have hS0 := hS
  have hK := hk.1
  have hl : lv_has ls 3 [(0, .ref za), (1, .int x)] := hl
  rw [f_m_seed] at hf
  refine lv_iload_n hx hb dX7_seed_0 rfl (lv_at hl 1 rfl) ?_
  refine lv_if_ge (tgt := 7) hx hb dX7_seed_1 (by decide) (fun c1 => ?_) (fun c1 => ?_)
  · have hf := ite_t c1 hf
    refine lv_aload_n hx hb dX7_seed_7 rfl (lv_at hl 0 rfl) ?_
    refine va_get (D := D) (ci := 7) (v := .int (z 0 5)) (C := RX7) (T := TX7) (N := 17) hx hb hts inT7 hown hK hP 0 rfl rfl 5 (by decide) (hts _ mT_571) (fun _ h9 => h9) rfl dX7_seed_8 ?_
    refine lv_istore_n (lv' := [(2, .int (z 0 5)), (0, .ref za), (1, .int x)]) hx hb dX7_seed_11 rfl hl (by decide) rfl (fun ls hl => ?_)
    refine lv_aload_n hx hb dX7_seed_12 rfl (lv_at hl 1 rfl) ?_
    refine lv_iload_n hx hb dX7_seed_13 rfl (lv_at hl 2 rfl) ?_
    refine va_put (D := D) (ci := 7) (v := .int x) (ty := .int) (C := RX7) (T := TX7) (N := 17) hx hb hts inT7 tyX7 tyX7_ok nmX7 hown hK hP hD hS 0 rfl rfl 5 (by decide) (hts _ mT_571) (fun _ h9 => h9) rfl (by decide +kernel) rfl rfl (Nat.le_of_ble_eq_true rfl) dX7_seed_14 (fun H locs hP hD hS => ?_)
    have hP : va_P D vwCl ([(za, .inr (7, [.ref z1, .ref z2, .int (z 0 2), .ref z3, .ref z4, .int x, .ref z5, .int (z 0 7), .ref z6, .ref z7, .ref z8, .int (z 0 11), .int (z 0 12), .int (z 0 13), .int (z 0 14), .ref z9, .int (z 0 16)])), (z1, .inl (cI, 367, .inl (z 1))), (z2, .inl (cI, 5872, .inl (z 2))), (z3, .inl (cI, 736, .inl (z 3))), (z4, .inl (cZ, 2, .inl (z 4))), (z5, .inl (cI, 60, .inl (z 5))), (z6, .inl (cI, 20, .inl (z 6))), (z7, .inl (cI, 20, .inl (z 7))), (z8, .inl (cI, 20, .inl (z 8))), (z9, .inl (cI, 10, .inl (z 9)))]) H := hP
    have hD : va_D A ([(za, .inr (7, [.ref z1, .ref z2, .int (z 0 2), .ref z3, .ref z4, .int x, .ref z5, .int (z 0 7), .ref z6, .ref z7, .ref z8, .int (z 0 11), .int (z 0 12), .int (z 0 13), .int (z 0 14), .ref z9, .int (z 0 16)])), (z1, .inl (cI, 367, .inl (z 1))), (z2, .inl (cI, 5872, .inl (z 2))), (z3, .inl (cI, 736, .inl (z 3))), (z4, .inl (cZ, 2, .inl (z 4))), (z5, .inl (cI, 60, .inl (z 5))), (z6, .inl (cI, 20, .inl (z 6))), (z7, .inl (cI, 20, .inl (z 7))), (z8, .inl (cI, 20, .inl (z 8))), (z9, .inl (cI, 10, .inl (z 9)))]) := hD
    refine lv_iload_n hx hb dX7_seed_17 rfl (lv_at hl 0 rfl) ?_
    exact hret _ _ _ (sI z 5 x) _ _ hf dX7_seed_18 hP hD hS
  · have hf := ite_f c1 hf
    refine lv_ldc (v := (-1000000002)) hx hb hown (hts _ mT_722) dX7_seed_4 ?_
    exact hret _ _ _ z _ _ hf dX7_seed_6 hP hD hS
theorem s_yX7_keep : kMS yX7_keep cX7_keep 3 (some .int) 1 := ⟨mT_856, mT_59, by decide +kernel⟩
theorem v_yX7_keep : kMV yX7_keep := ⟨mT_854, mT_855⟩
def k_m_keep_14 (x : Int32) (x2_14 : Int32) (z_14 : Ob) : Option (Int32 × Ob) := gd (ck ((368 * x) + 367) 736) (gd (ck x 2) (some (1, sI (sA (sA z_14 3 (upd (z_14 3) (Int32.toNatClampNeg ((368 * x) + 367)) (z_14 0 5))) 4 (upd (z_14 4) (Int32.toNatClampNeg x) (vp_nar .boolean 1))) 2 0)))
def lp_m_keep_14 (x : Int32) (kk0 : Int32 → Ob → Option (Int32 × Ob)) : Nat → Int32 → Ob → Option (Int32 × Ob)
  | 0, _, _ => none
  | fu14 + 1, x2_14, z_14 => if 367 ≤ x2_14 then (kk0 x2_14 z_14) else (gd (ck x2_14 367) (gd (ck ((368 * x) + x2_14) 736) ((lp_m_keep_14 x kk0 fu14) (x2_14 + 1) (sA z_14 3 (upd (z_14 3) (Int32.toNatClampNeg ((368 * x) + x2_14)) ((z_14 1) (Int32.toNatClampNeg x2_14)))))))
def f_m_keep (z : Ob) (x : Int32) : Option (Int32 × Ob) := bd (f_m_in x 0 1) (fun q3 => if q3 = 0 then (some ((-1000000001), z)) else (lp_m_keep_14 x (k_m_keep_14 x) 10000 0 z))
set_option maxHeartbeats 4000000 in
set_option maxRecDepth 100000 in
theorem c_m_keep (l : Launch) (D : va_G) (cI cZ cR : ClassId) (za z1 z2 z3 z4 z5 z6 z7 z8 z9 : Nat) (z : Ob) (x : Int32) (sz : Nat) (r : Int32) (u : Ob) (hf : f_m_keep z x = some (r, u)) : kCi l yX7_keep cX7_keep 3 (some .int) { frames := 1, cells := 0, slots := 0, locals := 22 } [.ref za, .int x] D cI cZ cR (cModel cI cZ za z1 z2 z3 z4 z5 z6 z7 z8 z9 z) sz (cModel cI cZ za z1 z2 z3 z4 z5 z6 z7 z8 z9 u) r := by
  refine kMwi (wf := (fun u : Ob => cModel cI cZ za z1 z2 z3 z4 z5 z6 z7 z8 z9 u)) (u := u) (by decide) (Nat.le_of_ble_eq_true rfl) ?_
  intro p e s m below meth c Q A hx hb hml hown hts hk hP hD hA hS hret ls hl
  have hS0 := hS
  have hK := hk.1
  have hl : lv_has ls 3 [(0, .ref za), (1, .int x)] := hl
  rw [f_m_keep] at hf
  refine lv_iload_n hx hb dX7_keep_0 rfl (lv_at hl 1 rfl) ?_
  refine lv_iconst (v := 0) hx hb dX7_keep_1 (by decide) ?_
  refine lv_iconst (v := 1) hx hb dX7_keep_2 (by decide) ?_
  obtain ⟨q3, h3, hf⟩ := bd_some hf
  refine kx_rs (As := [.int x, .int 0, .int 1]) (rest := []) hx hb hml hown hts hk hl.1 s_yX7_in mT_720 (c_m_in l D cI cZ cR x 0 1 _ h3) mT_719 rfl rfl ⟨Nat.le_of_ble_eq_true rfl, Nat.le_of_ble_eq_true rfl⟩ rfl (Nat.le_of_ble_eq_true rfl) ⟨Nat.zero_le _, Nat.zero_le _⟩ dX7_keep_3 ?_
  refine lv_if_ne (tgt := 12) hx hb dX7_keep_6 (by decide) (fun c6 => ?_) (fun c6 => ?_)
  · have hf := ite_f c6 hf
    refine lv_iconst (v := 0) hx hb dX7_keep_12 (by decide) ?_
    refine lv_istore_n (lv' := [(2, .int 0), (0, .ref za), (1, .int x)]) hx hb dX7_keep_13 rfl hl (by decide) rfl (fun ls hl => ?_)
    have kx14 : ∀ (x2_14 : Int32) (z_14 : Ob) (H : Heap) (locs : List Loc) (ls : Array Slot), (k_m_keep_14 x) x2_14 z_14 = some (r, u) → va_P D vwCl (cModel cI cZ za z1 z2 z3 z4 z5 z6 z7 z8 z9 z_14) H → va_D A (cModel cI cZ za z1 z2 z3 z4 z5 z6 z7 z8 z9 z_14) → va_S A s.heap H locs → lv_has ls 3 [(0, .ref za), (1, .int x), (2, .int x2_14)] → W p l e ({ frames := 1, cells := 0, slots := 0, locals := 22 } : Room) s m ([.ref za, .int x] : List Value).toArray below meth c H locs 0 0 Q (F0 m 45 ls []) := by
      intro x2_14 z_14 H locs ls hf hP hD hS hl
      rw [k_m_keep_14] at hf
      refine lv_aload_n hx hb dX7_keep_45 rfl (lv_at hl 0 rfl) ?_
      refine va_get (D := D) (ci := 7) (v := .ref z3) (C := RX7) (T := TX7) (N := 17) hx hb hts inT7 hown hK hP 0 rfl rfl 3 (by decide) (hts _ mT_569) (fun _ h9 => h9) rfl dX7_keep_46 ?_
      refine lv_sipush (v := 368) hx hb dX7_keep_49 (by decide) ?_
      refine lv_iload_n hx hb dX7_keep_52 rfl (lv_at hl 1 rfl) ?_
      refine lv_imul hx hb dX7_keep_53 ?_
      refine lv_sipush (v := 367) hx hb dX7_keep_54 (by decide) ?_
      refine lv_iadd hx hb dX7_keep_57 ?_
      refine lv_aload_n hx hb dX7_keep_58 rfl (lv_at hl 0 rfl) ?_
      refine va_get (D := D) (ci := 7) (v := .int (z_14 0 5)) (C := RX7) (T := TX7) (N := 17) hx hb hts inT7 hown hK hP 0 rfl rfl 5 (by decide) (hts _ mT_571) (fun _ h9 => h9) rfl dX7_keep_59 ?_
      obtain ⟨b62, hf⟩ := gd_some hf
      refine va_iast (n := 736) (f := z_14 3) hx hb hK hP hD hS 3 0 rfl rfl (ck_in b62) dX7_keep_62 (fun H locs hP hD hS => ?_)
      have hP : va_P D vwCl ([(za, .inr (7, [.ref z1, .ref z2, .int (z_14 0 2), .ref z3, .ref z4, .int (z_14 0 5), .ref z5, .int (z_14 0 7), .ref z6, .ref z7, .ref z8, .int (z_14 0 11), .int (z_14 0 12), .int (z_14 0 13), .int (z_14 0 14), .ref z9, .int (z_14 0 16)])), (z1, .inl (cI, 367, .inl (z_14 1))), (z2, .inl (cI, 5872, .inl (z_14 2))), (z3, .inl (cI, 736, .inl (upd (z_14 3) (Int32.toNatClampNeg ((368 * x) + 367)) (z_14 0 5)))), (z4, .inl (cZ, 2, .inl (z_14 4))), (z5, .inl (cI, 60, .inl (z_14 5))), (z6, .inl (cI, 20, .inl (z_14 6))), (z7, .inl (cI, 20, .inl (z_14 7))), (z8, .inl (cI, 20, .inl (z_14 8))), (z9, .inl (cI, 10, .inl (z_14 9)))]) H := hP
      have hD : va_D A ([(za, .inr (7, [.ref z1, .ref z2, .int (z_14 0 2), .ref z3, .ref z4, .int (z_14 0 5), .ref z5, .int (z_14 0 7), .ref z6, .ref z7, .ref z8, .int (z_14 0 11), .int (z_14 0 12), .int (z_14 0 13), .int (z_14 0 14), .ref z9, .int (z_14 0 16)])), (z1, .inl (cI, 367, .inl (z_14 1))), (z2, .inl (cI, 5872, .inl (z_14 2))), (z3, .inl (cI, 736, .inl (upd (z_14 3) (Int32.toNatClampNeg ((368 * x) + 367)) (z_14 0 5)))), (z4, .inl (cZ, 2, .inl (z_14 4))), (z5, .inl (cI, 60, .inl (z_14 5))), (z6, .inl (cI, 20, .inl (z_14 6))), (z7, .inl (cI, 20, .inl (z_14 7))), (z8, .inl (cI, 20, .inl (z_14 8))), (z9, .inl (cI, 10, .inl (z_14 9)))]) := hD
      refine lv_aload_n hx hb dX7_keep_63 rfl (lv_at hl 0 rfl) ?_
      refine va_get (D := D) (ci := 7) (v := .ref z4) (C := RX7) (T := TX7) (N := 17) hx hb hts inT7 hown hK hP 0 rfl rfl 4 (by decide) (hts _ mT_570) (fun _ h9 => h9) rfl dX7_keep_64 ?_
      refine lv_iload_n hx hb dX7_keep_67 rfl (lv_at hl 1 rfl) ?_
      refine lv_iconst (v := 1) hx hb dX7_keep_68 (by decide) ?_
      obtain ⟨b69, hf⟩ := gd_some hf
      refine va_zast (n := 2) (f := z_14 4) hx hb hK hP hD hS 4 1 rfl rfl (ck_in b69) dX7_keep_69 (fun H locs hP hD hS => ?_)
      have hP : va_P D vwCl ([(za, .inr (7, [.ref z1, .ref z2, .int (z_14 0 2), .ref z3, .ref z4, .int (z_14 0 5), .ref z5, .int (z_14 0 7), .ref z6, .ref z7, .ref z8, .int (z_14 0 11), .int (z_14 0 12), .int (z_14 0 13), .int (z_14 0 14), .ref z9, .int (z_14 0 16)])), (z1, .inl (cI, 367, .inl (z_14 1))), (z2, .inl (cI, 5872, .inl (z_14 2))), (z3, .inl (cI, 736, .inl (upd (z_14 3) (Int32.toNatClampNeg ((368 * x) + 367)) (z_14 0 5)))), (z4, .inl (cZ, 2, .inl (upd (z_14 4) (Int32.toNatClampNeg x) (vp_nar .boolean 1)))), (z5, .inl (cI, 60, .inl (z_14 5))), (z6, .inl (cI, 20, .inl (z_14 6))), (z7, .inl (cI, 20, .inl (z_14 7))), (z8, .inl (cI, 20, .inl (z_14 8))), (z9, .inl (cI, 10, .inl (z_14 9)))]) H := hP
      have hD : va_D A ([(za, .inr (7, [.ref z1, .ref z2, .int (z_14 0 2), .ref z3, .ref z4, .int (z_14 0 5), .ref z5, .int (z_14 0 7), .ref z6, .ref z7, .ref z8, .int (z_14 0 11), .int (z_14 0 12), .int (z_14 0 13), .int (z_14 0 14), .ref z9, .int (z_14 0 16)])), (z1, .inl (cI, 367, .inl (z_14 1))), (z2, .inl (cI, 5872, .inl (z_14 2))), (z3, .inl (cI, 736, .inl (upd (z_14 3) (Int32.toNatClampNeg ((368 * x) + 367)) (z_14 0 5)))), (z4, .inl (cZ, 2, .inl (upd (z_14 4) (Int32.toNatClampNeg x) (vp_nar .boolean 1)))), (z5, .inl (cI, 60, .inl (z_14 5))), (z6, .inl (cI, 20, .inl (z_14 6))), (z7, .inl (cI, 20, .inl (z_14 7))), (z8, .inl (cI, 20, .inl (z_14 8))), (z9, .inl (cI, 10, .inl (z_14 9)))]) := hD
      refine lv_aload_n hx hb dX7_keep_70 rfl (lv_at hl 0 rfl) ?_
      refine lv_iconst (v := 0) hx hb dX7_keep_71 (by decide) ?_
      refine va_put (D := D) (ci := 7) (v := .int 0) (ty := .int) (C := RX7) (T := TX7) (N := 17) hx hb hts inT7 tyX7 tyX7_ok nmX7 hown hK hP hD hS 0 rfl rfl 2 (by decide) (hts _ mT_568) (fun _ h9 => h9) rfl (by decide +kernel) rfl rfl (Nat.le_of_ble_eq_true rfl) dX7_keep_72 (fun H locs hP hD hS => ?_)
      have hP : va_P D vwCl ([(za, .inr (7, [.ref z1, .ref z2, .int 0, .ref z3, .ref z4, .int (z_14 0 5), .ref z5, .int (z_14 0 7), .ref z6, .ref z7, .ref z8, .int (z_14 0 11), .int (z_14 0 12), .int (z_14 0 13), .int (z_14 0 14), .ref z9, .int (z_14 0 16)])), (z1, .inl (cI, 367, .inl (z_14 1))), (z2, .inl (cI, 5872, .inl (z_14 2))), (z3, .inl (cI, 736, .inl (upd (z_14 3) (Int32.toNatClampNeg ((368 * x) + 367)) (z_14 0 5)))), (z4, .inl (cZ, 2, .inl (upd (z_14 4) (Int32.toNatClampNeg x) (vp_nar .boolean 1)))), (z5, .inl (cI, 60, .inl (z_14 5))), (z6, .inl (cI, 20, .inl (z_14 6))), (z7, .inl (cI, 20, .inl (z_14 7))), (z8, .inl (cI, 20, .inl (z_14 8))), (z9, .inl (cI, 10, .inl (z_14 9)))]) H := hP
      have hD : va_D A ([(za, .inr (7, [.ref z1, .ref z2, .int 0, .ref z3, .ref z4, .int (z_14 0 5), .ref z5, .int (z_14 0 7), .ref z6, .ref z7, .ref z8, .int (z_14 0 11), .int (z_14 0 12), .int (z_14 0 13), .int (z_14 0 14), .ref z9, .int (z_14 0 16)])), (z1, .inl (cI, 367, .inl (z_14 1))), (z2, .inl (cI, 5872, .inl (z_14 2))), (z3, .inl (cI, 736, .inl (upd (z_14 3) (Int32.toNatClampNeg ((368 * x) + 367)) (z_14 0 5)))), (z4, .inl (cZ, 2, .inl (upd (z_14 4) (Int32.toNatClampNeg x) (vp_nar .boolean 1)))), (z5, .inl (cI, 60, .inl (z_14 5))), (z6, .inl (cI, 20, .inl (z_14 6))), (z7, .inl (cI, 20, .inl (z_14 7))), (z8, .inl (cI, 20, .inl (z_14 8))), (z9, .inl (cI, 10, .inl (z_14 9)))]) := hD
      refine lv_iconst (v := 1) hx hb dX7_keep_75 (by decide) ?_
      exact hret _ _ _ (sI (sA (sA z_14 3 (upd (z_14 3) (Int32.toNatClampNeg ((368 * x) + 367)) (z_14 0 5))) 4 (upd (z_14 4) (Int32.toNatClampNeg x) (vp_nar .boolean 1))) 2 0) _ _ hf dX7_keep_76 hP hD hS
    have lh14 : ∀ (fu14 : Nat) (x2_14 : Int32) (z_14 : Ob) (H : Heap) (locs : List Loc) (ls : Array Slot), lp_m_keep_14 x (k_m_keep_14 x) fu14 x2_14 z_14 = some (r, u) → va_P D vwCl (cModel cI cZ za z1 z2 z3 z4 z5 z6 z7 z8 z9 z_14) H → va_D A (cModel cI cZ za z1 z2 z3 z4 z5 z6 z7 z8 z9 z_14) → va_S A s.heap H locs → lv_has ls 3 [(0, .ref za), (1, .int x), (2, .int x2_14)] → W p l e ({ frames := 1, cells := 0, slots := 0, locals := 22 } : Room) s m ([.ref za, .int x] : List Value).toArray below meth c H locs 0 0 Q (F0 m 14 ls []) := by
      intro fu14
      induction fu14 with
      | zero => intro x2_14 z_14 H locs ls hf hP hD hS hl; exact no_none hf
      | succ fu14 ih14 =>
        intro x2_14 z_14 H locs ls hf hP hD hS hl
        rw [lp_m_keep_14] at hf
        refine lv_iload_n hx hb dX7_keep_14 rfl (lv_at hl 2 rfl) ?_
        refine lv_sipush (v := 367) hx hb dX7_keep_15 (by decide) ?_
        refine lv_icmp_ge (tgt := 45) hx hb dX7_keep_18 (by decide) (fun c18 => ?_) (fun c18 => ?_)
        · have hf := ite_t c18 hf
          exact kx14 x2_14 z_14 _ _ _ hf hP hD hS (lv_sub hl [0, 1, 2] rfl)
        · have hf := ite_f c18 hf
          refine lv_aload_n hx hb dX7_keep_21 rfl (lv_at hl 0 rfl) ?_
          refine va_get (D := D) (ci := 7) (v := .ref z3) (C := RX7) (T := TX7) (N := 17) hx hb hts inT7 hown hK hP 0 rfl rfl 3 (by decide) (hts _ mT_569) (fun _ h9 => h9) rfl dX7_keep_22 ?_
          refine lv_sipush (v := 368) hx hb dX7_keep_25 (by decide) ?_
          refine lv_iload_n hx hb dX7_keep_28 rfl (lv_at hl 1 rfl) ?_
          refine lv_imul hx hb dX7_keep_29 ?_
          refine lv_iload_n hx hb dX7_keep_30 rfl (lv_at hl 2 rfl) ?_
          refine lv_iadd hx hb dX7_keep_31 ?_
          refine lv_aload_n hx hb dX7_keep_32 rfl (lv_at hl 0 rfl) ?_
          refine va_get (D := D) (ci := 7) (v := .ref z1) (C := RX7) (T := TX7) (N := 17) hx hb hts inT7 hown hK hP 0 rfl rfl 0 (by decide) (hts _ mT_566) (fun _ h9 => h9) rfl dX7_keep_33 ?_
          refine lv_iload_n hx hb dX7_keep_36 rfl (lv_at hl 2 rfl) ?_
          obtain ⟨b37, hf⟩ := gd_some hf
          refine va_iald (n := 367) (f := z_14 1) hx hb hK hP 1 0 rfl rfl (ck_in b37) dX7_keep_37 ?_
          obtain ⟨b38, hf⟩ := gd_some hf
          refine va_iast (n := 736) (f := z_14 3) hx hb hK hP hD hS 3 0 rfl rfl (ck_in b38) dX7_keep_38 (fun H locs hP hD hS => ?_)
          have hP : va_P D vwCl ([(za, .inr (7, [.ref z1, .ref z2, .int (z_14 0 2), .ref z3, .ref z4, .int (z_14 0 5), .ref z5, .int (z_14 0 7), .ref z6, .ref z7, .ref z8, .int (z_14 0 11), .int (z_14 0 12), .int (z_14 0 13), .int (z_14 0 14), .ref z9, .int (z_14 0 16)])), (z1, .inl (cI, 367, .inl (z_14 1))), (z2, .inl (cI, 5872, .inl (z_14 2))), (z3, .inl (cI, 736, .inl (upd (z_14 3) (Int32.toNatClampNeg ((368 * x) + x2_14)) ((z_14 1) (Int32.toNatClampNeg x2_14))))), (z4, .inl (cZ, 2, .inl (z_14 4))), (z5, .inl (cI, 60, .inl (z_14 5))), (z6, .inl (cI, 20, .inl (z_14 6))), (z7, .inl (cI, 20, .inl (z_14 7))), (z8, .inl (cI, 20, .inl (z_14 8))), (z9, .inl (cI, 10, .inl (z_14 9)))]) H := hP
          have hD : va_D A ([(za, .inr (7, [.ref z1, .ref z2, .int (z_14 0 2), .ref z3, .ref z4, .int (z_14 0 5), .ref z5, .int (z_14 0 7), .ref z6, .ref z7, .ref z8, .int (z_14 0 11), .int (z_14 0 12), .int (z_14 0 13), .int (z_14 0 14), .ref z9, .int (z_14 0 16)])), (z1, .inl (cI, 367, .inl (z_14 1))), (z2, .inl (cI, 5872, .inl (z_14 2))), (z3, .inl (cI, 736, .inl (upd (z_14 3) (Int32.toNatClampNeg ((368 * x) + x2_14)) ((z_14 1) (Int32.toNatClampNeg x2_14))))), (z4, .inl (cZ, 2, .inl (z_14 4))), (z5, .inl (cI, 60, .inl (z_14 5))), (z6, .inl (cI, 20, .inl (z_14 6))), (z7, .inl (cI, 20, .inl (z_14 7))), (z8, .inl (cI, 20, .inl (z_14 8))), (z9, .inl (cI, 10, .inl (z_14 9)))]) := hD
          refine lv_iinc (v := x2_14 + 1) (lv' := [(2, .int (x2_14 + 1)), (0, .ref za), (1, .int x)]) hx hb dX7_keep_39 hl (k := 2) rfl rfl (by decide) rfl (fun ls hl => ?_)
          refine lv_goto (tgt := 14) hx hb dX7_keep_42 (by decide) ?_
          exact ih14 (x2_14 + 1) (sA z_14 3 (upd (z_14 3) (Int32.toNatClampNeg ((368 * x) + x2_14)) ((z_14 1) (Int32.toNatClampNeg x2_14)))) _ _ _ hf hP hD hS (lv_sub hl [1, 2, 0] rfl)
    exact lh14 10000 0 z _ _ _ hf hP hD hS (lv_sub hl [1, 2, 0] rfl)
  · have hf := ite_t c6 hf
    refine lv_ldc (v := (-1000000001)) hx hb hown (hts _ mT_731) dX7_keep_9 ?_
    exact hret _ _ _ z _ _ hf dX7_keep_11 hP hD hS
theorem s_yX7_goBack : kMS yX7_goBack cX7_goBack 3 (some .int) 1 := ⟨mT_860, mT_59, by decide +kernel⟩
theorem v_yX7_goBack : kMV yX7_goBack := ⟨mT_858, mT_859⟩
def k_m_goBack_26 (x : Int32) (x2_26 : Int32) (z_26 : Ob) : Option (Int32 × Ob) := gd (ck ((368 * x) + 367) 736) (some (1, sI (sI z_26 5 ((z_26 3) (Int32.toNatClampNeg ((368 * x) + 367)))) 2 0))
def lp_m_goBack_26 (x : Int32) (kk0 : Int32 → Ob → Option (Int32 × Ob)) : Nat → Int32 → Ob → Option (Int32 × Ob)
  | 0, _, _ => none
  | fu26 + 1, x2_26, z_26 => if 367 ≤ x2_26 then (kk0 x2_26 z_26) else (gd (ck ((368 * x) + x2_26) 736) (gd (ck x2_26 367) ((lp_m_goBack_26 x kk0 fu26) (x2_26 + 1) (sA z_26 1 (upd (z_26 1) (Int32.toNatClampNeg x2_26) ((z_26 3) (Int32.toNatClampNeg ((368 * x) + x2_26))))))))
def f_m_goBack (z : Ob) (x : Int32) : Option (Int32 × Ob) := bd (f_m_in x 0 1) (fun q3 => if q3 = 0 then (some ((-1000000001), z)) else (gd (ck x 2) (if ((z 4) (Int32.toNatClampNeg x)) = 0 then (some ((-1000000003), z)) else (lp_m_goBack_26 x (k_m_goBack_26 x) 10000 0 z))))
set_option maxHeartbeats 4000000 in
set_option maxRecDepth 100000 in
theorem c_m_goBack (l : Launch) (D : va_G) (cI cZ cR : ClassId) (za z1 z2 z3 z4 z5 z6 z7 z8 z9 : Nat) (z : Ob) (x : Int32) (sz : Nat) (r : Int32) (u : Ob) (hf : f_m_goBack z x = some (r, u)) : kCi l yX7_goBack cX7_goBack 3 (some .int) { frames := 1, cells := 0, slots := 0, locals := 22 } [.ref za, .int x] D cI cZ cR (cModel cI cZ za z1 z2 z3 z4 z5 z6 z7 z8 z9 z) sz (cModel cI cZ za z1 z2 z3 z4 z5 z6 z7 z8 z9 u) r := by
  refine kMwi (wf := (fun u : Ob => cModel cI cZ za z1 z2 z3 z4 z5 z6 z7 z8 z9 u)) (u := u) (by decide) (Nat.le_of_ble_eq_true rfl) ?_
  intro p e s m below meth c Q A hx hb hml hown hts hk hP hD hA hS hret ls hl
  have hS0 := hS
  have hK := hk.1
  have hl : lv_has ls 3 [(0, .ref za), (1, .int x)] := hl
  rw [f_m_goBack] at hf
  refine lv_iload_n hx hb dX7_goBack_0 rfl (lv_at hl 1 rfl) ?_
  refine lv_iconst (v := 0) hx hb dX7_goBack_1 (by decide) ?_
  refine lv_iconst (v := 1) hx hb dX7_goBack_2 (by decide) ?_
  obtain ⟨q3, h3, hf⟩ := bd_some hf
  refine kx_rs (As := [.int x, .int 0, .int 1]) (rest := []) hx hb hml hown hts hk hl.1 s_yX7_in mT_720 (c_m_in l D cI cZ cR x 0 1 _ h3) mT_719 rfl rfl ⟨Nat.le_of_ble_eq_true rfl, Nat.le_of_ble_eq_true rfl⟩ rfl (Nat.le_of_ble_eq_true rfl) ⟨Nat.zero_le _, Nat.zero_le _⟩ dX7_goBack_3 ?_
  refine lv_if_ne (tgt := 12) hx hb dX7_goBack_6 (by decide) (fun c6 => ?_) (fun c6 => ?_)
  · have hf := ite_f c6 hf
    refine lv_aload_n hx hb dX7_goBack_12 rfl (lv_at hl 0 rfl) ?_
    refine va_get (D := D) (ci := 7) (v := .ref z4) (C := RX7) (T := TX7) (N := 17) hx hb hts inT7 hown hK hP 0 rfl rfl 4 (by decide) (hts _ mT_570) (fun _ h9 => h9) rfl dX7_goBack_13 ?_
    refine lv_iload_n hx hb dX7_goBack_16 rfl (lv_at hl 1 rfl) ?_
    obtain ⟨b17, hf⟩ := gd_some hf
    refine va_zald (n := 2) (f := z 4) hx hb hK hP 4 1 rfl rfl (ck_in b17) dX7_goBack_17 ?_
    refine lv_if_ne (tgt := 24) hx hb dX7_goBack_18 (by decide) (fun c18 => ?_) (fun c18 => ?_)
    · have hf := ite_f c18 hf
      refine lv_iconst (v := 0) hx hb dX7_goBack_24 (by decide) ?_
      refine lv_istore_n (lv' := [(2, .int 0), (0, .ref za), (1, .int x)]) hx hb dX7_goBack_25 rfl hl (by decide) rfl (fun ls hl => ?_)
      have kx26 : ∀ (x2_26 : Int32) (z_26 : Ob) (H : Heap) (locs : List Loc) (ls : Array Slot), (k_m_goBack_26 x) x2_26 z_26 = some (r, u) → va_P D vwCl (cModel cI cZ za z1 z2 z3 z4 z5 z6 z7 z8 z9 z_26) H → va_D A (cModel cI cZ za z1 z2 z3 z4 z5 z6 z7 z8 z9 z_26) → va_S A s.heap H locs → lv_has ls 3 [(0, .ref za), (1, .int x), (2, .int x2_26)] → W p l e ({ frames := 1, cells := 0, slots := 0, locals := 22 } : Room) s m ([.ref za, .int x] : List Value).toArray below meth c H locs 0 0 Q (F0 m 57 ls []) := by
        intro x2_26 z_26 H locs ls hf hP hD hS hl
        rw [k_m_goBack_26] at hf
        refine lv_aload_n hx hb dX7_goBack_57 rfl (lv_at hl 0 rfl) ?_
        refine lv_aload_n hx hb dX7_goBack_58 rfl (lv_at hl 0 rfl) ?_
        refine va_get (D := D) (ci := 7) (v := .ref z3) (C := RX7) (T := TX7) (N := 17) hx hb hts inT7 hown hK hP 0 rfl rfl 3 (by decide) (hts _ mT_569) (fun _ h9 => h9) rfl dX7_goBack_59 ?_
        refine lv_sipush (v := 368) hx hb dX7_goBack_62 (by decide) ?_
        refine lv_iload_n hx hb dX7_goBack_65 rfl (lv_at hl 1 rfl) ?_
        refine lv_imul hx hb dX7_goBack_66 ?_
        refine lv_sipush (v := 367) hx hb dX7_goBack_67 (by decide) ?_
        refine lv_iadd hx hb dX7_goBack_70 ?_
        obtain ⟨b71, hf⟩ := gd_some hf
        refine va_iald (n := 736) (f := z_26 3) hx hb hK hP 3 0 rfl rfl (ck_in b71) dX7_goBack_71 ?_
        refine va_put (D := D) (ci := 7) (v := .int ((z_26 3) (Int32.toNatClampNeg ((368 * x) + 367)))) (ty := .int) (C := RX7) (T := TX7) (N := 17) hx hb hts inT7 tyX7 tyX7_ok nmX7 hown hK hP hD hS 0 rfl rfl 5 (by decide) (hts _ mT_571) (fun _ h9 => h9) rfl (by decide +kernel) rfl rfl (Nat.le_of_ble_eq_true rfl) dX7_goBack_72 (fun H locs hP hD hS => ?_)
        have hP : va_P D vwCl ([(za, .inr (7, [.ref z1, .ref z2, .int (z_26 0 2), .ref z3, .ref z4, .int ((z_26 3) (Int32.toNatClampNeg ((368 * x) + 367))), .ref z5, .int (z_26 0 7), .ref z6, .ref z7, .ref z8, .int (z_26 0 11), .int (z_26 0 12), .int (z_26 0 13), .int (z_26 0 14), .ref z9, .int (z_26 0 16)])), (z1, .inl (cI, 367, .inl (z_26 1))), (z2, .inl (cI, 5872, .inl (z_26 2))), (z3, .inl (cI, 736, .inl (z_26 3))), (z4, .inl (cZ, 2, .inl (z_26 4))), (z5, .inl (cI, 60, .inl (z_26 5))), (z6, .inl (cI, 20, .inl (z_26 6))), (z7, .inl (cI, 20, .inl (z_26 7))), (z8, .inl (cI, 20, .inl (z_26 8))), (z9, .inl (cI, 10, .inl (z_26 9)))]) H := hP
        have hD : va_D A ([(za, .inr (7, [.ref z1, .ref z2, .int (z_26 0 2), .ref z3, .ref z4, .int ((z_26 3) (Int32.toNatClampNeg ((368 * x) + 367))), .ref z5, .int (z_26 0 7), .ref z6, .ref z7, .ref z8, .int (z_26 0 11), .int (z_26 0 12), .int (z_26 0 13), .int (z_26 0 14), .ref z9, .int (z_26 0 16)])), (z1, .inl (cI, 367, .inl (z_26 1))), (z2, .inl (cI, 5872, .inl (z_26 2))), (z3, .inl (cI, 736, .inl (z_26 3))), (z4, .inl (cZ, 2, .inl (z_26 4))), (z5, .inl (cI, 60, .inl (z_26 5))), (z6, .inl (cI, 20, .inl (z_26 6))), (z7, .inl (cI, 20, .inl (z_26 7))), (z8, .inl (cI, 20, .inl (z_26 8))), (z9, .inl (cI, 10, .inl (z_26 9)))]) := hD
        refine lv_aload_n hx hb dX7_goBack_75 rfl (lv_at hl 0 rfl) ?_
        refine lv_iconst (v := 0) hx hb dX7_goBack_76 (by decide) ?_
        refine va_put (D := D) (ci := 7) (v := .int 0) (ty := .int) (C := RX7) (T := TX7) (N := 17) hx hb hts inT7 tyX7 tyX7_ok nmX7 hown hK hP hD hS 0 rfl rfl 2 (by decide) (hts _ mT_568) (fun _ h9 => h9) rfl (by decide +kernel) rfl rfl (Nat.le_of_ble_eq_true rfl) dX7_goBack_77 (fun H locs hP hD hS => ?_)
        have hP : va_P D vwCl ([(za, .inr (7, [.ref z1, .ref z2, .int 0, .ref z3, .ref z4, .int ((z_26 3) (Int32.toNatClampNeg ((368 * x) + 367))), .ref z5, .int (z_26 0 7), .ref z6, .ref z7, .ref z8, .int (z_26 0 11), .int (z_26 0 12), .int (z_26 0 13), .int (z_26 0 14), .ref z9, .int (z_26 0 16)])), (z1, .inl (cI, 367, .inl (z_26 1))), (z2, .inl (cI, 5872, .inl (z_26 2))), (z3, .inl (cI, 736, .inl (z_26 3))), (z4, .inl (cZ, 2, .inl (z_26 4))), (z5, .inl (cI, 60, .inl (z_26 5))), (z6, .inl (cI, 20, .inl (z_26 6))), (z7, .inl (cI, 20, .inl (z_26 7))), (z8, .inl (cI, 20, .inl (z_26 8))), (z9, .inl (cI, 10, .inl (z_26 9)))]) H := hP
        have hD : va_D A ([(za, .inr (7, [.ref z1, .ref z2, .int 0, .ref z3, .ref z4, .int ((z_26 3) (Int32.toNatClampNeg ((368 * x) + 367))), .ref z5, .int (z_26 0 7), .ref z6, .ref z7, .ref z8, .int (z_26 0 11), .int (z_26 0 12), .int (z_26 0 13), .int (z_26 0 14), .ref z9, .int (z_26 0 16)])), (z1, .inl (cI, 367, .inl (z_26 1))), (z2, .inl (cI, 5872, .inl (z_26 2))), (z3, .inl (cI, 736, .inl (z_26 3))), (z4, .inl (cZ, 2, .inl (z_26 4))), (z5, .inl (cI, 60, .inl (z_26 5))), (z6, .inl (cI, 20, .inl (z_26 6))), (z7, .inl (cI, 20, .inl (z_26 7))), (z8, .inl (cI, 20, .inl (z_26 8))), (z9, .inl (cI, 10, .inl (z_26 9)))]) := hD
        refine lv_iconst (v := 1) hx hb dX7_goBack_80 (by decide) ?_
        exact hret _ _ _ (sI (sI z_26 5 ((z_26 3) (Int32.toNatClampNeg ((368 * x) + 367)))) 2 0) _ _ hf dX7_goBack_81 hP hD hS
      have lh26 : ∀ (fu26 : Nat) (x2_26 : Int32) (z_26 : Ob) (H : Heap) (locs : List Loc) (ls : Array Slot), lp_m_goBack_26 x (k_m_goBack_26 x) fu26 x2_26 z_26 = some (r, u) → va_P D vwCl (cModel cI cZ za z1 z2 z3 z4 z5 z6 z7 z8 z9 z_26) H → va_D A (cModel cI cZ za z1 z2 z3 z4 z5 z6 z7 z8 z9 z_26) → va_S A s.heap H locs → lv_has ls 3 [(0, .ref za), (1, .int x), (2, .int x2_26)] → W p l e ({ frames := 1, cells := 0, slots := 0, locals := 22 } : Room) s m ([.ref za, .int x] : List Value).toArray below meth c H locs 0 0 Q (F0 m 26 ls []) := by
        intro fu26
        induction fu26 with
        | zero => intro x2_26 z_26 H locs ls hf hP hD hS hl; exact no_none hf
        | succ fu26 ih26 =>
          intro x2_26 z_26 H locs ls hf hP hD hS hl
          rw [lp_m_goBack_26] at hf
          refine lv_iload_n hx hb dX7_goBack_26 rfl (lv_at hl 2 rfl) ?_
          refine lv_sipush (v := 367) hx hb dX7_goBack_27 (by decide) ?_
          refine lv_icmp_ge (tgt := 57) hx hb dX7_goBack_30 (by decide) (fun c30 => ?_) (fun c30 => ?_)
          · have hf := ite_t c30 hf
            exact kx26 x2_26 z_26 _ _ _ hf hP hD hS (lv_sub hl [0, 1, 2] rfl)
          · have hf := ite_f c30 hf
            refine lv_aload_n hx hb dX7_goBack_33 rfl (lv_at hl 0 rfl) ?_
            refine va_get (D := D) (ci := 7) (v := .ref z1) (C := RX7) (T := TX7) (N := 17) hx hb hts inT7 hown hK hP 0 rfl rfl 0 (by decide) (hts _ mT_566) (fun _ h9 => h9) rfl dX7_goBack_34 ?_
            refine lv_iload_n hx hb dX7_goBack_37 rfl (lv_at hl 2 rfl) ?_
            refine lv_aload_n hx hb dX7_goBack_38 rfl (lv_at hl 0 rfl) ?_
            refine va_get (D := D) (ci := 7) (v := .ref z3) (C := RX7) (T := TX7) (N := 17) hx hb hts inT7 hown hK hP 0 rfl rfl 3 (by decide) (hts _ mT_569) (fun _ h9 => h9) rfl dX7_goBack_39 ?_
            refine lv_sipush (v := 368) hx hb dX7_goBack_42 (by decide) ?_
            refine lv_iload_n hx hb dX7_goBack_45 rfl (lv_at hl 1 rfl) ?_
            refine lv_imul hx hb dX7_goBack_46 ?_
            refine lv_iload_n hx hb dX7_goBack_47 rfl (lv_at hl 2 rfl) ?_
            refine lv_iadd hx hb dX7_goBack_48 ?_
            obtain ⟨b49, hf⟩ := gd_some hf
            refine va_iald (n := 736) (f := z_26 3) hx hb hK hP 3 0 rfl rfl (ck_in b49) dX7_goBack_49 ?_
            obtain ⟨b50, hf⟩ := gd_some hf
            refine va_iast (n := 367) (f := z_26 1) hx hb hK hP hD hS 1 0 rfl rfl (ck_in b50) dX7_goBack_50 (fun H locs hP hD hS => ?_)
            have hP : va_P D vwCl ([(za, .inr (7, [.ref z1, .ref z2, .int (z_26 0 2), .ref z3, .ref z4, .int (z_26 0 5), .ref z5, .int (z_26 0 7), .ref z6, .ref z7, .ref z8, .int (z_26 0 11), .int (z_26 0 12), .int (z_26 0 13), .int (z_26 0 14), .ref z9, .int (z_26 0 16)])), (z1, .inl (cI, 367, .inl (upd (z_26 1) (Int32.toNatClampNeg x2_26) ((z_26 3) (Int32.toNatClampNeg ((368 * x) + x2_26)))))), (z2, .inl (cI, 5872, .inl (z_26 2))), (z3, .inl (cI, 736, .inl (z_26 3))), (z4, .inl (cZ, 2, .inl (z_26 4))), (z5, .inl (cI, 60, .inl (z_26 5))), (z6, .inl (cI, 20, .inl (z_26 6))), (z7, .inl (cI, 20, .inl (z_26 7))), (z8, .inl (cI, 20, .inl (z_26 8))), (z9, .inl (cI, 10, .inl (z_26 9)))]) H := hP
            have hD : va_D A ([(za, .inr (7, [.ref z1, .ref z2, .int (z_26 0 2), .ref z3, .ref z4, .int (z_26 0 5), .ref z5, .int (z_26 0 7), .ref z6, .ref z7, .ref z8, .int (z_26 0 11), .int (z_26 0 12), .int (z_26 0 13), .int (z_26 0 14), .ref z9, .int (z_26 0 16)])), (z1, .inl (cI, 367, .inl (upd (z_26 1) (Int32.toNatClampNeg x2_26) ((z_26 3) (Int32.toNatClampNeg ((368 * x) + x2_26)))))), (z2, .inl (cI, 5872, .inl (z_26 2))), (z3, .inl (cI, 736, .inl (z_26 3))), (z4, .inl (cZ, 2, .inl (z_26 4))), (z5, .inl (cI, 60, .inl (z_26 5))), (z6, .inl (cI, 20, .inl (z_26 6))), (z7, .inl (cI, 20, .inl (z_26 7))), (z8, .inl (cI, 20, .inl (z_26 8))), (z9, .inl (cI, 10, .inl (z_26 9)))]) := hD
            refine lv_iinc (v := x2_26 + 1) (lv' := [(2, .int (x2_26 + 1)), (0, .ref za), (1, .int x)]) hx hb dX7_goBack_51 hl (k := 2) rfl rfl (by decide) rfl (fun ls hl => ?_)
            refine lv_goto (tgt := 26) hx hb dX7_goBack_54 (by decide) ?_
            exact ih26 (x2_26 + 1) (sA z_26 1 (upd (z_26 1) (Int32.toNatClampNeg x2_26) ((z_26 3) (Int32.toNatClampNeg ((368 * x) + x2_26))))) _ _ _ hf hP hD hS (lv_sub hl [1, 2, 0] rfl)
      exact lh26 10000 0 z _ _ _ hf hP hD hS (lv_sub hl [1, 2, 0] rfl)
    · have hf := ite_t c18 hf
      refine lv_ldc (v := (-1000000003)) hx hb hown (hts _ mT_820) dX7_goBack_21 ?_
      exact hret _ _ _ z _ _ hf dX7_goBack_23 hP hD hS
  · have hf := ite_t c6 hf
    refine lv_ldc (v := (-1000000001)) hx hb hown (hts _ mT_731) dX7_goBack_9 ?_
    exact hret _ _ _ z _ _ hf dX7_goBack_11 hP hD hS
