theorem s_yX7_notes : kMS yX7_notes cX7_notes 2 none 0 := ⟨mT_779, mT_59, by decide +kernel⟩
theorem v_yX7_notes : kMV yX7_notes := ⟨mT_778, mT_47⟩
def k_m_notes_52 (x1_3 : Int32) (z_4 : Ob) : Option Ob := some (sI z_4 2 ((z_4 0 2) + 1))
def lp_m_notes_52 (kk0 : Int32 → Ob → Option Ob) : Nat → Int32 → Ob → Option Ob
  | 0, _, _ => none
  | fu2 + 1, x1_3, z_4 => if 367 ≤ x1_3 then (kk0 x1_3 z_4) else (gd (ck x1_3 367) (gd (ck ((367 * (z_4 0 2)) + x1_3) 5872) ((lp_m_notes_52 kk0 fu2) (x1_3 + 1) (sA z_4 2 (upd (z_4 2) (Int32.toNatClampNeg ((367 * (z_4 0 2)) + x1_3)) ((z_4 1) (Int32.toNatClampNeg x1_3)))))))
def k_m_notes_52_1 (x1_12 : Int32) (z_13 : Ob) : Option Ob := some (sI z_13 2 ((z_13 0 2) + 1))
def lp_m_notes_52_1 (kk0 : Int32 → Ob → Option Ob) : Nat → Int32 → Ob → Option Ob
  | 0, _, _ => none
  | fu11 + 1, x1_12, z_13 => if 367 ≤ x1_12 then (kk0 x1_12 z_13) else (gd (ck x1_12 367) (gd (ck ((367 * (z_13 0 2)) + x1_12) 5872) ((lp_m_notes_52_1 kk0 fu11) (x1_12 + 1) (sA z_13 2 (upd (z_13 2) (Int32.toNatClampNeg ((367 * (z_13 0 2)) + x1_12)) ((z_13 1) (Int32.toNatClampNeg x1_12)))))))
def k_m_notes_11 (x1_9 : Int32) (z_10 : Ob) : Option Ob := lp_m_notes_52_1 k_m_notes_52_1 10000 0 (sI z_10 2 ((z_10 0 2) - 1))
def lp_m_notes_11 (kk0 : Int32 → Ob → Option Ob) : Nat → Int32 → Ob → Option Ob
  | 0, _, _ => none
  | fu8 + 1, x1_9, z_10 => if 5505 ≤ x1_9 then (kk0 x1_9 z_10) else (gd (ck (x1_9 + 367) 5872) (gd (ck x1_9 5872) ((lp_m_notes_11 kk0 fu8) (x1_9 + 1) (sA z_10 2 (upd (z_10 2) (Int32.toNatClampNeg x1_9) ((z_10 2) (Int32.toNatClampNeg (x1_9 + 367))))))))
def f_m_notes (z : Ob) : Option Ob := if (z 0 2) = 16 then (lp_m_notes_11 k_m_notes_11 10000 0 z) else (lp_m_notes_52 k_m_notes_52 10000 0 z)
set_option maxHeartbeats 4000000 in
set_option maxRecDepth 100000 in
theorem c_m_notes (l : Launch) (D : va_G) (cI cZ cR : ClassId) (za z1 z2 z3 z4 z5 z6 z7 z8 z9 : Nat) (z : Ob) (sz : Nat) (u : Ob) (hf : f_m_notes z = some u) : kCv l yX7_notes cX7_notes 2 none { frames := 0, cells := 0, slots := 0, locals := 0 } [.ref za] D cI cZ cR (cModel cI cZ za z1 z2 z3 z4 z5 z6 z7 z8 z9 z) sz (cModel cI cZ za z1 z2 z3 z4 z5 z6 z7 z8 z9 u) := by
  refine kMwv (wf := (fun u : Ob => cModel cI cZ za z1 z2 z3 z4 z5 z6 z7 z8 z9 u)) (u := u) (by decide) (Nat.le_of_ble_eq_true rfl) ?_
  intro p e s m below meth c Q A hx hb hml hown hts hk hP hD hA hS hret ls hl
  have hS0 := hS
  have hK := hk.1
  have hl : lv_has ls 2 [(0, .ref za)] := hl
  rw [f_m_notes] at hf
  refine lv_aload_n hx hb dX7_notes_0 rfl (lv_at hl 0 rfl) ?_
  refine va_get (D := D) (ci := 7) (v := .int (z 0 2)) (C := RX7) (T := TX7) (N := 17) hx hb hts inT7 hown hK hP 0 rfl rfl 2 (by decide) (hts _ mT_568) (fun _ h9 => h9) rfl dX7_notes_1 ?_
  refine lv_bipush (v := 16) hx hb dX7_notes_4 (by decide) ?_
  refine lv_icmp_ne (tgt := 50) hx hb dX7_notes_6 (by decide) (fun c1 => ?_) (fun c1 => ?_)
  · have hf := ite_f c1 hf
    refine lv_iconst (v := 0) hx hb dX7_notes_50 (by decide) ?_
    refine lv_istore_n (lv' := [(1, .int 0), (0, .ref za)]) hx hb dX7_notes_51 rfl hl (by decide) rfl (fun ls hl => ?_)
    have kx2 : ∀ (x1_3 : Int32) (z_4 : Ob) (H : Heap) (locs : List Loc) (ls : Array Slot), k_m_notes_52 x1_3 z_4 = some u → va_P D vwCl (cModel cI cZ za z1 z2 z3 z4 z5 z6 z7 z8 z9 z_4) H → va_D A (cModel cI cZ za z1 z2 z3 z4 z5 z6 z7 z8 z9 z_4) → va_S A s.heap H locs → lv_has ls 2 [(0, .ref za), (1, .int x1_3)] → W p l e ({ frames := 0, cells := 0, slots := 0, locals := 0 } : Room) s m ([.ref za] : List Value).toArray below meth c H locs 0 0 Q (F0 m 86 ls []) := by
      intro x1_3 z_4 H locs ls hf hP hD hS hl
      rw [k_m_notes_52] at hf
      refine lv_aload_n hx hb dX7_notes_86 rfl (lv_at hl 0 rfl) ?_
      refine lv_dup hx hb dX7_notes_87 rfl ?_
      refine va_get (D := D) (ci := 7) (v := .int (z_4 0 2)) (C := RX7) (T := TX7) (N := 17) hx hb hts inT7 hown hK hP 0 rfl rfl 2 (by decide) (hts _ mT_568) (fun _ h9 => h9) rfl dX7_notes_88 ?_
      refine lv_iconst (v := 1) hx hb dX7_notes_91 (by decide) ?_
      refine lv_iadd hx hb dX7_notes_92 ?_
      refine va_put (D := D) (ci := 7) (v := .int ((z_4 0 2) + 1)) (ty := .int) (C := RX7) (T := TX7) (N := 17) hx hb hts inT7 tyX7 tyX7_ok nmX7 hown hK hP hD hS 0 rfl rfl 2 (by decide) (hts _ mT_568) (fun _ h9 => h9) rfl (by decide +kernel) rfl rfl (Nat.le_of_ble_eq_true rfl) dX7_notes_93 (fun H locs hP hD hS => ?_)
      have hP : va_P D vwCl (cModel cI cZ za z1 z2 z3 z4 z5 z6 z7 z8 z9 (sI z_4 2 ((z_4 0 2) + 1))) H := hP
      have hD : va_D A (cModel cI cZ za z1 z2 z3 z4 z5 z6 z7 z8 z9 (sI z_4 2 ((z_4 0 2) + 1))) := hD
      exact hret _ _ (sI z_4 2 ((z_4 0 2) + 1)) _ _ hf dX7_notes_96 hP hD hS
    have lh2 : ∀ (fu2 : Nat) (x1_3 : Int32) (z_4 : Ob) (H : Heap) (locs : List Loc) (ls : Array Slot), lp_m_notes_52 k_m_notes_52 fu2 x1_3 z_4 = some u → va_P D vwCl (cModel cI cZ za z1 z2 z3 z4 z5 z6 z7 z8 z9 z_4) H → va_D A (cModel cI cZ za z1 z2 z3 z4 z5 z6 z7 z8 z9 z_4) → va_S A s.heap H locs → lv_has ls 2 [(0, .ref za), (1, .int x1_3)] → W p l e ({ frames := 0, cells := 0, slots := 0, locals := 0 } : Room) s m ([.ref za] : List Value).toArray below meth c H locs 0 0 Q (F0 m 52 ls []) := by
      intro fu2
      induction fu2 with
      | zero => intro x1_3 z_4 H locs ls hf hP hD hS hl; exact no_none hf
      | succ fu2 ih2 =>
        intro x1_3 z_4 H locs ls hf hP hD hS hl
        rw [lp_m_notes_52] at hf
        refine lv_iload_n hx hb dX7_notes_52 rfl (lv_at hl 1 rfl) ?_
        refine lv_sipush (v := 367) hx hb dX7_notes_53 (by decide) ?_
        refine lv_icmp_ge (tgt := 86) hx hb dX7_notes_56 (by decide) (fun c5 => ?_) (fun c5 => ?_)
        · have hf := ite_t c5 hf
          exact kx2 x1_3 z_4 _ _ _ hf hP hD hS (lv_sub hl [0, 1] rfl)
        · have hf := ite_f c5 hf
          refine lv_aload_n hx hb dX7_notes_59 rfl (lv_at hl 0 rfl) ?_
          refine va_get (D := D) (ci := 7) (v := .ref z2) (C := RX7) (T := TX7) (N := 17) hx hb hts inT7 hown hK hP 0 rfl rfl 1 (by decide) (hts _ mT_567) (fun _ h9 => h9) rfl dX7_notes_60 ?_
          refine lv_sipush (v := 367) hx hb dX7_notes_63 (by decide) ?_
          refine lv_aload_n hx hb dX7_notes_66 rfl (lv_at hl 0 rfl) ?_
          refine va_get (D := D) (ci := 7) (v := .int (z_4 0 2)) (C := RX7) (T := TX7) (N := 17) hx hb hts inT7 hown hK hP 0 rfl rfl 2 (by decide) (hts _ mT_568) (fun _ h9 => h9) rfl dX7_notes_67 ?_
          refine lv_imul hx hb dX7_notes_70 ?_
          refine lv_iload_n hx hb dX7_notes_71 rfl (lv_at hl 1 rfl) ?_
          refine lv_iadd hx hb dX7_notes_72 ?_
          refine lv_aload_n hx hb dX7_notes_73 rfl (lv_at hl 0 rfl) ?_
          refine va_get (D := D) (ci := 7) (v := .ref z1) (C := RX7) (T := TX7) (N := 17) hx hb hts inT7 hown hK hP 0 rfl rfl 0 (by decide) (hts _ mT_566) (fun _ h9 => h9) rfl dX7_notes_74 ?_
          refine lv_iload_n hx hb dX7_notes_77 rfl (lv_at hl 1 rfl) ?_
          obtain ⟨b6, hf⟩ := gd_some hf
          refine va_iald (n := 367) (f := z_4 1) hx hb hK hP 1 0 rfl rfl (ck_in b6) dX7_notes_78 ?_
          obtain ⟨b7, hf⟩ := gd_some hf
          refine va_iast (n := 5872) (f := z_4 2) hx hb hK hP hD hS 2 0 rfl rfl (ck_in b7) dX7_notes_79 (fun H locs hP hD hS => ?_)
          have hP : va_P D vwCl (cModel cI cZ za z1 z2 z3 z4 z5 z6 z7 z8 z9 (sA z_4 2 (upd (z_4 2) (Int32.toNatClampNeg ((367 * (z_4 0 2)) + x1_3)) ((z_4 1) (Int32.toNatClampNeg x1_3))))) H := hP
          have hD : va_D A (cModel cI cZ za z1 z2 z3 z4 z5 z6 z7 z8 z9 (sA z_4 2 (upd (z_4 2) (Int32.toNatClampNeg ((367 * (z_4 0 2)) + x1_3)) ((z_4 1) (Int32.toNatClampNeg x1_3))))) := hD
          refine lv_iinc (v := x1_3 + 1) (lv' := [(1, .int (x1_3 + 1)), (0, .ref za)]) hx hb dX7_notes_80 hl (k := 1) rfl rfl (by decide) rfl (fun ls hl => ?_)
          refine lv_goto (tgt := 52) hx hb dX7_notes_83 (by decide) ?_
          exact ih2 (x1_3 + 1) (sA z_4 2 (upd (z_4 2) (Int32.toNatClampNeg ((367 * (z_4 0 2)) + x1_3)) ((z_4 1) (Int32.toNatClampNeg x1_3)))) _ _ _ hf hP hD hS (lv_sub hl [1, 0] rfl)
    exact lh2 10000 0 z _ _ _ hf hP hD hS (lv_sub hl [1, 0] rfl)
  · have hf := ite_t c1 hf
    refine lv_iconst (v := 0) hx hb dX7_notes_9 (by decide) ?_
    refine lv_istore_n (lv' := [(1, .int 0), (0, .ref za)]) hx hb dX7_notes_10 rfl hl (by decide) rfl (fun ls hl => ?_)
    have kx8 : ∀ (x1_9 : Int32) (z_10 : Ob) (H : Heap) (locs : List Loc) (ls : Array Slot), k_m_notes_11 x1_9 z_10 = some u → va_P D vwCl (cModel cI cZ za z1 z2 z3 z4 z5 z6 z7 z8 z9 z_10) H → va_D A (cModel cI cZ za z1 z2 z3 z4 z5 z6 z7 z8 z9 z_10) → va_S A s.heap H locs → lv_has ls 2 [(0, .ref za), (1, .int x1_9)] → W p l e ({ frames := 0, cells := 0, slots := 0, locals := 0 } : Room) s m ([.ref za] : List Value).toArray below meth c H locs 0 0 Q (F0 m 40 ls []) := by
      intro x1_9 z_10 H locs ls hf hP hD hS hl
      rw [k_m_notes_11] at hf
      refine lv_aload_n hx hb dX7_notes_40 rfl (lv_at hl 0 rfl) ?_
      refine lv_dup hx hb dX7_notes_41 rfl ?_
      refine va_get (D := D) (ci := 7) (v := .int (z_10 0 2)) (C := RX7) (T := TX7) (N := 17) hx hb hts inT7 hown hK hP 0 rfl rfl 2 (by decide) (hts _ mT_568) (fun _ h9 => h9) rfl dX7_notes_42 ?_
      refine lv_iconst (v := 1) hx hb dX7_notes_45 (by decide) ?_
      refine lv_isub hx hb dX7_notes_46 ?_
      refine va_put (D := D) (ci := 7) (v := .int ((z_10 0 2) - 1)) (ty := .int) (C := RX7) (T := TX7) (N := 17) hx hb hts inT7 tyX7 tyX7_ok nmX7 hown hK hP hD hS 0 rfl rfl 2 (by decide) (hts _ mT_568) (fun _ h9 => h9) rfl (by decide +kernel) rfl rfl (Nat.le_of_ble_eq_true rfl) dX7_notes_47 (fun H locs hP hD hS => ?_)
      have hP : va_P D vwCl (cModel cI cZ za z1 z2 z3 z4 z5 z6 z7 z8 z9 (sI z_10 2 ((z_10 0 2) - 1))) H := hP
      have hD : va_D A (cModel cI cZ za z1 z2 z3 z4 z5 z6 z7 z8 z9 (sI z_10 2 ((z_10 0 2) - 1))) := hD
      refine lv_iconst (v := 0) hx hb dX7_notes_50 (by decide) ?_
      refine lv_istore_n (lv' := [(1, .int 0), (0, .ref za)]) hx hb dX7_notes_51 rfl hl (by decide) rfl (fun ls hl => ?_)
      have kx11 : ∀ (x1_12 : Int32) (z_13 : Ob) (H : Heap) (locs : List Loc) (ls : Array Slot), k_m_notes_52_1 x1_12 z_13 = some u → va_P D vwCl (cModel cI cZ za z1 z2 z3 z4 z5 z6 z7 z8 z9 z_13) H → va_D A (cModel cI cZ za z1 z2 z3 z4 z5 z6 z7 z8 z9 z_13) → va_S A s.heap H locs → lv_has ls 2 [(0, .ref za), (1, .int x1_12)] → W p l e ({ frames := 0, cells := 0, slots := 0, locals := 0 } : Room) s m ([.ref za] : List Value).toArray below meth c H locs 0 0 Q (F0 m 86 ls []) := by
        intro x1_12 z_13 H locs ls hf hP hD hS hl
        rw [k_m_notes_52_1] at hf
        refine lv_aload_n hx hb dX7_notes_86 rfl (lv_at hl 0 rfl) ?_
        refine lv_dup hx hb dX7_notes_87 rfl ?_
        refine va_get (D := D) (ci := 7) (v := .int (z_13 0 2)) (C := RX7) (T := TX7) (N := 17) hx hb hts inT7 hown hK hP 0 rfl rfl 2 (by decide) (hts _ mT_568) (fun _ h9 => h9) rfl dX7_notes_88 ?_
        refine lv_iconst (v := 1) hx hb dX7_notes_91 (by decide) ?_
        refine lv_iadd hx hb dX7_notes_92 ?_
        refine va_put (D := D) (ci := 7) (v := .int ((z_13 0 2) + 1)) (ty := .int) (C := RX7) (T := TX7) (N := 17) hx hb hts inT7 tyX7 tyX7_ok nmX7 hown hK hP hD hS 0 rfl rfl 2 (by decide) (hts _ mT_568) (fun _ h9 => h9) rfl (by decide +kernel) rfl rfl (Nat.le_of_ble_eq_true rfl) dX7_notes_93 (fun H locs hP hD hS => ?_)
        have hP : va_P D vwCl (cModel cI cZ za z1 z2 z3 z4 z5 z6 z7 z8 z9 (sI z_13 2 ((z_13 0 2) + 1))) H := hP
        have hD : va_D A (cModel cI cZ za z1 z2 z3 z4 z5 z6 z7 z8 z9 (sI z_13 2 ((z_13 0 2) + 1))) := hD
        exact hret _ _ (sI z_13 2 ((z_13 0 2) + 1)) _ _ hf dX7_notes_96 hP hD hS
      have lh11 : ∀ (fu11 : Nat) (x1_12 : Int32) (z_13 : Ob) (H : Heap) (locs : List Loc) (ls : Array Slot), lp_m_notes_52_1 k_m_notes_52_1 fu11 x1_12 z_13 = some u → va_P D vwCl (cModel cI cZ za z1 z2 z3 z4 z5 z6 z7 z8 z9 z_13) H → va_D A (cModel cI cZ za z1 z2 z3 z4 z5 z6 z7 z8 z9 z_13) → va_S A s.heap H locs → lv_has ls 2 [(0, .ref za), (1, .int x1_12)] → W p l e ({ frames := 0, cells := 0, slots := 0, locals := 0 } : Room) s m ([.ref za] : List Value).toArray below meth c H locs 0 0 Q (F0 m 52 ls []) := by
        intro fu11
        induction fu11 with
        | zero => intro x1_12 z_13 H locs ls hf hP hD hS hl; exact no_none hf
        | succ fu11 ih11 =>
          intro x1_12 z_13 H locs ls hf hP hD hS hl
          rw [lp_m_notes_52_1] at hf
          refine lv_iload_n hx hb dX7_notes_52 rfl (lv_at hl 1 rfl) ?_
          refine lv_sipush (v := 367) hx hb dX7_notes_53 (by decide) ?_
          refine lv_icmp_ge (tgt := 86) hx hb dX7_notes_56 (by decide) (fun c14 => ?_) (fun c14 => ?_)
          · have hf := ite_t c14 hf
            exact kx11 x1_12 z_13 _ _ _ hf hP hD hS (lv_sub hl [0, 1] rfl)
          · have hf := ite_f c14 hf
            refine lv_aload_n hx hb dX7_notes_59 rfl (lv_at hl 0 rfl) ?_
            refine va_get (D := D) (ci := 7) (v := .ref z2) (C := RX7) (T := TX7) (N := 17) hx hb hts inT7 hown hK hP 0 rfl rfl 1 (by decide) (hts _ mT_567) (fun _ h9 => h9) rfl dX7_notes_60 ?_
            refine lv_sipush (v := 367) hx hb dX7_notes_63 (by decide) ?_
            refine lv_aload_n hx hb dX7_notes_66 rfl (lv_at hl 0 rfl) ?_
            refine va_get (D := D) (ci := 7) (v := .int (z_13 0 2)) (C := RX7) (T := TX7) (N := 17) hx hb hts inT7 hown hK hP 0 rfl rfl 2 (by decide) (hts _ mT_568) (fun _ h9 => h9) rfl dX7_notes_67 ?_
            refine lv_imul hx hb dX7_notes_70 ?_
            refine lv_iload_n hx hb dX7_notes_71 rfl (lv_at hl 1 rfl) ?_
            refine lv_iadd hx hb dX7_notes_72 ?_
            refine lv_aload_n hx hb dX7_notes_73 rfl (lv_at hl 0 rfl) ?_
            refine va_get (D := D) (ci := 7) (v := .ref z1) (C := RX7) (T := TX7) (N := 17) hx hb hts inT7 hown hK hP 0 rfl rfl 0 (by decide) (hts _ mT_566) (fun _ h9 => h9) rfl dX7_notes_74 ?_
            refine lv_iload_n hx hb dX7_notes_77 rfl (lv_at hl 1 rfl) ?_
            obtain ⟨b15, hf⟩ := gd_some hf
            refine va_iald (n := 367) (f := z_13 1) hx hb hK hP 1 0 rfl rfl (ck_in b15) dX7_notes_78 ?_
            obtain ⟨b16, hf⟩ := gd_some hf
            refine va_iast (n := 5872) (f := z_13 2) hx hb hK hP hD hS 2 0 rfl rfl (ck_in b16) dX7_notes_79 (fun H locs hP hD hS => ?_)
            have hP : va_P D vwCl (cModel cI cZ za z1 z2 z3 z4 z5 z6 z7 z8 z9 (sA z_13 2 (upd (z_13 2) (Int32.toNatClampNeg ((367 * (z_13 0 2)) + x1_12)) ((z_13 1) (Int32.toNatClampNeg x1_12))))) H := hP
            have hD : va_D A (cModel cI cZ za z1 z2 z3 z4 z5 z6 z7 z8 z9 (sA z_13 2 (upd (z_13 2) (Int32.toNatClampNeg ((367 * (z_13 0 2)) + x1_12)) ((z_13 1) (Int32.toNatClampNeg x1_12))))) := hD
            refine lv_iinc (v := x1_12 + 1) (lv' := [(1, .int (x1_12 + 1)), (0, .ref za)]) hx hb dX7_notes_80 hl (k := 1) rfl rfl (by decide) rfl (fun ls hl => ?_)
            refine lv_goto (tgt := 52) hx hb dX7_notes_83 (by decide) ?_
            exact ih11 (x1_12 + 1) (sA z_13 2 (upd (z_13 2) (Int32.toNatClampNeg ((367 * (z_13 0 2)) + x1_12)) ((z_13 1) (Int32.toNatClampNeg x1_12)))) _ _ _ hf hP hD hS (lv_sub hl [1, 0] rfl)
      exact lh11 10000 0 (sI z_10 2 ((z_10 0 2) - 1)) _ _ _ hf hP hD hS (lv_sub hl [1, 0] rfl)
    have lh8 : ∀ (fu8 : Nat) (x1_9 : Int32) (z_10 : Ob) (H : Heap) (locs : List Loc) (ls : Array Slot), lp_m_notes_11 k_m_notes_11 fu8 x1_9 z_10 = some u → va_P D vwCl (cModel cI cZ za z1 z2 z3 z4 z5 z6 z7 z8 z9 z_10) H → va_D A (cModel cI cZ za z1 z2 z3 z4 z5 z6 z7 z8 z9 z_10) → va_S A s.heap H locs → lv_has ls 2 [(0, .ref za), (1, .int x1_9)] → W p l e ({ frames := 0, cells := 0, slots := 0, locals := 0 } : Room) s m ([.ref za] : List Value).toArray below meth c H locs 0 0 Q (F0 m 11 ls []) := by
      intro fu8
      induction fu8 with
      | zero => intro x1_9 z_10 H locs ls hf hP hD hS hl; exact no_none hf
      | succ fu8 ih8 =>
        intro x1_9 z_10 H locs ls hf hP hD hS hl
        rw [lp_m_notes_11] at hf
        refine lv_iload_n hx hb dX7_notes_11 rfl (lv_at hl 1 rfl) ?_
        refine lv_sipush (v := 5505) hx hb dX7_notes_12 (by decide) ?_
        refine lv_icmp_ge (tgt := 40) hx hb dX7_notes_15 (by decide) (fun c17 => ?_) (fun c17 => ?_)
        · have hf := ite_t c17 hf
          exact kx8 x1_9 z_10 _ _ _ hf hP hD hS (lv_sub hl [0, 1] rfl)
        · have hf := ite_f c17 hf
          refine lv_aload_n hx hb dX7_notes_18 rfl (lv_at hl 0 rfl) ?_
          refine va_get (D := D) (ci := 7) (v := .ref z2) (C := RX7) (T := TX7) (N := 17) hx hb hts inT7 hown hK hP 0 rfl rfl 1 (by decide) (hts _ mT_567) (fun _ h9 => h9) rfl dX7_notes_19 ?_
          refine lv_iload_n hx hb dX7_notes_22 rfl (lv_at hl 1 rfl) ?_
          refine lv_aload_n hx hb dX7_notes_23 rfl (lv_at hl 0 rfl) ?_
          refine va_get (D := D) (ci := 7) (v := .ref z2) (C := RX7) (T := TX7) (N := 17) hx hb hts inT7 hown hK hP 0 rfl rfl 1 (by decide) (hts _ mT_567) (fun _ h9 => h9) rfl dX7_notes_24 ?_
          refine lv_iload_n hx hb dX7_notes_27 rfl (lv_at hl 1 rfl) ?_
          refine lv_sipush (v := 367) hx hb dX7_notes_28 (by decide) ?_
          refine lv_iadd hx hb dX7_notes_31 ?_
          obtain ⟨b18, hf⟩ := gd_some hf
          refine va_iald (n := 5872) (f := z_10 2) hx hb hK hP 2 0 rfl rfl (ck_in b18) dX7_notes_32 ?_
          obtain ⟨b19, hf⟩ := gd_some hf
          refine va_iast (n := 5872) (f := z_10 2) hx hb hK hP hD hS 2 0 rfl rfl (ck_in b19) dX7_notes_33 (fun H locs hP hD hS => ?_)
          have hP : va_P D vwCl (cModel cI cZ za z1 z2 z3 z4 z5 z6 z7 z8 z9 (sA z_10 2 (upd (z_10 2) (Int32.toNatClampNeg x1_9) ((z_10 2) (Int32.toNatClampNeg (x1_9 + 367)))))) H := hP
          have hD : va_D A (cModel cI cZ za z1 z2 z3 z4 z5 z6 z7 z8 z9 (sA z_10 2 (upd (z_10 2) (Int32.toNatClampNeg x1_9) ((z_10 2) (Int32.toNatClampNeg (x1_9 + 367)))))) := hD
          refine lv_iinc (v := x1_9 + 1) (lv' := [(1, .int (x1_9 + 1)), (0, .ref za)]) hx hb dX7_notes_34 hl (k := 1) rfl rfl (by decide) rfl (fun ls hl => ?_)
          refine lv_goto (tgt := 11) hx hb dX7_notes_37 (by decide) ?_
          exact ih8 (x1_9 + 1) (sA z_10 2 (upd (z_10 2) (Int32.toNatClampNeg x1_9) ((z_10 2) (Int32.toNatClampNeg (x1_9 + 367))))) _ _ _ hf hP hD hS (lv_sub hl [1, 0] rfl)
    exact lh8 10000 0 z _ _ _ hf hP hD hS (lv_sub hl [1, 0] rfl)
theorem s_yX7_builds : kMS yX7_builds cX7_builds 7 none 3 := ⟨mT_565, mT_59, by decide +kernel⟩
theorem v_yX7_builds : kMV yX7_builds := ⟨mT_564, mT_17⟩
def k_m_builds_52 (x4_6 : Int32) (z_7 : Ob) : Option Ob := some z_7
def k_m_builds_62 (x4_6 : Int32) (go_L5 : Int32 → Ob → Option Ob) (x5_10 : Int32) (z_11 : Ob) : Option Ob := go_L5 (x4_6 + 1) z_11
def lp_m_builds_62 (x : Int32) (x4_6 : Int32) (kk0 : Int32 → Ob → Option Ob) : Nat → Int32 → Ob → Option Ob
  | 0, _, _ => none
  | fu9 + 1, x5_10, z_11 => if 8 ≤ x5_10 then (kk0 x5_10 z_11) else (if x4_6 ≤ x5_10 then (if x = 2 then (gd (ck ((3 + (8 * x4_6)) + x5_10) 367) ((lp_m_builds_62 x x4_6 kk0 fu9) (x5_10 + 1) (sA z_11 1 (upd (z_11 1) (Int32.toNatClampNeg ((3 + (8 * x4_6)) + x5_10)) (x4_6 ||| x5_10))))) else (if x = 0 then (gd (ck ((3 + (8 * x4_6)) + x5_10) 367) ((lp_m_builds_62 x x4_6 kk0 fu9) (x5_10 + 1) (sA z_11 1 (upd (z_11 1) (Int32.toNatClampNeg ((3 + (8 * x4_6)) + x5_10)) x5_10)))) else (if x4_6 = x5_10 then (gd (ck ((3 + (8 * x4_6)) + x5_10) 367) ((lp_m_builds_62 x x4_6 kk0 fu9) (x5_10 + 1) (sA z_11 1 (upd (z_11 1) (Int32.toNatClampNeg ((3 + (8 * x4_6)) + x5_10)) x5_10)))) else (if x4_6 = 0 then (gd (ck ((3 + (8 * x4_6)) + x5_10) 367) ((lp_m_builds_62 x x4_6 kk0 fu9) (x5_10 + 1) (sA z_11 1 (upd (z_11 1) (Int32.toNatClampNeg ((3 + (8 * x4_6)) + x5_10)) x5_10)))) else (if x5_10 = 0 then (gd (ck ((3 + (8 * x4_6)) + x5_10) 367) ((lp_m_builds_62 x x4_6 kk0 fu9) (x5_10 + 1) (sA z_11 1 (upd (z_11 1) (Int32.toNatClampNeg ((3 + (8 * x4_6)) + x5_10)) x5_10)))) else (gd (ck ((3 + (8 * x4_6)) + x5_10) 367) ((lp_m_builds_62 x x4_6 kk0 fu9) (x5_10 + 1) (sA z_11 1 (upd (z_11 1) (Int32.toNatClampNeg ((3 + (8 * x4_6)) + x5_10)) (((z_11 1) (Int32.toNatClampNeg 0)) - 1)))))))))) else (if x = 2 then (gd (ck ((3 + (8 * x4_6)) + x5_10) 367) ((lp_m_builds_62 x x4_6 kk0 fu9) (x5_10 + 1) (sA z_11 1 (upd (z_11 1) (Int32.toNatClampNeg ((3 + (8 * x4_6)) + x5_10)) (x4_6 ||| x5_10))))) else (if x = 0 then (gd (ck ((3 + (8 * x4_6)) + x5_10) 367) ((lp_m_builds_62 x x4_6 kk0 fu9) (x5_10 + 1) (sA z_11 1 (upd (z_11 1) (Int32.toNatClampNeg ((3 + (8 * x4_6)) + x5_10)) x4_6)))) else (if x4_6 = x5_10 then (gd (ck ((3 + (8 * x4_6)) + x5_10) 367) ((lp_m_builds_62 x x4_6 kk0 fu9) (x5_10 + 1) (sA z_11 1 (upd (z_11 1) (Int32.toNatClampNeg ((3 + (8 * x4_6)) + x5_10)) x4_6)))) else (if x4_6 = 0 then (gd (ck ((3 + (8 * x4_6)) + x5_10) 367) ((lp_m_builds_62 x x4_6 kk0 fu9) (x5_10 + 1) (sA z_11 1 (upd (z_11 1) (Int32.toNatClampNeg ((3 + (8 * x4_6)) + x5_10)) x4_6)))) else (if x5_10 = 0 then (gd (ck ((3 + (8 * x4_6)) + x5_10) 367) ((lp_m_builds_62 x x4_6 kk0 fu9) (x5_10 + 1) (sA z_11 1 (upd (z_11 1) (Int32.toNatClampNeg ((3 + (8 * x4_6)) + x5_10)) x4_6)))) else (gd (ck ((3 + (8 * x4_6)) + x5_10) 367) ((lp_m_builds_62 x x4_6 kk0 fu9) (x5_10 + 1) (sA z_11 1 (upd (z_11 1) (Int32.toNatClampNeg ((3 + (8 * x4_6)) + x5_10)) (((z_11 1) (Int32.toNatClampNeg 0)) - 1)))))))))))
def lp_m_builds_52 (x : Int32) (kk0 : Int32 → Ob → Option Ob) : Nat → Int32 → Ob → Option Ob
  | 0, _, _ => none
  | fu5 + 1, x4_6, z_7 => if 8 ≤ x4_6 then (kk0 x4_6 z_7) else (lp_m_builds_62 x x4_6 (k_m_builds_62 x4_6 ((lp_m_builds_52 x kk0 fu5))) 10000 0 z_7)
def k_m_builds_52_1 (x4_37 : Int32) (z_38 : Ob) : Option Ob := some z_38
def k_m_builds_62_1 (x4_37 : Int32) (go_L36 : Int32 → Ob → Option Ob) (x5_41 : Int32) (z_42 : Ob) : Option Ob := go_L36 (x4_37 + 1) z_42
def lp_m_builds_62_1 (x : Int32) (x4_37 : Int32) (kk0 : Int32 → Ob → Option Ob) : Nat → Int32 → Ob → Option Ob
  | 0, _, _ => none
  | fu40 + 1, x5_41, z_42 => if 8 ≤ x5_41 then (kk0 x5_41 z_42) else (if x4_37 ≤ x5_41 then (if x = 2 then (gd (ck ((3 + (8 * x4_37)) + x5_41) 367) ((lp_m_builds_62_1 x x4_37 kk0 fu40) (x5_41 + 1) (sA z_42 1 (upd (z_42 1) (Int32.toNatClampNeg ((3 + (8 * x4_37)) + x5_41)) (x4_37 ||| x5_41))))) else (if x = 0 then (gd (ck ((3 + (8 * x4_37)) + x5_41) 367) ((lp_m_builds_62_1 x x4_37 kk0 fu40) (x5_41 + 1) (sA z_42 1 (upd (z_42 1) (Int32.toNatClampNeg ((3 + (8 * x4_37)) + x5_41)) x5_41)))) else (if x4_37 = x5_41 then (gd (ck ((3 + (8 * x4_37)) + x5_41) 367) ((lp_m_builds_62_1 x x4_37 kk0 fu40) (x5_41 + 1) (sA z_42 1 (upd (z_42 1) (Int32.toNatClampNeg ((3 + (8 * x4_37)) + x5_41)) x5_41)))) else (if x4_37 = 0 then (gd (ck ((3 + (8 * x4_37)) + x5_41) 367) ((lp_m_builds_62_1 x x4_37 kk0 fu40) (x5_41 + 1) (sA z_42 1 (upd (z_42 1) (Int32.toNatClampNeg ((3 + (8 * x4_37)) + x5_41)) x5_41)))) else (if x5_41 = 0 then (gd (ck ((3 + (8 * x4_37)) + x5_41) 367) ((lp_m_builds_62_1 x x4_37 kk0 fu40) (x5_41 + 1) (sA z_42 1 (upd (z_42 1) (Int32.toNatClampNeg ((3 + (8 * x4_37)) + x5_41)) x5_41)))) else (gd (ck ((3 + (8 * x4_37)) + x5_41) 367) ((lp_m_builds_62_1 x x4_37 kk0 fu40) (x5_41 + 1) (sA z_42 1 (upd (z_42 1) (Int32.toNatClampNeg ((3 + (8 * x4_37)) + x5_41)) (((z_42 1) (Int32.toNatClampNeg 0)) - 1)))))))))) else (if x = 2 then (gd (ck ((3 + (8 * x4_37)) + x5_41) 367) ((lp_m_builds_62_1 x x4_37 kk0 fu40) (x5_41 + 1) (sA z_42 1 (upd (z_42 1) (Int32.toNatClampNeg ((3 + (8 * x4_37)) + x5_41)) (x4_37 ||| x5_41))))) else (if x = 0 then (gd (ck ((3 + (8 * x4_37)) + x5_41) 367) ((lp_m_builds_62_1 x x4_37 kk0 fu40) (x5_41 + 1) (sA z_42 1 (upd (z_42 1) (Int32.toNatClampNeg ((3 + (8 * x4_37)) + x5_41)) x4_37)))) else (if x4_37 = x5_41 then (gd (ck ((3 + (8 * x4_37)) + x5_41) 367) ((lp_m_builds_62_1 x x4_37 kk0 fu40) (x5_41 + 1) (sA z_42 1 (upd (z_42 1) (Int32.toNatClampNeg ((3 + (8 * x4_37)) + x5_41)) x4_37)))) else (if x4_37 = 0 then (gd (ck ((3 + (8 * x4_37)) + x5_41) 367) ((lp_m_builds_62_1 x x4_37 kk0 fu40) (x5_41 + 1) (sA z_42 1 (upd (z_42 1) (Int32.toNatClampNeg ((3 + (8 * x4_37)) + x5_41)) x4_37)))) else (if x5_41 = 0 then (gd (ck ((3 + (8 * x4_37)) + x5_41) 367) ((lp_m_builds_62_1 x x4_37 kk0 fu40) (x5_41 + 1) (sA z_42 1 (upd (z_42 1) (Int32.toNatClampNeg ((3 + (8 * x4_37)) + x5_41)) x4_37)))) else (gd (ck ((3 + (8 * x4_37)) + x5_41) 367) ((lp_m_builds_62_1 x x4_37 kk0 fu40) (x5_41 + 1) (sA z_42 1 (upd (z_42 1) (Int32.toNatClampNeg ((3 + (8 * x4_37)) + x5_41)) (((z_42 1) (Int32.toNatClampNeg 0)) - 1)))))))))))
def lp_m_builds_52_1 (x : Int32) (kk0 : Int32 → Ob → Option Ob) : Nat → Int32 → Ob → Option Ob
  | 0, _, _ => none
  | fu36 + 1, x4_37, z_38 => if 8 ≤ x4_37 then (kk0 x4_37 z_38) else (lp_m_builds_62_1 x x4_37 (k_m_builds_62_1 x4_37 ((lp_m_builds_52_1 x kk0 fu36))) 10000 0 z_38)
def k_m_builds_3 (x : Int32) (y : Int32) (v : Int32) (x4_2 : Int32) (z_3 : Ob) : Option Ob := if x = 2 then (lp_m_builds_52_1 x k_m_builds_52_1 10000 0 (sA (sA z_3 1 (upd (z_3 1) (Int32.toNatClampNeg 0) 8)) 1 (upd (upd (z_3 1) (Int32.toNatClampNeg 0) 8) (Int32.toNatClampNeg 1) v))) else (lp_m_builds_52 x k_m_builds_52 10000 0 (sA (sA z_3 1 (upd (z_3 1) (Int32.toNatClampNeg 0) y)) 1 (upd (upd (z_3 1) (Int32.toNatClampNeg 0) y) (Int32.toNatClampNeg 1) v)))
def lp_m_builds_3 (kk0 : Int32 → Ob → Option Ob) : Nat → Int32 → Ob → Option Ob
  | 0, _, _ => none
  | fu1 + 1, x4_2, z_3 => if 367 ≤ x4_2 then (kk0 x4_2 z_3) else (gd (ck x4_2 367) ((lp_m_builds_3 kk0 fu1) (x4_2 + 1) (sA z_3 1 (upd (z_3 1) (Int32.toNatClampNeg x4_2) 0))))
def f_m_builds (z : Ob) (x : Int32) (y : Int32) (v : Int32) : Option Ob := lp_m_builds_3 (k_m_builds_3 x y v) 10000 0 z
set_option maxHeartbeats 4000000 in
set_option maxRecDepth 100000 in
theorem c_m_builds (l : Launch) (D : va_G) (cI cZ cR : ClassId) (za z1 z2 z3 z4 z5 z6 z7 z8 z9 : Nat) (z : Ob) (x : Int32) (y : Int32) (v : Int32) (sz : Nat) (u : Ob) (hf : f_m_builds z x y v = some u) : kCv l yX7_builds cX7_builds 7 none { frames := 0, cells := 0, slots := 0, locals := 0 } [.ref za, .int x, .int y, .int v] D cI cZ cR (cModel cI cZ za z1 z2 z3 z4 z5 z6 z7 z8 z9 z) sz (cModel cI cZ za z1 z2 z3 z4 z5 z6 z7 z8 z9 u) := by
  refine kMwv (wf := (fun u : Ob => cModel cI cZ za z1 z2 z3 z4 z5 z6 z7 z8 z9 u)) (u := u) (by decide) (Nat.le_of_ble_eq_true rfl) ?_
  intro p e s m below meth c Q A hx hb hml hown hts hk hP hD hA hS hret ls hl
  have hS0 := hS
  have hK := hk.1
  have hl : lv_has ls 7 [(0, .ref za), (1, .int x), (2, .int y), (3, .int v)] := hl
  rw [f_m_builds] at hf
  refine lv_iconst (v := 0) hx hb dX7_builds_0 (by decide) ?_
  refine lv_istore (lv' := [(4, .int 0), (0, .ref za), (1, .int x), (2, .int y), (3, .int v)]) hx hb dX7_builds_1 hl (by decide) rfl (fun ls hl => ?_)
  have kx1 : ∀ (x4_2 : Int32) (z_3 : Ob) (H : Heap) (locs : List Loc) (ls : Array Slot), (k_m_builds_3 x y v) x4_2 z_3 = some u → va_P D vwCl (cModel cI cZ za z1 z2 z3 z4 z5 z6 z7 z8 z9 z_3) H → va_D A (cModel cI cZ za z1 z2 z3 z4 z5 z6 z7 z8 z9 z_3) → va_S A s.heap H locs → lv_has ls 7 [(0, .ref za), (1, .int x), (2, .int y), (3, .int v), (4, .int x4_2)] → W p l e ({ frames := 0, cells := 0, slots := 0, locals := 0 } : Room) s m ([.ref za, .int x, .int y, .int v] : List Value).toArray below meth c H locs 0 0 Q (F0 m 25 ls []) := by
    intro x4_2 z_3 H locs ls hf hP hD hS hl
    rw [k_m_builds_3] at hf
    refine lv_aload_n hx hb dX7_builds_25 rfl (lv_at hl 0 rfl) ?_
    refine va_get (D := D) (ci := 7) (v := .ref z1) (C := RX7) (T := TX7) (N := 17) hx hb hts inT7 hown hK hP 0 rfl rfl 0 (by decide) (hts _ mT_566) (fun _ h9 => h9) rfl dX7_builds_26 ?_
    refine lv_iconst (v := 0) hx hb dX7_builds_29 (by decide) ?_
    refine lv_iload_n hx hb dX7_builds_30 rfl (lv_at hl 1 rfl) ?_
    refine lv_iconst (v := 2) hx hb dX7_builds_31 (by decide) ?_
    refine lv_icmp_ne (tgt := 40) hx hb dX7_builds_32 (by decide) (fun c4 => ?_) (fun c4 => ?_)
    · have hf := ite_f c4 hf
      refine lv_iload_n hx hb dX7_builds_40 rfl (lv_at hl 2 rfl) ?_
      refine va_iast (n := 367) (f := z_3 1) hx hb hK hP hD hS 1 0 rfl rfl (ck_in (by decide)) dX7_builds_41 (fun H locs hP hD hS => ?_)
      have hP : va_P D vwCl (cModel cI cZ za z1 z2 z3 z4 z5 z6 z7 z8 z9 (sA z_3 1 (upd (z_3 1) (Int32.toNatClampNeg 0) y))) H := hP
      have hD : va_D A (cModel cI cZ za z1 z2 z3 z4 z5 z6 z7 z8 z9 (sA z_3 1 (upd (z_3 1) (Int32.toNatClampNeg 0) y))) := hD
      refine lv_aload_n hx hb dX7_builds_42 rfl (lv_at hl 0 rfl) ?_
      refine va_get (D := D) (ci := 7) (v := .ref z1) (C := RX7) (T := TX7) (N := 17) hx hb hts inT7 hown hK hP 0 rfl rfl 0 (by decide) (hts _ mT_566) (fun _ h9 => h9) rfl dX7_builds_43 ?_
      refine lv_iconst (v := 1) hx hb dX7_builds_46 (by decide) ?_
      refine lv_iload_n hx hb dX7_builds_47 rfl (lv_at hl 3 rfl) ?_
      refine va_iast (n := 367) (f := upd (z_3 1) (Int32.toNatClampNeg 0) y) hx hb hK hP hD hS 1 0 rfl rfl (ck_in (by decide)) dX7_builds_48 (fun H locs hP hD hS => ?_)
      have hP : va_P D vwCl (cModel cI cZ za z1 z2 z3 z4 z5 z6 z7 z8 z9 (sA (sA z_3 1 (upd (z_3 1) (Int32.toNatClampNeg 0) y)) 1 (upd (upd (z_3 1) (Int32.toNatClampNeg 0) y) (Int32.toNatClampNeg 1) v))) H := hP
      have hD : va_D A (cModel cI cZ za z1 z2 z3 z4 z5 z6 z7 z8 z9 (sA (sA z_3 1 (upd (z_3 1) (Int32.toNatClampNeg 0) y)) 1 (upd (upd (z_3 1) (Int32.toNatClampNeg 0) y) (Int32.toNatClampNeg 1) v))) := hD
      refine lv_iconst (v := 0) hx hb dX7_builds_49 (by decide) ?_
      refine lv_istore (lv' := [(4, .int 0), (0, .ref za), (1, .int x), (2, .int y), (3, .int v)]) hx hb dX7_builds_50 hl (by decide) rfl (fun ls hl => ?_)
      have kx5 : ∀ (x4_6 : Int32) (z_7 : Ob) (H : Heap) (locs : List Loc) (ls : Array Slot), k_m_builds_52 x4_6 z_7 = some u → va_P D vwCl (cModel cI cZ za z1 z2 z3 z4 z5 z6 z7 z8 z9 z_7) H → va_D A (cModel cI cZ za z1 z2 z3 z4 z5 z6 z7 z8 z9 z_7) → va_S A s.heap H locs → lv_has ls 7 [(0, .ref za), (1, .int x), (2, .int y), (3, .int v), (4, .int x4_6)] → W p l e ({ frames := 0, cells := 0, slots := 0, locals := 0 } : Room) s m ([.ref za, .int x, .int y, .int v] : List Value).toArray below meth c H locs 0 0 Q (F0 m 159 ls []) := by
        intro x4_6 z_7 H locs ls hf hP hD hS hl
        rw [k_m_builds_52] at hf
        exact hret _ _ z_7 _ _ hf dX7_builds_159 hP hD hS
      have lh5 : ∀ (fu5 : Nat) (x4_6 : Int32) (z_7 : Ob) (H : Heap) (locs : List Loc) (ls : Array Slot), lp_m_builds_52 x k_m_builds_52 fu5 x4_6 z_7 = some u → va_P D vwCl (cModel cI cZ za z1 z2 z3 z4 z5 z6 z7 z8 z9 z_7) H → va_D A (cModel cI cZ za z1 z2 z3 z4 z5 z6 z7 z8 z9 z_7) → va_S A s.heap H locs → lv_has ls 7 [(0, .ref za), (1, .int x), (2, .int y), (3, .int v), (4, .int x4_6)] → W p l e ({ frames := 0, cells := 0, slots := 0, locals := 0 } : Room) s m ([.ref za, .int x, .int y, .int v] : List Value).toArray below meth c H locs 0 0 Q (F0 m 52 ls []) := by
        intro fu5
        induction fu5 with
        | zero => intro x4_6 z_7 H locs ls hf hP hD hS hl; exact no_none hf
        | succ fu5 ih5 =>
          intro x4_6 z_7 H locs ls hf hP hD hS hl
          rw [lp_m_builds_52] at hf
          refine lv_iload hx hb dX7_builds_52 (lv_at hl 4 rfl) ?_
          refine lv_bipush (v := 8) hx hb dX7_builds_54 (by decide) ?_
          refine lv_icmp_ge (tgt := 159) hx hb dX7_builds_56 (by decide) (fun c8 => ?_) (fun c8 => ?_)
          · have hf := ite_t c8 hf
            exact kx5 x4_6 z_7 _ _ _ hf hP hD hS (lv_sub hl [0, 1, 2, 3, 4] rfl)
          · have hf := ite_f c8 hf
            refine lv_iconst (v := 0) hx hb dX7_builds_59 (by decide) ?_
            refine lv_istore (lv' := [(5, .int 0), (0, .ref za), (1, .int x), (2, .int y), (3, .int v), (4, .int x4_6)]) hx hb dX7_builds_60 hl (by decide) rfl (fun ls hl => ?_)
            have kx9 : ∀ (x5_10 : Int32) (z_11 : Ob) (H : Heap) (locs : List Loc) (ls : Array Slot), (k_m_builds_62 x4_6 ((lp_m_builds_52 x k_m_builds_52 fu5))) x5_10 z_11 = some u → va_P D vwCl (cModel cI cZ za z1 z2 z3 z4 z5 z6 z7 z8 z9 z_11) H → va_D A (cModel cI cZ za z1 z2 z3 z4 z5 z6 z7 z8 z9 z_11) → va_S A s.heap H locs → lv_has ls 7 [(0, .ref za), (1, .int x), (2, .int y), (3, .int v), (4, .int x4_6), (5, .int x5_10)] → W p l e ({ frames := 0, cells := 0, slots := 0, locals := 0 } : Room) s m ([.ref za, .int x, .int y, .int v] : List Value).toArray below meth c H locs 0 0 Q (F0 m 153 ls []) := by
              intro x5_10 z_11 H locs ls hf hP hD hS hl
              rw [k_m_builds_62] at hf
              refine lv_iinc (v := x4_6 + 1) (lv' := [(4, .int (x4_6 + 1)), (0, .ref za), (1, .int x), (2, .int y), (3, .int v), (5, .int x5_10)]) hx hb dX7_builds_153 hl (k := 4) rfl rfl (by decide) rfl (fun ls hl => ?_)
              refine lv_goto (tgt := 52) hx hb dX7_builds_156 (by decide) ?_
              exact ih5 (x4_6 + 1) z_11 _ _ _ hf hP hD hS (lv_sub hl [1, 2, 3, 4, 0] rfl)
            have lh9 : ∀ (fu9 : Nat) (x5_10 : Int32) (z_11 : Ob) (H : Heap) (locs : List Loc) (ls : Array Slot), lp_m_builds_62 x x4_6 (k_m_builds_62 x4_6 ((lp_m_builds_52 x k_m_builds_52 fu5))) fu9 x5_10 z_11 = some u → va_P D vwCl (cModel cI cZ za z1 z2 z3 z4 z5 z6 z7 z8 z9 z_11) H → va_D A (cModel cI cZ za z1 z2 z3 z4 z5 z6 z7 z8 z9 z_11) → va_S A s.heap H locs → lv_has ls 7 [(0, .ref za), (1, .int x), (2, .int y), (3, .int v), (4, .int x4_6), (5, .int x5_10)] → W p l e ({ frames := 0, cells := 0, slots := 0, locals := 0 } : Room) s m ([.ref za, .int x, .int y, .int v] : List Value).toArray below meth c H locs 0 0 Q (F0 m 62 ls []) := by
              intro fu9
              induction fu9 with
              | zero => intro x5_10 z_11 H locs ls hf hP hD hS hl; exact no_none hf
              | succ fu9 ih9 =>
                intro x5_10 z_11 H locs ls hf hP hD hS hl
                rw [lp_m_builds_62] at hf
                refine lv_iload hx hb dX7_builds_62 (lv_at hl 5 rfl) ?_
                refine lv_bipush (v := 8) hx hb dX7_builds_64 (by decide) ?_
                refine lv_icmp_ge (tgt := 153) hx hb dX7_builds_66 (by decide) (fun c12 => ?_) (fun c12 => ?_)
                · have hf := ite_t c12 hf
                  exact kx9 x5_10 z_11 _ _ _ hf hP hD hS (lv_sub hl [0, 1, 2, 3, 4, 5] rfl)
                · have hf := ite_f c12 hf
                  refine lv_iload hx hb dX7_builds_69 (lv_at hl 4 rfl) ?_
                  refine lv_iload hx hb dX7_builds_71 (lv_at hl 5 rfl) ?_
                  refine lv_icmp_le (tgt := 81) hx hb dX7_builds_73 (by decide) (fun c13 => ?_) (fun c13 => ?_)
                  · have hf := ite_t c13 hf
                    refine lv_iload hx hb dX7_builds_81 (lv_at hl 5 rfl) ?_
                    refine lv_istore (lv' := [(6, .int x5_10), (0, .ref za), (1, .int x), (2, .int y), (3, .int v), (4, .int x4_6), (5, .int x5_10)]) hx hb dX7_builds_83 hl (by decide) rfl (fun ls hl => ?_)
                    refine lv_aload_n hx hb dX7_builds_85 rfl (lv_at hl 1 rfl) ?_
                    refine va_get (D := D) (ci := 7) (v := .ref z1) (C := RX7) (T := TX7) (N := 17) hx hb hts inT7 hown hK hP 0 rfl rfl 0 (by decide) (hts _ mT_566) (fun _ h9 => h9) rfl dX7_builds_86 ?_
                    refine lv_iconst (v := 3) hx hb dX7_builds_89 (by decide) ?_
                    refine lv_bipush (v := 8) hx hb dX7_builds_90 (by decide) ?_
                    refine lv_iload hx hb dX7_builds_92 (lv_at hl 5 rfl) ?_
                    refine lv_imul hx hb dX7_builds_94 ?_
                    refine lv_iadd hx hb dX7_builds_95 ?_
                    refine lv_iload hx hb dX7_builds_96 (lv_at hl 6 rfl) ?_
                    refine lv_iadd hx hb dX7_builds_98 ?_
                    refine lv_iload_n hx hb dX7_builds_99 rfl (lv_at hl 2 rfl) ?_
                    refine lv_iconst (v := 2) hx hb dX7_builds_100 (by decide) ?_
                    refine lv_icmp_ne (tgt := 112) hx hb dX7_builds_101 (by decide) (fun c14 => ?_) (fun c14 => ?_)
                    · have hf := ite_f c14 hf
                      refine lv_iload_n hx hb dX7_builds_112 rfl (lv_at hl 2 rfl) ?_
                      refine lv_if_eq (tgt := 133) hx hb dX7_builds_113 (by decide) (fun c15 => ?_) (fun c15 => ?_)
                      · have hf := ite_t c15 hf
                        refine lv_iload hx hb dX7_builds_133 (lv_at hl 0 rfl) ?_
                        refine lv_goto (tgt := 146) hx hb dX7_builds_135 (by decide) ?_
                        obtain ⟨b16, hf⟩ := gd_some hf
                        refine va_iast (n := 367) (f := z_11 1) hx hb hK hP hD hS 1 0 rfl rfl (ck_in b16) dX7_builds_146 (fun H locs hP hD hS => ?_)
                        have hP : va_P D vwCl (cModel cI cZ za z1 z2 z3 z4 z5 z6 z7 z8 z9 (sA z_11 1 (upd (z_11 1) (Int32.toNatClampNeg ((3 + (8 * x4_6)) + x5_10)) x5_10))) H := hP
                        have hD : va_D A (cModel cI cZ za z1 z2 z3 z4 z5 z6 z7 z8 z9 (sA z_11 1 (upd (z_11 1) (Int32.toNatClampNeg ((3 + (8 * x4_6)) + x5_10)) x5_10))) := hD
                        refine lv_iinc (v := x5_10 + 1) (lv' := [(5, .int (x5_10 + 1)), (6, .int x5_10), (0, .ref za), (1, .int x), (2, .int y), (3, .int v), (4, .int x4_6)]) hx hb dX7_builds_147 hl (k := 6) rfl rfl (by decide) rfl (fun ls hl => ?_)
                        refine lv_goto (tgt := 62) hx hb dX7_builds_150 (by decide) ?_
                        exact ih9 (x5_10 + 1) (sA z_11 1 (upd (z_11 1) (Int32.toNatClampNeg ((3 + (8 * x4_6)) + x5_10)) x5_10)) _ _ _ hf hP hD hS (lv_sub hl [2, 3, 4, 5, 6, 0] rfl)
                      · have hf := ite_f c15 hf
                        refine lv_iload hx hb dX7_builds_116 (lv_at hl 5 rfl) ?_
                        refine lv_iload hx hb dX7_builds_118 (lv_at hl 6 rfl) ?_
                        refine lv_icmp_eq (tgt := 133) hx hb dX7_builds_120 (by decide) (fun c17 => ?_) (fun c17 => ?_)
                        · have hf := ite_t c17 hf
                          refine lv_iload hx hb dX7_builds_133 (lv_at hl 0 rfl) ?_
                          refine lv_goto (tgt := 146) hx hb dX7_builds_135 (by decide) ?_
                          obtain ⟨b18, hf⟩ := gd_some hf
                          refine va_iast (n := 367) (f := z_11 1) hx hb hK hP hD hS 1 0 rfl rfl (ck_in b18) dX7_builds_146 (fun H locs hP hD hS => ?_)
                          have hP : va_P D vwCl (cModel cI cZ za z1 z2 z3 z4 z5 z6 z7 z8 z9 (sA z_11 1 (upd (z_11 1) (Int32.toNatClampNeg ((3 + (8 * x4_6)) + x5_10)) x5_10))) H := hP
                          have hD : va_D A (cModel cI cZ za z1 z2 z3 z4 z5 z6 z7 z8 z9 (sA z_11 1 (upd (z_11 1) (Int32.toNatClampNeg ((3 + (8 * x4_6)) + x5_10)) x5_10))) := hD
                          refine lv_iinc (v := x5_10 + 1) (lv' := [(5, .int (x5_10 + 1)), (6, .int x5_10), (0, .ref za), (1, .int x), (2, .int y), (3, .int v), (4, .int x4_6)]) hx hb dX7_builds_147 hl (k := 6) rfl rfl (by decide) rfl (fun ls hl => ?_)
                          refine lv_goto (tgt := 62) hx hb dX7_builds_150 (by decide) ?_
                          exact ih9 (x5_10 + 1) (sA z_11 1 (upd (z_11 1) (Int32.toNatClampNeg ((3 + (8 * x4_6)) + x5_10)) x5_10)) _ _ _ hf hP hD hS (lv_sub hl [2, 3, 4, 5, 6, 0] rfl)
                        · have hf := ite_f c17 hf
                          refine lv_iload hx hb dX7_builds_123 (lv_at hl 5 rfl) ?_
                          refine lv_if_eq (tgt := 133) hx hb dX7_builds_125 (by decide) (fun c19 => ?_) (fun c19 => ?_)
                          · have hf := ite_t c19 hf
                            refine lv_iload hx hb dX7_builds_133 (lv_at hl 0 rfl) ?_
                            refine lv_goto (tgt := 146) hx hb dX7_builds_135 (by decide) ?_
                            obtain ⟨b20, hf⟩ := gd_some hf
                            refine va_iast (n := 367) (f := z_11 1) hx hb hK hP hD hS 1 0 rfl rfl (ck_in b20) dX7_builds_146 (fun H locs hP hD hS => ?_)
                            have hP : va_P D vwCl (cModel cI cZ za z1 z2 z3 z4 z5 z6 z7 z8 z9 (sA z_11 1 (upd (z_11 1) (Int32.toNatClampNeg ((3 + (8 * x4_6)) + x5_10)) x5_10))) H := hP
                            have hD : va_D A (cModel cI cZ za z1 z2 z3 z4 z5 z6 z7 z8 z9 (sA z_11 1 (upd (z_11 1) (Int32.toNatClampNeg ((3 + (8 * x4_6)) + x5_10)) x5_10))) := hD
                            refine lv_iinc (v := x5_10 + 1) (lv' := [(5, .int (x5_10 + 1)), (6, .int x5_10), (0, .ref za), (1, .int x), (2, .int y), (3, .int v), (4, .int x4_6)]) hx hb dX7_builds_147 hl (k := 6) rfl rfl (by decide) rfl (fun ls hl => ?_)
                            refine lv_goto (tgt := 62) hx hb dX7_builds_150 (by decide) ?_
                            exact ih9 (x5_10 + 1) (sA z_11 1 (upd (z_11 1) (Int32.toNatClampNeg ((3 + (8 * x4_6)) + x5_10)) x5_10)) _ _ _ hf hP hD hS (lv_sub hl [2, 3, 4, 5, 6, 0] rfl)
                          · have hf := ite_f c19 hf
                            refine lv_iload hx hb dX7_builds_128 (lv_at hl 6 rfl) ?_
                            refine lv_if_ne (tgt := 138) hx hb dX7_builds_130 (by decide) (fun c21 => ?_) (fun c21 => ?_)
                            · have hf := ite_f c21 hf
                              refine lv_aload_n hx hb dX7_builds_138 rfl (lv_at hl 1 rfl) ?_
                              refine va_get (D := D) (ci := 7) (v := .ref z1) (C := RX7) (T := TX7) (N := 17) hx hb hts inT7 hown hK hP 0 rfl rfl 0 (by decide) (hts _ mT_566) (fun _ h9 => h9) rfl dX7_builds_139 ?_
                              refine lv_iconst (v := 0) hx hb dX7_builds_142 (by decide) ?_
                              refine va_iald (n := 367) (f := z_11 1) hx hb hK hP 1 0 rfl rfl (ck_in (by decide)) dX7_builds_143 ?_
                              refine lv_iconst (v := 1) hx hb dX7_builds_144 (by decide) ?_
                              refine lv_isub hx hb dX7_builds_145 ?_
                              obtain ⟨b22, hf⟩ := gd_some hf
                              refine va_iast (n := 367) (f := z_11 1) hx hb hK hP hD hS 1 0 rfl rfl (ck_in b22) dX7_builds_146 (fun H locs hP hD hS => ?_)
                              have hP : va_P D vwCl (cModel cI cZ za z1 z2 z3 z4 z5 z6 z7 z8 z9 (sA z_11 1 (upd (z_11 1) (Int32.toNatClampNeg ((3 + (8 * x4_6)) + x5_10)) (((z_11 1) (Int32.toNatClampNeg 0)) - 1)))) H := hP
                              have hD : va_D A (cModel cI cZ za z1 z2 z3 z4 z5 z6 z7 z8 z9 (sA z_11 1 (upd (z_11 1) (Int32.toNatClampNeg ((3 + (8 * x4_6)) + x5_10)) (((z_11 1) (Int32.toNatClampNeg 0)) - 1)))) := hD
                              refine lv_iinc (v := x5_10 + 1) (lv' := [(5, .int (x5_10 + 1)), (6, .int x5_10), (0, .ref za), (1, .int x), (2, .int y), (3, .int v), (4, .int x4_6)]) hx hb dX7_builds_147 hl (k := 6) rfl rfl (by decide) rfl (fun ls hl => ?_)
                              refine lv_goto (tgt := 62) hx hb dX7_builds_150 (by decide) ?_
                              exact ih9 (x5_10 + 1) (sA z_11 1 (upd (z_11 1) (Int32.toNatClampNeg ((3 + (8 * x4_6)) + x5_10)) (((z_11 1) (Int32.toNatClampNeg 0)) - 1))) _ _ _ hf hP hD hS (lv_sub hl [2, 3, 4, 5, 6, 0] rfl)
                            · have hf := ite_t c21 hf
                              refine lv_iload hx hb dX7_builds_133 (lv_at hl 0 rfl) ?_
                              refine lv_goto (tgt := 146) hx hb dX7_builds_135 (by decide) ?_
                              obtain ⟨b23, hf⟩ := gd_some hf
                              refine va_iast (n := 367) (f := z_11 1) hx hb hK hP hD hS 1 0 rfl rfl (ck_in b23) dX7_builds_146 (fun H locs hP hD hS => ?_)
                              have hP : va_P D vwCl (cModel cI cZ za z1 z2 z3 z4 z5 z6 z7 z8 z9 (sA z_11 1 (upd (z_11 1) (Int32.toNatClampNeg ((3 + (8 * x4_6)) + x5_10)) x5_10))) H := hP
                              have hD : va_D A (cModel cI cZ za z1 z2 z3 z4 z5 z6 z7 z8 z9 (sA z_11 1 (upd (z_11 1) (Int32.toNatClampNeg ((3 + (8 * x4_6)) + x5_10)) x5_10))) := hD
                              refine lv_iinc (v := x5_10 + 1) (lv' := [(5, .int (x5_10 + 1)), (6, .int x5_10), (0, .ref za), (1, .int x), (2, .int y), (3, .int v), (4, .int x4_6)]) hx hb dX7_builds_147 hl (k := 6) rfl rfl (by decide) rfl (fun ls hl => ?_)
                              refine lv_goto (tgt := 62) hx hb dX7_builds_150 (by decide) ?_
                              exact ih9 (x5_10 + 1) (sA z_11 1 (upd (z_11 1) (Int32.toNatClampNeg ((3 + (8 * x4_6)) + x5_10)) x5_10)) _ _ _ hf hP hD hS (lv_sub hl [2, 3, 4, 5, 6, 0] rfl)
                    · have hf := ite_t c14 hf
                      refine lv_iload hx hb dX7_builds_104 (lv_at hl 5 rfl) ?_
                      refine lv_iload hx hb dX7_builds_106 (lv_at hl 6 rfl) ?_
                      refine lv_ior hx hb dX7_builds_108 ?_
                      refine lv_goto (tgt := 146) hx hb dX7_builds_109 (by decide) ?_
                      obtain ⟨b24, hf⟩ := gd_some hf
                      refine va_iast (n := 367) (f := z_11 1) hx hb hK hP hD hS 1 0 rfl rfl (ck_in b24) dX7_builds_146 (fun H locs hP hD hS => ?_)
                      have hP : va_P D vwCl (cModel cI cZ za z1 z2 z3 z4 z5 z6 z7 z8 z9 (sA z_11 1 (upd (z_11 1) (Int32.toNatClampNeg ((3 + (8 * x4_6)) + x5_10)) (x4_6 ||| x5_10)))) H := hP
                      have hD : va_D A (cModel cI cZ za z1 z2 z3 z4 z5 z6 z7 z8 z9 (sA z_11 1 (upd (z_11 1) (Int32.toNatClampNeg ((3 + (8 * x4_6)) + x5_10)) (x4_6 ||| x5_10)))) := hD
                      refine lv_iinc (v := x5_10 + 1) (lv' := [(5, .int (x5_10 + 1)), (6, .int x5_10), (0, .ref za), (1, .int x), (2, .int y), (3, .int v), (4, .int x4_6)]) hx hb dX7_builds_147 hl (k := 6) rfl rfl (by decide) rfl (fun ls hl => ?_)
                      refine lv_goto (tgt := 62) hx hb dX7_builds_150 (by decide) ?_
                      exact ih9 (x5_10 + 1) (sA z_11 1 (upd (z_11 1) (Int32.toNatClampNeg ((3 + (8 * x4_6)) + x5_10)) (x4_6 ||| x5_10))) _ _ _ hf hP hD hS (lv_sub hl [2, 3, 4, 5, 6, 0] rfl)
                  · have hf := ite_f c13 hf
                    refine lv_iload hx hb dX7_builds_76 (lv_at hl 4 rfl) ?_
                    refine lv_goto (tgt := 83) hx hb dX7_builds_78 (by decide) ?_
                    refine lv_istore (lv' := [(6, .int x4_6), (0, .ref za), (1, .int x), (2, .int y), (3, .int v), (4, .int x4_6), (5, .int x5_10)]) hx hb dX7_builds_83 hl (by decide) rfl (fun ls hl => ?_)
                    refine lv_aload_n hx hb dX7_builds_85 rfl (lv_at hl 1 rfl) ?_
                    refine va_get (D := D) (ci := 7) (v := .ref z1) (C := RX7) (T := TX7) (N := 17) hx hb hts inT7 hown hK hP 0 rfl rfl 0 (by decide) (hts _ mT_566) (fun _ h9 => h9) rfl dX7_builds_86 ?_
                    refine lv_iconst (v := 3) hx hb dX7_builds_89 (by decide) ?_
                    refine lv_bipush (v := 8) hx hb dX7_builds_90 (by decide) ?_
                    refine lv_iload hx hb dX7_builds_92 (lv_at hl 5 rfl) ?_
                    refine lv_imul hx hb dX7_builds_94 ?_
                    refine lv_iadd hx hb dX7_builds_95 ?_
                    refine lv_iload hx hb dX7_builds_96 (lv_at hl 6 rfl) ?_
                    refine lv_iadd hx hb dX7_builds_98 ?_
                    refine lv_iload_n hx hb dX7_builds_99 rfl (lv_at hl 2 rfl) ?_
                    refine lv_iconst (v := 2) hx hb dX7_builds_100 (by decide) ?_
                    refine lv_icmp_ne (tgt := 112) hx hb dX7_builds_101 (by decide) (fun c25 => ?_) (fun c25 => ?_)
                    · have hf := ite_f c25 hf
                      refine lv_iload_n hx hb dX7_builds_112 rfl (lv_at hl 2 rfl) ?_
                      refine lv_if_eq (tgt := 133) hx hb dX7_builds_113 (by decide) (fun c26 => ?_) (fun c26 => ?_)
                      · have hf := ite_t c26 hf
                        refine lv_iload hx hb dX7_builds_133 (lv_at hl 0 rfl) ?_
                        refine lv_goto (tgt := 146) hx hb dX7_builds_135 (by decide) ?_
                        obtain ⟨b27, hf⟩ := gd_some hf
                        refine va_iast (n := 367) (f := z_11 1) hx hb hK hP hD hS 1 0 rfl rfl (ck_in b27) dX7_builds_146 (fun H locs hP hD hS => ?_)
                        have hP : va_P D vwCl (cModel cI cZ za z1 z2 z3 z4 z5 z6 z7 z8 z9 (sA z_11 1 (upd (z_11 1) (Int32.toNatClampNeg ((3 + (8 * x4_6)) + x5_10)) x4_6))) H := hP
                        have hD : va_D A (cModel cI cZ za z1 z2 z3 z4 z5 z6 z7 z8 z9 (sA z_11 1 (upd (z_11 1) (Int32.toNatClampNeg ((3 + (8 * x4_6)) + x5_10)) x4_6))) := hD
                        refine lv_iinc (v := x5_10 + 1) (lv' := [(5, .int (x5_10 + 1)), (6, .int x4_6), (0, .ref za), (1, .int x), (2, .int y), (3, .int v), (4, .int x4_6)]) hx hb dX7_builds_147 hl (k := 6) rfl rfl (by decide) rfl (fun ls hl => ?_)
                        refine lv_goto (tgt := 62) hx hb dX7_builds_150 (by decide) ?_
                        exact ih9 (x5_10 + 1) (sA z_11 1 (upd (z_11 1) (Int32.toNatClampNeg ((3 + (8 * x4_6)) + x5_10)) x4_6)) _ _ _ hf hP hD hS (lv_sub hl [2, 3, 4, 5, 6, 0] rfl)
                      · have hf := ite_f c26 hf
                        refine lv_iload hx hb dX7_builds_116 (lv_at hl 5 rfl) ?_
                        refine lv_iload hx hb dX7_builds_118 (lv_at hl 6 rfl) ?_
                        refine lv_icmp_eq (tgt := 133) hx hb dX7_builds_120 (by decide) (fun c28 => ?_) (fun c28 => ?_)
                        · have hf := ite_t c28 hf
                          refine lv_iload hx hb dX7_builds_133 (lv_at hl 0 rfl) ?_
                          refine lv_goto (tgt := 146) hx hb dX7_builds_135 (by decide) ?_
                          obtain ⟨b29, hf⟩ := gd_some hf
                          refine va_iast (n := 367) (f := z_11 1) hx hb hK hP hD hS 1 0 rfl rfl (ck_in b29) dX7_builds_146 (fun H locs hP hD hS => ?_)
                          have hP : va_P D vwCl (cModel cI cZ za z1 z2 z3 z4 z5 z6 z7 z8 z9 (sA z_11 1 (upd (z_11 1) (Int32.toNatClampNeg ((3 + (8 * x4_6)) + x5_10)) x4_6))) H := hP
                          have hD : va_D A (cModel cI cZ za z1 z2 z3 z4 z5 z6 z7 z8 z9 (sA z_11 1 (upd (z_11 1) (Int32.toNatClampNeg ((3 + (8 * x4_6)) + x5_10)) x4_6))) := hD
                          refine lv_iinc (v := x5_10 + 1) (lv' := [(5, .int (x5_10 + 1)), (6, .int x4_6), (0, .ref za), (1, .int x), (2, .int y), (3, .int v), (4, .int x4_6)]) hx hb dX7_builds_147 hl (k := 6) rfl rfl (by decide) rfl (fun ls hl => ?_)
                          refine lv_goto (tgt := 62) hx hb dX7_builds_150 (by decide) ?_
                          exact ih9 (x5_10 + 1) (sA z_11 1 (upd (z_11 1) (Int32.toNatClampNeg ((3 + (8 * x4_6)) + x5_10)) x4_6)) _ _ _ hf hP hD hS (lv_sub hl [2, 3, 4, 5, 6, 0] rfl)
                        · have hf := ite_f c28 hf
                          refine lv_iload hx hb dX7_builds_123 (lv_at hl 5 rfl) ?_
                          refine lv_if_eq (tgt := 133) hx hb dX7_builds_125 (by decide) (fun c30 => ?_) (fun c30 => ?_)
                          · have hf := ite_t c30 hf
                            refine lv_iload hx hb dX7_builds_133 (lv_at hl 0 rfl) ?_
                            refine lv_goto (tgt := 146) hx hb dX7_builds_135 (by decide) ?_
                            obtain ⟨b31, hf⟩ := gd_some hf
                            refine va_iast (n := 367) (f := z_11 1) hx hb hK hP hD hS 1 0 rfl rfl (ck_in b31) dX7_builds_146 (fun H locs hP hD hS => ?_)
                            have hP : va_P D vwCl (cModel cI cZ za z1 z2 z3 z4 z5 z6 z7 z8 z9 (sA z_11 1 (upd (z_11 1) (Int32.toNatClampNeg ((3 + (8 * x4_6)) + x5_10)) x4_6))) H := hP
                            have hD : va_D A (cModel cI cZ za z1 z2 z3 z4 z5 z6 z7 z8 z9 (sA z_11 1 (upd (z_11 1) (Int32.toNatClampNeg ((3 + (8 * x4_6)) + x5_10)) x4_6))) := hD
                            refine lv_iinc (v := x5_10 + 1) (lv' := [(5, .int (x5_10 + 1)), (6, .int x4_6), (0, .ref za), (1, .int x), (2, .int y), (3, .int v), (4, .int x4_6)]) hx hb dX7_builds_147 hl (k := 6) rfl rfl (by decide) rfl (fun ls hl => ?_)
                            refine lv_goto (tgt := 62) hx hb dX7_builds_150 (by decide) ?_
                            exact ih9 (x5_10 + 1) (sA z_11 1 (upd (z_11 1) (Int32.toNatClampNeg ((3 + (8 * x4_6)) + x5_10)) x4_6)) _ _ _ hf hP hD hS (lv_sub hl [2, 3, 4, 5, 6, 0] rfl)
                          · have hf := ite_f c30 hf
                            refine lv_iload hx hb dX7_builds_128 (lv_at hl 6 rfl) ?_
                            refine lv_if_ne (tgt := 138) hx hb dX7_builds_130 (by decide) (fun c32 => ?_) (fun c32 => ?_)
                            · have hf := ite_f c32 hf
                              refine lv_aload_n hx hb dX7_builds_138 rfl (lv_at hl 1 rfl) ?_
                              refine va_get (D := D) (ci := 7) (v := .ref z1) (C := RX7) (T := TX7) (N := 17) hx hb hts inT7 hown hK hP 0 rfl rfl 0 (by decide) (hts _ mT_566) (fun _ h9 => h9) rfl dX7_builds_139 ?_
                              refine lv_iconst (v := 0) hx hb dX7_builds_142 (by decide) ?_
                              refine va_iald (n := 367) (f := z_11 1) hx hb hK hP 1 0 rfl rfl (ck_in (by decide)) dX7_builds_143 ?_
                              refine lv_iconst (v := 1) hx hb dX7_builds_144 (by decide) ?_
                              refine lv_isub hx hb dX7_builds_145 ?_
                              obtain ⟨b33, hf⟩ := gd_some hf
                              refine va_iast (n := 367) (f := z_11 1) hx hb hK hP hD hS 1 0 rfl rfl (ck_in b33) dX7_builds_146 (fun H locs hP hD hS => ?_)
                              have hP : va_P D vwCl (cModel cI cZ za z1 z2 z3 z4 z5 z6 z7 z8 z9 (sA z_11 1 (upd (z_11 1) (Int32.toNatClampNeg ((3 + (8 * x4_6)) + x5_10)) (((z_11 1) (Int32.toNatClampNeg 0)) - 1)))) H := hP
                              have hD : va_D A (cModel cI cZ za z1 z2 z3 z4 z5 z6 z7 z8 z9 (sA z_11 1 (upd (z_11 1) (Int32.toNatClampNeg ((3 + (8 * x4_6)) + x5_10)) (((z_11 1) (Int32.toNatClampNeg 0)) - 1)))) := hD
                              refine lv_iinc (v := x5_10 + 1) (lv' := [(5, .int (x5_10 + 1)), (6, .int x4_6), (0, .ref za), (1, .int x), (2, .int y), (3, .int v), (4, .int x4_6)]) hx hb dX7_builds_147 hl (k := 6) rfl rfl (by decide) rfl (fun ls hl => ?_)
                              refine lv_goto (tgt := 62) hx hb dX7_builds_150 (by decide) ?_
                              exact ih9 (x5_10 + 1) (sA z_11 1 (upd (z_11 1) (Int32.toNatClampNeg ((3 + (8 * x4_6)) + x5_10)) (((z_11 1) (Int32.toNatClampNeg 0)) - 1))) _ _ _ hf hP hD hS (lv_sub hl [2, 3, 4, 5, 6, 0] rfl)
                            · have hf := ite_t c32 hf
                              refine lv_iload hx hb dX7_builds_133 (lv_at hl 0 rfl) ?_
                              refine lv_goto (tgt := 146) hx hb dX7_builds_135 (by decide) ?_
                              obtain ⟨b34, hf⟩ := gd_some hf
                              refine va_iast (n := 367) (f := z_11 1) hx hb hK hP hD hS 1 0 rfl rfl (ck_in b34) dX7_builds_146 (fun H locs hP hD hS => ?_)
                              have hP : va_P D vwCl (cModel cI cZ za z1 z2 z3 z4 z5 z6 z7 z8 z9 (sA z_11 1 (upd (z_11 1) (Int32.toNatClampNeg ((3 + (8 * x4_6)) + x5_10)) x4_6))) H := hP
                              have hD : va_D A (cModel cI cZ za z1 z2 z3 z4 z5 z6 z7 z8 z9 (sA z_11 1 (upd (z_11 1) (Int32.toNatClampNeg ((3 + (8 * x4_6)) + x5_10)) x4_6))) := hD
                              refine lv_iinc (v := x5_10 + 1) (lv' := [(5, .int (x5_10 + 1)), (6, .int x4_6), (0, .ref za), (1, .int x), (2, .int y), (3, .int v), (4, .int x4_6)]) hx hb dX7_builds_147 hl (k := 6) rfl rfl (by decide) rfl (fun ls hl => ?_)
                              refine lv_goto (tgt := 62) hx hb dX7_builds_150 (by decide) ?_
                              exact ih9 (x5_10 + 1) (sA z_11 1 (upd (z_11 1) (Int32.toNatClampNeg ((3 + (8 * x4_6)) + x5_10)) x4_6)) _ _ _ hf hP hD hS (lv_sub hl [2, 3, 4, 5, 6, 0] rfl)
                    · have hf := ite_t c25 hf
                      refine lv_iload hx hb dX7_builds_104 (lv_at hl 5 rfl) ?_
                      refine lv_iload hx hb dX7_builds_106 (lv_at hl 6 rfl) ?_
                      refine lv_ior hx hb dX7_builds_108 ?_
                      refine lv_goto (tgt := 146) hx hb dX7_builds_109 (by decide) ?_
                      obtain ⟨b35, hf⟩ := gd_some hf
                      refine va_iast (n := 367) (f := z_11 1) hx hb hK hP hD hS 1 0 rfl rfl (ck_in b35) dX7_builds_146 (fun H locs hP hD hS => ?_)
                      have hP : va_P D vwCl (cModel cI cZ za z1 z2 z3 z4 z5 z6 z7 z8 z9 (sA z_11 1 (upd (z_11 1) (Int32.toNatClampNeg ((3 + (8 * x4_6)) + x5_10)) (x4_6 ||| x5_10)))) H := hP
                      have hD : va_D A (cModel cI cZ za z1 z2 z3 z4 z5 z6 z7 z8 z9 (sA z_11 1 (upd (z_11 1) (Int32.toNatClampNeg ((3 + (8 * x4_6)) + x5_10)) (x4_6 ||| x5_10)))) := hD
                      refine lv_iinc (v := x5_10 + 1) (lv' := [(5, .int (x5_10 + 1)), (6, .int x4_6), (0, .ref za), (1, .int x), (2, .int y), (3, .int v), (4, .int x4_6)]) hx hb dX7_builds_147 hl (k := 6) rfl rfl (by decide) rfl (fun ls hl => ?_)
                      refine lv_goto (tgt := 62) hx hb dX7_builds_150 (by decide) ?_
                      exact ih9 (x5_10 + 1) (sA z_11 1 (upd (z_11 1) (Int32.toNatClampNeg ((3 + (8 * x4_6)) + x5_10)) (x4_6 ||| x5_10))) _ _ _ hf hP hD hS (lv_sub hl [2, 3, 4, 5, 6, 0] rfl)
            exact lh9 10000 0 z_7 _ _ _ hf hP hD hS (lv_sub hl [1, 2, 3, 4, 5, 0] rfl)
      exact lh5 10000 0 (sA (sA z_3 1 (upd (z_3 1) (Int32.toNatClampNeg 0) y)) 1 (upd (upd (z_3 1) (Int32.toNatClampNeg 0) y) (Int32.toNatClampNeg 1) v)) _ _ _ hf hP hD hS (lv_sub hl [1, 2, 3, 4, 0] rfl)
    · have hf := ite_t c4 hf
      refine lv_bipush (v := 8) hx hb dX7_builds_35 (by decide) ?_
      refine lv_goto (tgt := 41) hx hb dX7_builds_37 (by decide) ?_
      refine va_iast (n := 367) (f := z_3 1) hx hb hK hP hD hS 1 0 rfl rfl (ck_in (by decide)) dX7_builds_41 (fun H locs hP hD hS => ?_)
      have hP : va_P D vwCl (cModel cI cZ za z1 z2 z3 z4 z5 z6 z7 z8 z9 (sA z_3 1 (upd (z_3 1) (Int32.toNatClampNeg 0) 8))) H := hP
      have hD : va_D A (cModel cI cZ za z1 z2 z3 z4 z5 z6 z7 z8 z9 (sA z_3 1 (upd (z_3 1) (Int32.toNatClampNeg 0) 8))) := hD
      refine lv_aload_n hx hb dX7_builds_42 rfl (lv_at hl 0 rfl) ?_
      refine va_get (D := D) (ci := 7) (v := .ref z1) (C := RX7) (T := TX7) (N := 17) hx hb hts inT7 hown hK hP 0 rfl rfl 0 (by decide) (hts _ mT_566) (fun _ h9 => h9) rfl dX7_builds_43 ?_
      refine lv_iconst (v := 1) hx hb dX7_builds_46 (by decide) ?_
      refine lv_iload_n hx hb dX7_builds_47 rfl (lv_at hl 3 rfl) ?_
      refine va_iast (n := 367) (f := upd (z_3 1) (Int32.toNatClampNeg 0) 8) hx hb hK hP hD hS 1 0 rfl rfl (ck_in (by decide)) dX7_builds_48 (fun H locs hP hD hS => ?_)
      have hP : va_P D vwCl (cModel cI cZ za z1 z2 z3 z4 z5 z6 z7 z8 z9 (sA (sA z_3 1 (upd (z_3 1) (Int32.toNatClampNeg 0) 8)) 1 (upd (upd (z_3 1) (Int32.toNatClampNeg 0) 8) (Int32.toNatClampNeg 1) v))) H := hP
      have hD : va_D A (cModel cI cZ za z1 z2 z3 z4 z5 z6 z7 z8 z9 (sA (sA z_3 1 (upd (z_3 1) (Int32.toNatClampNeg 0) 8)) 1 (upd (upd (z_3 1) (Int32.toNatClampNeg 0) 8) (Int32.toNatClampNeg 1) v))) := hD
      refine lv_iconst (v := 0) hx hb dX7_builds_49 (by decide) ?_
      refine lv_istore (lv' := [(4, .int 0), (0, .ref za), (1, .int x), (2, .int y), (3, .int v)]) hx hb dX7_builds_50 hl (by decide) rfl (fun ls hl => ?_)
      have kx36 : ∀ (x4_37 : Int32) (z_38 : Ob) (H : Heap) (locs : List Loc) (ls : Array Slot), k_m_builds_52_1 x4_37 z_38 = some u → va_P D vwCl (cModel cI cZ za z1 z2 z3 z4 z5 z6 z7 z8 z9 z_38) H → va_D A (cModel cI cZ za z1 z2 z3 z4 z5 z6 z7 z8 z9 z_38) → va_S A s.heap H locs → lv_has ls 7 [(0, .ref za), (1, .int x), (2, .int y), (3, .int v), (4, .int x4_37)] → W p l e ({ frames := 0, cells := 0, slots := 0, locals := 0 } : Room) s m ([.ref za, .int x, .int y, .int v] : List Value).toArray below meth c H locs 0 0 Q (F0 m 159 ls []) := by
        intro x4_37 z_38 H locs ls hf hP hD hS hl
        rw [k_m_builds_52_1] at hf
        exact hret _ _ z_38 _ _ hf dX7_builds_159 hP hD hS
      have lh36 : ∀ (fu36 : Nat) (x4_37 : Int32) (z_38 : Ob) (H : Heap) (locs : List Loc) (ls : Array Slot), lp_m_builds_52_1 x k_m_builds_52_1 fu36 x4_37 z_38 = some u → va_P D vwCl (cModel cI cZ za z1 z2 z3 z4 z5 z6 z7 z8 z9 z_38) H → va_D A (cModel cI cZ za z1 z2 z3 z4 z5 z6 z7 z8 z9 z_38) → va_S A s.heap H locs → lv_has ls 7 [(0, .ref za), (1, .int x), (2, .int y), (3, .int v), (4, .int x4_37)] → W p l e ({ frames := 0, cells := 0, slots := 0, locals := 0 } : Room) s m ([.ref za, .int x, .int y, .int v] : List Value).toArray below meth c H locs 0 0 Q (F0 m 52 ls []) := by
        intro fu36
        induction fu36 with
        | zero => intro x4_37 z_38 H locs ls hf hP hD hS hl; exact no_none hf
        | succ fu36 ih36 =>
          intro x4_37 z_38 H locs ls hf hP hD hS hl
          rw [lp_m_builds_52_1] at hf
          refine lv_iload hx hb dX7_builds_52 (lv_at hl 4 rfl) ?_
          refine lv_bipush (v := 8) hx hb dX7_builds_54 (by decide) ?_
          refine lv_icmp_ge (tgt := 159) hx hb dX7_builds_56 (by decide) (fun c39 => ?_) (fun c39 => ?_)
          · have hf := ite_t c39 hf
            exact kx36 x4_37 z_38 _ _ _ hf hP hD hS (lv_sub hl [0, 1, 2, 3, 4] rfl)
          · have hf := ite_f c39 hf
            refine lv_iconst (v := 0) hx hb dX7_builds_59 (by decide) ?_
            refine lv_istore (lv' := [(5, .int 0), (0, .ref za), (1, .int x), (2, .int y), (3, .int v), (4, .int x4_37)]) hx hb dX7_builds_60 hl (by decide) rfl (fun ls hl => ?_)
            have kx40 : ∀ (x5_41 : Int32) (z_42 : Ob) (H : Heap) (locs : List Loc) (ls : Array Slot), (k_m_builds_62_1 x4_37 ((lp_m_builds_52_1 x k_m_builds_52_1 fu36))) x5_41 z_42 = some u → va_P D vwCl (cModel cI cZ za z1 z2 z3 z4 z5 z6 z7 z8 z9 z_42) H → va_D A (cModel cI cZ za z1 z2 z3 z4 z5 z6 z7 z8 z9 z_42) → va_S A s.heap H locs → lv_has ls 7 [(0, .ref za), (1, .int x), (2, .int y), (3, .int v), (4, .int x4_37), (5, .int x5_41)] → W p l e ({ frames := 0, cells := 0, slots := 0, locals := 0 } : Room) s m ([.ref za, .int x, .int y, .int v] : List Value).toArray below meth c H locs 0 0 Q (F0 m 153 ls []) := by
              intro x5_41 z_42 H locs ls hf hP hD hS hl
              rw [k_m_builds_62_1] at hf
              refine lv_iinc (v := x4_37 + 1) (lv' := [(4, .int (x4_37 + 1)), (0, .ref za), (1, .int x), (2, .int y), (3, .int v), (5, .int x5_41)]) hx hb dX7_builds_153 hl (k := 4) rfl rfl (by decide) rfl (fun ls hl => ?_)
              refine lv_goto (tgt := 52) hx hb dX7_builds_156 (by decide) ?_
              exact ih36 (x4_37 + 1) z_42 _ _ _ hf hP hD hS (lv_sub hl [1, 2, 3, 4, 0] rfl)
            have lh40 : ∀ (fu40 : Nat) (x5_41 : Int32) (z_42 : Ob) (H : Heap) (locs : List Loc) (ls : Array Slot), lp_m_builds_62_1 x x4_37 (k_m_builds_62_1 x4_37 ((lp_m_builds_52_1 x k_m_builds_52_1 fu36))) fu40 x5_41 z_42 = some u → va_P D vwCl (cModel cI cZ za z1 z2 z3 z4 z5 z6 z7 z8 z9 z_42) H → va_D A (cModel cI cZ za z1 z2 z3 z4 z5 z6 z7 z8 z9 z_42) → va_S A s.heap H locs → lv_has ls 7 [(0, .ref za), (1, .int x), (2, .int y), (3, .int v), (4, .int x4_37), (5, .int x5_41)] → W p l e ({ frames := 0, cells := 0, slots := 0, locals := 0 } : Room) s m ([.ref za, .int x, .int y, .int v] : List Value).toArray below meth c H locs 0 0 Q (F0 m 62 ls []) := by
              intro fu40
              induction fu40 with
              | zero => intro x5_41 z_42 H locs ls hf hP hD hS hl; exact no_none hf
              | succ fu40 ih40 =>
                intro x5_41 z_42 H locs ls hf hP hD hS hl
                rw [lp_m_builds_62_1] at hf
                refine lv_iload hx hb dX7_builds_62 (lv_at hl 5 rfl) ?_
                refine lv_bipush (v := 8) hx hb dX7_builds_64 (by decide) ?_
                refine lv_icmp_ge (tgt := 153) hx hb dX7_builds_66 (by decide) (fun c43 => ?_) (fun c43 => ?_)
                · have hf := ite_t c43 hf
                  exact kx40 x5_41 z_42 _ _ _ hf hP hD hS (lv_sub hl [0, 1, 2, 3, 4, 5] rfl)
                · have hf := ite_f c43 hf
                  refine lv_iload hx hb dX7_builds_69 (lv_at hl 4 rfl) ?_
                  refine lv_iload hx hb dX7_builds_71 (lv_at hl 5 rfl) ?_
                  refine lv_icmp_le (tgt := 81) hx hb dX7_builds_73 (by decide) (fun c44 => ?_) (fun c44 => ?_)
                  · have hf := ite_t c44 hf
                    refine lv_iload hx hb dX7_builds_81 (lv_at hl 5 rfl) ?_
                    refine lv_istore (lv' := [(6, .int x5_41), (0, .ref za), (1, .int x), (2, .int y), (3, .int v), (4, .int x4_37), (5, .int x5_41)]) hx hb dX7_builds_83 hl (by decide) rfl (fun ls hl => ?_)
                    refine lv_aload_n hx hb dX7_builds_85 rfl (lv_at hl 1 rfl) ?_
                    refine va_get (D := D) (ci := 7) (v := .ref z1) (C := RX7) (T := TX7) (N := 17) hx hb hts inT7 hown hK hP 0 rfl rfl 0 (by decide) (hts _ mT_566) (fun _ h9 => h9) rfl dX7_builds_86 ?_
                    refine lv_iconst (v := 3) hx hb dX7_builds_89 (by decide) ?_
                    refine lv_bipush (v := 8) hx hb dX7_builds_90 (by decide) ?_
                    refine lv_iload hx hb dX7_builds_92 (lv_at hl 5 rfl) ?_
                    refine lv_imul hx hb dX7_builds_94 ?_
                    refine lv_iadd hx hb dX7_builds_95 ?_
                    refine lv_iload hx hb dX7_builds_96 (lv_at hl 6 rfl) ?_
                    refine lv_iadd hx hb dX7_builds_98 ?_
                    refine lv_iload_n hx hb dX7_builds_99 rfl (lv_at hl 2 rfl) ?_
                    refine lv_iconst (v := 2) hx hb dX7_builds_100 (by decide) ?_
                    refine lv_icmp_ne (tgt := 112) hx hb dX7_builds_101 (by decide) (fun c45 => ?_) (fun c45 => ?_)
                    · have hf := ite_f c45 hf
                      refine lv_iload_n hx hb dX7_builds_112 rfl (lv_at hl 2 rfl) ?_
                      refine lv_if_eq (tgt := 133) hx hb dX7_builds_113 (by decide) (fun c46 => ?_) (fun c46 => ?_)
                      · have hf := ite_t c46 hf
                        refine lv_iload hx hb dX7_builds_133 (lv_at hl 0 rfl) ?_
                        refine lv_goto (tgt := 146) hx hb dX7_builds_135 (by decide) ?_
                        obtain ⟨b47, hf⟩ := gd_some hf
                        refine va_iast (n := 367) (f := z_42 1) hx hb hK hP hD hS 1 0 rfl rfl (ck_in b47) dX7_builds_146 (fun H locs hP hD hS => ?_)
                        have hP : va_P D vwCl (cModel cI cZ za z1 z2 z3 z4 z5 z6 z7 z8 z9 (sA z_42 1 (upd (z_42 1) (Int32.toNatClampNeg ((3 + (8 * x4_37)) + x5_41)) x5_41))) H := hP
                        have hD : va_D A (cModel cI cZ za z1 z2 z3 z4 z5 z6 z7 z8 z9 (sA z_42 1 (upd (z_42 1) (Int32.toNatClampNeg ((3 + (8 * x4_37)) + x5_41)) x5_41))) := hD
                        refine lv_iinc (v := x5_41 + 1) (lv' := [(5, .int (x5_41 + 1)), (6, .int x5_41), (0, .ref za), (1, .int x), (2, .int y), (3, .int v), (4, .int x4_37)]) hx hb dX7_builds_147 hl (k := 6) rfl rfl (by decide) rfl (fun ls hl => ?_)
                        refine lv_goto (tgt := 62) hx hb dX7_builds_150 (by decide) ?_
                        exact ih40 (x5_41 + 1) (sA z_42 1 (upd (z_42 1) (Int32.toNatClampNeg ((3 + (8 * x4_37)) + x5_41)) x5_41)) _ _ _ hf hP hD hS (lv_sub hl [2, 3, 4, 5, 6, 0] rfl)
                      · have hf := ite_f c46 hf
                        refine lv_iload hx hb dX7_builds_116 (lv_at hl 5 rfl) ?_
                        refine lv_iload hx hb dX7_builds_118 (lv_at hl 6 rfl) ?_
                        refine lv_icmp_eq (tgt := 133) hx hb dX7_builds_120 (by decide) (fun c48 => ?_) (fun c48 => ?_)
                        · have hf := ite_t c48 hf
                          refine lv_iload hx hb dX7_builds_133 (lv_at hl 0 rfl) ?_
                          refine lv_goto (tgt := 146) hx hb dX7_builds_135 (by decide) ?_
                          obtain ⟨b49, hf⟩ := gd_some hf
                          refine va_iast (n := 367) (f := z_42 1) hx hb hK hP hD hS 1 0 rfl rfl (ck_in b49) dX7_builds_146 (fun H locs hP hD hS => ?_)
                          have hP : va_P D vwCl (cModel cI cZ za z1 z2 z3 z4 z5 z6 z7 z8 z9 (sA z_42 1 (upd (z_42 1) (Int32.toNatClampNeg ((3 + (8 * x4_37)) + x5_41)) x5_41))) H := hP
                          have hD : va_D A (cModel cI cZ za z1 z2 z3 z4 z5 z6 z7 z8 z9 (sA z_42 1 (upd (z_42 1) (Int32.toNatClampNeg ((3 + (8 * x4_37)) + x5_41)) x5_41))) := hD
                          refine lv_iinc (v := x5_41 + 1) (lv' := [(5, .int (x5_41 + 1)), (6, .int x5_41), (0, .ref za), (1, .int x), (2, .int y), (3, .int v), (4, .int x4_37)]) hx hb dX7_builds_147 hl (k := 6) rfl rfl (by decide) rfl (fun ls hl => ?_)
                          refine lv_goto (tgt := 62) hx hb dX7_builds_150 (by decide) ?_
                          exact ih40 (x5_41 + 1) (sA z_42 1 (upd (z_42 1) (Int32.toNatClampNeg ((3 + (8 * x4_37)) + x5_41)) x5_41)) _ _ _ hf hP hD hS (lv_sub hl [2, 3, 4, 5, 6, 0] rfl)
                        · have hf := ite_f c48 hf
                          refine lv_iload hx hb dX7_builds_123 (lv_at hl 5 rfl) ?_
                          refine lv_if_eq (tgt := 133) hx hb dX7_builds_125 (by decide) (fun c50 => ?_) (fun c50 => ?_)
                          · have hf := ite_t c50 hf
                            refine lv_iload hx hb dX7_builds_133 (lv_at hl 0 rfl) ?_
                            refine lv_goto (tgt := 146) hx hb dX7_builds_135 (by decide) ?_
                            obtain ⟨b51, hf⟩ := gd_some hf
                            refine va_iast (n := 367) (f := z_42 1) hx hb hK hP hD hS 1 0 rfl rfl (ck_in b51) dX7_builds_146 (fun H locs hP hD hS => ?_)
                            have hP : va_P D vwCl (cModel cI cZ za z1 z2 z3 z4 z5 z6 z7 z8 z9 (sA z_42 1 (upd (z_42 1) (Int32.toNatClampNeg ((3 + (8 * x4_37)) + x5_41)) x5_41))) H := hP
                            have hD : va_D A (cModel cI cZ za z1 z2 z3 z4 z5 z6 z7 z8 z9 (sA z_42 1 (upd (z_42 1) (Int32.toNatClampNeg ((3 + (8 * x4_37)) + x5_41)) x5_41))) := hD
                            refine lv_iinc (v := x5_41 + 1) (lv' := [(5, .int (x5_41 + 1)), (6, .int x5_41), (0, .ref za), (1, .int x), (2, .int y), (3, .int v), (4, .int x4_37)]) hx hb dX7_builds_147 hl (k := 6) rfl rfl (by decide) rfl (fun ls hl => ?_)
                            refine lv_goto (tgt := 62) hx hb dX7_builds_150 (by decide) ?_
                            exact ih40 (x5_41 + 1) (sA z_42 1 (upd (z_42 1) (Int32.toNatClampNeg ((3 + (8 * x4_37)) + x5_41)) x5_41)) _ _ _ hf hP hD hS (lv_sub hl [2, 3, 4, 5, 6, 0] rfl)
                          · have hf := ite_f c50 hf
                            refine lv_iload hx hb dX7_builds_128 (lv_at hl 6 rfl) ?_
                            refine lv_if_ne (tgt := 138) hx hb dX7_builds_130 (by decide) (fun c52 => ?_) (fun c52 => ?_)
                            · have hf := ite_f c52 hf
                              refine lv_aload_n hx hb dX7_builds_138 rfl (lv_at hl 1 rfl) ?_
                              refine va_get (D := D) (ci := 7) (v := .ref z1) (C := RX7) (T := TX7) (N := 17) hx hb hts inT7 hown hK hP 0 rfl rfl 0 (by decide) (hts _ mT_566) (fun _ h9 => h9) rfl dX7_builds_139 ?_
                              refine lv_iconst (v := 0) hx hb dX7_builds_142 (by decide) ?_
                              refine va_iald (n := 367) (f := z_42 1) hx hb hK hP 1 0 rfl rfl (ck_in (by decide)) dX7_builds_143 ?_
                              refine lv_iconst (v := 1) hx hb dX7_builds_144 (by decide) ?_
                              refine lv_isub hx hb dX7_builds_145 ?_
                              obtain ⟨b53, hf⟩ := gd_some hf
                              refine va_iast (n := 367) (f := z_42 1) hx hb hK hP hD hS 1 0 rfl rfl (ck_in b53) dX7_builds_146 (fun H locs hP hD hS => ?_)
                              have hP : va_P D vwCl (cModel cI cZ za z1 z2 z3 z4 z5 z6 z7 z8 z9 (sA z_42 1 (upd (z_42 1) (Int32.toNatClampNeg ((3 + (8 * x4_37)) + x5_41)) (((z_42 1) (Int32.toNatClampNeg 0)) - 1)))) H := hP
                              have hD : va_D A (cModel cI cZ za z1 z2 z3 z4 z5 z6 z7 z8 z9 (sA z_42 1 (upd (z_42 1) (Int32.toNatClampNeg ((3 + (8 * x4_37)) + x5_41)) (((z_42 1) (Int32.toNatClampNeg 0)) - 1)))) := hD
                              refine lv_iinc (v := x5_41 + 1) (lv' := [(5, .int (x5_41 + 1)), (6, .int x5_41), (0, .ref za), (1, .int x), (2, .int y), (3, .int v), (4, .int x4_37)]) hx hb dX7_builds_147 hl (k := 6) rfl rfl (by decide) rfl (fun ls hl => ?_)
                              refine lv_goto (tgt := 62) hx hb dX7_builds_150 (by decide) ?_
                              exact ih40 (x5_41 + 1) (sA z_42 1 (upd (z_42 1) (Int32.toNatClampNeg ((3 + (8 * x4_37)) + x5_41)) (((z_42 1) (Int32.toNatClampNeg 0)) - 1))) _ _ _ hf hP hD hS (lv_sub hl [2, 3, 4, 5, 6, 0] rfl)
                            · have hf := ite_t c52 hf
                              refine lv_iload hx hb dX7_builds_133 (lv_at hl 0 rfl) ?_
                              refine lv_goto (tgt := 146) hx hb dX7_builds_135 (by decide) ?_
                              obtain ⟨b54, hf⟩ := gd_some hf
                              refine va_iast (n := 367) (f := z_42 1) hx hb hK hP hD hS 1 0 rfl rfl (ck_in b54) dX7_builds_146 (fun H locs hP hD hS => ?_)
                              have hP : va_P D vwCl (cModel cI cZ za z1 z2 z3 z4 z5 z6 z7 z8 z9 (sA z_42 1 (upd (z_42 1) (Int32.toNatClampNeg ((3 + (8 * x4_37)) + x5_41)) x5_41))) H := hP
                              have hD : va_D A (cModel cI cZ za z1 z2 z3 z4 z5 z6 z7 z8 z9 (sA z_42 1 (upd (z_42 1) (Int32.toNatClampNeg ((3 + (8 * x4_37)) + x5_41)) x5_41))) := hD
                              refine lv_iinc (v := x5_41 + 1) (lv' := [(5, .int (x5_41 + 1)), (6, .int x5_41), (0, .ref za), (1, .int x), (2, .int y), (3, .int v), (4, .int x4_37)]) hx hb dX7_builds_147 hl (k := 6) rfl rfl (by decide) rfl (fun ls hl => ?_)
                              refine lv_goto (tgt := 62) hx hb dX7_builds_150 (by decide) ?_
                              exact ih40 (x5_41 + 1) (sA z_42 1 (upd (z_42 1) (Int32.toNatClampNeg ((3 + (8 * x4_37)) + x5_41)) x5_41)) _ _ _ hf hP hD hS (lv_sub hl [2, 3, 4, 5, 6, 0] rfl)
                    · have hf := ite_t c45 hf
                      refine lv_iload hx hb dX7_builds_104 (lv_at hl 5 rfl) ?_
                      refine lv_iload hx hb dX7_builds_106 (lv_at hl 6 rfl) ?_
                      refine lv_ior hx hb dX7_builds_108 ?_
                      refine lv_goto (tgt := 146) hx hb dX7_builds_109 (by decide) ?_
                      obtain ⟨b55, hf⟩ := gd_some hf
                      refine va_iast (n := 367) (f := z_42 1) hx hb hK hP hD hS 1 0 rfl rfl (ck_in b55) dX7_builds_146 (fun H locs hP hD hS => ?_)
                      have hP : va_P D vwCl (cModel cI cZ za z1 z2 z3 z4 z5 z6 z7 z8 z9 (sA z_42 1 (upd (z_42 1) (Int32.toNatClampNeg ((3 + (8 * x4_37)) + x5_41)) (x4_37 ||| x5_41)))) H := hP
                      have hD : va_D A (cModel cI cZ za z1 z2 z3 z4 z5 z6 z7 z8 z9 (sA z_42 1 (upd (z_42 1) (Int32.toNatClampNeg ((3 + (8 * x4_37)) + x5_41)) (x4_37 ||| x5_41)))) := hD
                      refine lv_iinc (v := x5_41 + 1) (lv' := [(5, .int (x5_41 + 1)), (6, .int x5_41), (0, .ref za), (1, .int x), (2, .int y), (3, .int v), (4, .int x4_37)]) hx hb dX7_builds_147 hl (k := 6) rfl rfl (by decide) rfl (fun ls hl => ?_)
                      refine lv_goto (tgt := 62) hx hb dX7_builds_150 (by decide) ?_
                      exact ih40 (x5_41 + 1) (sA z_42 1 (upd (z_42 1) (Int32.toNatClampNeg ((3 + (8 * x4_37)) + x5_41)) (x4_37 ||| x5_41))) _ _ _ hf hP hD hS (lv_sub hl [2, 3, 4, 5, 6, 0] rfl)
                  · have hf := ite_f c44 hf
                    refine lv_iload hx hb dX7_builds_76 (lv_at hl 4 rfl) ?_
                    refine lv_goto (tgt := 83) hx hb dX7_builds_78 (by decide) ?_
                    refine lv_istore (lv' := [(6, .int x4_37), (0, .ref za), (1, .int x), (2, .int y), (3, .int v), (4, .int x4_37), (5, .int x5_41)]) hx hb dX7_builds_83 hl (by decide) rfl (fun ls hl => ?_)
                    refine lv_aload_n hx hb dX7_builds_85 rfl (lv_at hl 1 rfl) ?_
                    refine va_get (D := D) (ci := 7) (v := .ref z1) (C := RX7) (T := TX7) (N := 17) hx hb hts inT7 hown hK hP 0 rfl rfl 0 (by decide) (hts _ mT_566) (fun _ h9 => h9) rfl dX7_builds_86 ?_
                    refine lv_iconst (v := 3) hx hb dX7_builds_89 (by decide) ?_
                    refine lv_bipush (v := 8) hx hb dX7_builds_90 (by decide) ?_
                    refine lv_iload hx hb dX7_builds_92 (lv_at hl 5 rfl) ?_
                    refine lv_imul hx hb dX7_builds_94 ?_
                    refine lv_iadd hx hb dX7_builds_95 ?_
                    refine lv_iload hx hb dX7_builds_96 (lv_at hl 6 rfl) ?_
                    refine lv_iadd hx hb dX7_builds_98 ?_
                    refine lv_iload_n hx hb dX7_builds_99 rfl (lv_at hl 2 rfl) ?_
                    refine lv_iconst (v := 2) hx hb dX7_builds_100 (by decide) ?_
                    refine lv_icmp_ne (tgt := 112) hx hb dX7_builds_101 (by decide) (fun c56 => ?_) (fun c56 => ?_)
                    · have hf := ite_f c56 hf
                      refine lv_iload_n hx hb dX7_builds_112 rfl (lv_at hl 2 rfl) ?_
                      refine lv_if_eq (tgt := 133) hx hb dX7_builds_113 (by decide) (fun c57 => ?_) (fun c57 => ?_)
                      · have hf := ite_t c57 hf
                        refine lv_iload hx hb dX7_builds_133 (lv_at hl 0 rfl) ?_
                        refine lv_goto (tgt := 146) hx hb dX7_builds_135 (by decide) ?_
                        obtain ⟨b58, hf⟩ := gd_some hf
                        refine va_iast (n := 367) (f := z_42 1) hx hb hK hP hD hS 1 0 rfl rfl (ck_in b58) dX7_builds_146 (fun H locs hP hD hS => ?_)
                        have hP : va_P D vwCl (cModel cI cZ za z1 z2 z3 z4 z5 z6 z7 z8 z9 (sA z_42 1 (upd (z_42 1) (Int32.toNatClampNeg ((3 + (8 * x4_37)) + x5_41)) x4_37))) H := hP
                        have hD : va_D A (cModel cI cZ za z1 z2 z3 z4 z5 z6 z7 z8 z9 (sA z_42 1 (upd (z_42 1) (Int32.toNatClampNeg ((3 + (8 * x4_37)) + x5_41)) x4_37))) := hD
                        refine lv_iinc (v := x5_41 + 1) (lv' := [(5, .int (x5_41 + 1)), (6, .int x4_37), (0, .ref za), (1, .int x), (2, .int y), (3, .int v), (4, .int x4_37)]) hx hb dX7_builds_147 hl (k := 6) rfl rfl (by decide) rfl (fun ls hl => ?_)
                        refine lv_goto (tgt := 62) hx hb dX7_builds_150 (by decide) ?_
                        exact ih40 (x5_41 + 1) (sA z_42 1 (upd (z_42 1) (Int32.toNatClampNeg ((3 + (8 * x4_37)) + x5_41)) x4_37)) _ _ _ hf hP hD hS (lv_sub hl [2, 3, 4, 5, 6, 0] rfl)
                      · have hf := ite_f c57 hf
                        refine lv_iload hx hb dX7_builds_116 (lv_at hl 5 rfl) ?_
                        refine lv_iload hx hb dX7_builds_118 (lv_at hl 6 rfl) ?_
                        refine lv_icmp_eq (tgt := 133) hx hb dX7_builds_120 (by decide) (fun c59 => ?_) (fun c59 => ?_)
                        · have hf := ite_t c59 hf
                          refine lv_iload hx hb dX7_builds_133 (lv_at hl 0 rfl) ?_
                          refine lv_goto (tgt := 146) hx hb dX7_builds_135 (by decide) ?_
                          obtain ⟨b60, hf⟩ := gd_some hf
                          refine va_iast (n := 367) (f := z_42 1) hx hb hK hP hD hS 1 0 rfl rfl (ck_in b60) dX7_builds_146 (fun H locs hP hD hS => ?_)
                          have hP : va_P D vwCl (cModel cI cZ za z1 z2 z3 z4 z5 z6 z7 z8 z9 (sA z_42 1 (upd (z_42 1) (Int32.toNatClampNeg ((3 + (8 * x4_37)) + x5_41)) x4_37))) H := hP
                          have hD : va_D A (cModel cI cZ za z1 z2 z3 z4 z5 z6 z7 z8 z9 (sA z_42 1 (upd (z_42 1) (Int32.toNatClampNeg ((3 + (8 * x4_37)) + x5_41)) x4_37))) := hD
                          refine lv_iinc (v := x5_41 + 1) (lv' := [(5, .int (x5_41 + 1)), (6, .int x4_37), (0, .ref za), (1, .int x), (2, .int y), (3, .int v), (4, .int x4_37)]) hx hb dX7_builds_147 hl (k := 6) rfl rfl (by decide) rfl (fun ls hl => ?_)
                          refine lv_goto (tgt := 62) hx hb dX7_builds_150 (by decide) ?_
                          exact ih40 (x5_41 + 1) (sA z_42 1 (upd (z_42 1) (Int32.toNatClampNeg ((3 + (8 * x4_37)) + x5_41)) x4_37)) _ _ _ hf hP hD hS (lv_sub hl [2, 3, 4, 5, 6, 0] rfl)
                        · have hf := ite_f c59 hf
                          refine lv_iload hx hb dX7_builds_123 (lv_at hl 5 rfl) ?_
                          refine lv_if_eq (tgt := 133) hx hb dX7_builds_125 (by decide) (fun c61 => ?_) (fun c61 => ?_)
                          · have hf := ite_t c61 hf
                            refine lv_iload hx hb dX7_builds_133 (lv_at hl 0 rfl) ?_
                            refine lv_goto (tgt := 146) hx hb dX7_builds_135 (by decide) ?_
                            obtain ⟨b62, hf⟩ := gd_some hf
                            refine va_iast (n := 367) (f := z_42 1) hx hb hK hP hD hS 1 0 rfl rfl (ck_in b62) dX7_builds_146 (fun H locs hP hD hS => ?_)
                            have hP : va_P D vwCl (cModel cI cZ za z1 z2 z3 z4 z5 z6 z7 z8 z9 (sA z_42 1 (upd (z_42 1) (Int32.toNatClampNeg ((3 + (8 * x4_37)) + x5_41)) x4_37))) H := hP
                            have hD : va_D A (cModel cI cZ za z1 z2 z3 z4 z5 z6 z7 z8 z9 (sA z_42 1 (upd (z_42 1) (Int32.toNatClampNeg ((3 + (8 * x4_37)) + x5_41)) x4_37))) := hD
                            refine lv_iinc (v := x5_41 + 1) (lv' := [(5, .int (x5_41 + 1)), (6, .int x4_37), (0, .ref za), (1, .int x), (2, .int y), (3, .int v), (4, .int x4_37)]) hx hb dX7_builds_147 hl (k := 6) rfl rfl (by decide) rfl (fun ls hl => ?_)
                            refine lv_goto (tgt := 62) hx hb dX7_builds_150 (by decide) ?_
                            exact ih40 (x5_41 + 1) (sA z_42 1 (upd (z_42 1) (Int32.toNatClampNeg ((3 + (8 * x4_37)) + x5_41)) x4_37)) _ _ _ hf hP hD hS (lv_sub hl [2, 3, 4, 5, 6, 0] rfl)
                          · have hf := ite_f c61 hf
                            refine lv_iload hx hb dX7_builds_128 (lv_at hl 6 rfl) ?_
                            refine lv_if_ne (tgt := 138) hx hb dX7_builds_130 (by decide) (fun c63 => ?_) (fun c63 => ?_)
                            · have hf := ite_f c63 hf
                              refine lv_aload_n hx hb dX7_builds_138 rfl (lv_at hl 1 rfl) ?_
                              refine va_get (D := D) (ci := 7) (v := .ref z1) (C := RX7) (T := TX7) (N := 17) hx hb hts inT7 hown hK hP 0 rfl rfl 0 (by decide) (hts _ mT_566) (fun _ h9 => h9) rfl dX7_builds_139 ?_
                              refine lv_iconst (v := 0) hx hb dX7_builds_142 (by decide) ?_
                              refine va_iald (n := 367) (f := z_42 1) hx hb hK hP 1 0 rfl rfl (ck_in (by decide)) dX7_builds_143 ?_
                              refine lv_iconst (v := 1) hx hb dX7_builds_144 (by decide) ?_
                              refine lv_isub hx hb dX7_builds_145 ?_
                              obtain ⟨b64, hf⟩ := gd_some hf
                              refine va_iast (n := 367) (f := z_42 1) hx hb hK hP hD hS 1 0 rfl rfl (ck_in b64) dX7_builds_146 (fun H locs hP hD hS => ?_)
                              have hP : va_P D vwCl (cModel cI cZ za z1 z2 z3 z4 z5 z6 z7 z8 z9 (sA z_42 1 (upd (z_42 1) (Int32.toNatClampNeg ((3 + (8 * x4_37)) + x5_41)) (((z_42 1) (Int32.toNatClampNeg 0)) - 1)))) H := hP
                              have hD : va_D A (cModel cI cZ za z1 z2 z3 z4 z5 z6 z7 z8 z9 (sA z_42 1 (upd (z_42 1) (Int32.toNatClampNeg ((3 + (8 * x4_37)) + x5_41)) (((z_42 1) (Int32.toNatClampNeg 0)) - 1)))) := hD
                              refine lv_iinc (v := x5_41 + 1) (lv' := [(5, .int (x5_41 + 1)), (6, .int x4_37), (0, .ref za), (1, .int x), (2, .int y), (3, .int v), (4, .int x4_37)]) hx hb dX7_builds_147 hl (k := 6) rfl rfl (by decide) rfl (fun ls hl => ?_)
                              refine lv_goto (tgt := 62) hx hb dX7_builds_150 (by decide) ?_
                              exact ih40 (x5_41 + 1) (sA z_42 1 (upd (z_42 1) (Int32.toNatClampNeg ((3 + (8 * x4_37)) + x5_41)) (((z_42 1) (Int32.toNatClampNeg 0)) - 1))) _ _ _ hf hP hD hS (lv_sub hl [2, 3, 4, 5, 6, 0] rfl)
                            · have hf := ite_t c63 hf
                              refine lv_iload hx hb dX7_builds_133 (lv_at hl 0 rfl) ?_
                              refine lv_goto (tgt := 146) hx hb dX7_builds_135 (by decide) ?_
                              obtain ⟨b65, hf⟩ := gd_some hf
                              refine va_iast (n := 367) (f := z_42 1) hx hb hK hP hD hS 1 0 rfl rfl (ck_in b65) dX7_builds_146 (fun H locs hP hD hS => ?_)
                              have hP : va_P D vwCl (cModel cI cZ za z1 z2 z3 z4 z5 z6 z7 z8 z9 (sA z_42 1 (upd (z_42 1) (Int32.toNatClampNeg ((3 + (8 * x4_37)) + x5_41)) x4_37))) H := hP
                              have hD : va_D A (cModel cI cZ za z1 z2 z3 z4 z5 z6 z7 z8 z9 (sA z_42 1 (upd (z_42 1) (Int32.toNatClampNeg ((3 + (8 * x4_37)) + x5_41)) x4_37))) := hD
                              refine lv_iinc (v := x5_41 + 1) (lv' := [(5, .int (x5_41 + 1)), (6, .int x4_37), (0, .ref za), (1, .int x), (2, .int y), (3, .int v), (4, .int x4_37)]) hx hb dX7_builds_147 hl (k := 6) rfl rfl (by decide) rfl (fun ls hl => ?_)
                              refine lv_goto (tgt := 62) hx hb dX7_builds_150 (by decide) ?_
                              exact ih40 (x5_41 + 1) (sA z_42 1 (upd (z_42 1) (Int32.toNatClampNeg ((3 + (8 * x4_37)) + x5_41)) x4_37)) _ _ _ hf hP hD hS (lv_sub hl [2, 3, 4, 5, 6, 0] rfl)
                    · have hf := ite_t c56 hf
                      refine lv_iload hx hb dX7_builds_104 (lv_at hl 5 rfl) ?_
                      refine lv_iload hx hb dX7_builds_106 (lv_at hl 6 rfl) ?_
                      refine lv_ior hx hb dX7_builds_108 ?_
                      refine lv_goto (tgt := 146) hx hb dX7_builds_109 (by decide) ?_
                      obtain ⟨b66, hf⟩ := gd_some hf
                      refine va_iast (n := 367) (f := z_42 1) hx hb hK hP hD hS 1 0 rfl rfl (ck_in b66) dX7_builds_146 (fun H locs hP hD hS => ?_)
                      have hP : va_P D vwCl (cModel cI cZ za z1 z2 z3 z4 z5 z6 z7 z8 z9 (sA z_42 1 (upd (z_42 1) (Int32.toNatClampNeg ((3 + (8 * x4_37)) + x5_41)) (x4_37 ||| x5_41)))) H := hP
                      have hD : va_D A (cModel cI cZ za z1 z2 z3 z4 z5 z6 z7 z8 z9 (sA z_42 1 (upd (z_42 1) (Int32.toNatClampNeg ((3 + (8 * x4_37)) + x5_41)) (x4_37 ||| x5_41)))) := hD
                      refine lv_iinc (v := x5_41 + 1) (lv' := [(5, .int (x5_41 + 1)), (6, .int x4_37), (0, .ref za), (1, .int x), (2, .int y), (3, .int v), (4, .int x4_37)]) hx hb dX7_builds_147 hl (k := 6) rfl rfl (by decide) rfl (fun ls hl => ?_)
                      refine lv_goto (tgt := 62) hx hb dX7_builds_150 (by decide) ?_
                      exact ih40 (x5_41 + 1) (sA z_42 1 (upd (z_42 1) (Int32.toNatClampNeg ((3 + (8 * x4_37)) + x5_41)) (x4_37 ||| x5_41))) _ _ _ hf hP hD hS (lv_sub hl [2, 3, 4, 5, 6, 0] rfl)
            exact lh40 10000 0 z_38 _ _ _ hf hP hD hS (lv_sub hl [1, 2, 3, 4, 5, 0] rfl)
      exact lh36 10000 0 (sA (sA z_3 1 (upd (z_3 1) (Int32.toNatClampNeg 0) 8)) 1 (upd (upd (z_3 1) (Int32.toNatClampNeg 0) 8) (Int32.toNatClampNeg 1) v)) _ _ _ hf hP hD hS (lv_sub hl [1, 2, 3, 4, 0] rfl)
  have lh1 : ∀ (fu1 : Nat) (x4_2 : Int32) (z_3 : Ob) (H : Heap) (locs : List Loc) (ls : Array Slot), lp_m_builds_3 (k_m_builds_3 x y v) fu1 x4_2 z_3 = some u → va_P D vwCl (cModel cI cZ za z1 z2 z3 z4 z5 z6 z7 z8 z9 z_3) H → va_D A (cModel cI cZ za z1 z2 z3 z4 z5 z6 z7 z8 z9 z_3) → va_S A s.heap H locs → lv_has ls 7 [(0, .ref za), (1, .int x), (2, .int y), (3, .int v), (4, .int x4_2)] → W p l e ({ frames := 0, cells := 0, slots := 0, locals := 0 } : Room) s m ([.ref za, .int x, .int y, .int v] : List Value).toArray below meth c H locs 0 0 Q (F0 m 3 ls []) := by
    intro fu1
    induction fu1 with
    | zero => intro x4_2 z_3 H locs ls hf hP hD hS hl; exact no_none hf
    | succ fu1 ih1 =>
      intro x4_2 z_3 H locs ls hf hP hD hS hl
      rw [lp_m_builds_3] at hf
      refine lv_iload hx hb dX7_builds_3 (lv_at hl 4 rfl) ?_
      refine lv_sipush (v := 367) hx hb dX7_builds_5 (by decide) ?_
      refine lv_icmp_ge (tgt := 25) hx hb dX7_builds_8 (by decide) (fun c67 => ?_) (fun c67 => ?_)
      · have hf := ite_t c67 hf
        exact kx1 x4_2 z_3 _ _ _ hf hP hD hS (lv_sub hl [0, 1, 2, 3, 4] rfl)
      · have hf := ite_f c67 hf
        refine lv_aload_n hx hb dX7_builds_11 rfl (lv_at hl 0 rfl) ?_
        refine va_get (D := D) (ci := 7) (v := .ref z1) (C := RX7) (T := TX7) (N := 17) hx hb hts inT7 hown hK hP 0 rfl rfl 0 (by decide) (hts _ mT_566) (fun _ h9 => h9) rfl dX7_builds_12 ?_
        refine lv_iload hx hb dX7_builds_15 (lv_at hl 4 rfl) ?_
        refine lv_iconst (v := 0) hx hb dX7_builds_17 (by decide) ?_
        obtain ⟨b68, hf⟩ := gd_some hf
        refine va_iast (n := 367) (f := z_3 1) hx hb hK hP hD hS 1 0 rfl rfl (ck_in b68) dX7_builds_18 (fun H locs hP hD hS => ?_)
        have hP : va_P D vwCl (cModel cI cZ za z1 z2 z3 z4 z5 z6 z7 z8 z9 (sA z_3 1 (upd (z_3 1) (Int32.toNatClampNeg x4_2) 0))) H := hP
        have hD : va_D A (cModel cI cZ za z1 z2 z3 z4 z5 z6 z7 z8 z9 (sA z_3 1 (upd (z_3 1) (Int32.toNatClampNeg x4_2) 0))) := hD
        refine lv_iinc (v := x4_2 + 1) (lv' := [(4, .int (x4_2 + 1)), (0, .ref za), (1, .int x), (2, .int y), (3, .int v)]) hx hb dX7_builds_19 hl (k := 4) rfl rfl (by decide) rfl (fun ls hl => ?_)
        refine lv_goto (tgt := 3) hx hb dX7_builds_22 (by decide) ?_
        exact ih1 (x4_2 + 1) (sA z_3 1 (upd (z_3 1) (Int32.toNatClampNeg x4_2) 0)) _ _ _ hf hP hD hS (lv_sub hl [1, 2, 3, 4, 0] rfl)
  exact lh1 10000 0 z _ _ _ hf hP hD hS (lv_sub hl [1, 2, 3, 4, 0] rfl)
theorem s_yX7_build : kMS yX7_build cX7_build 5 (some .int) 3 := ⟨mT_775, mT_59, by decide +kernel⟩
theorem v_yX7_build : kMV yX7_build := ⟨mT_773, mT_774⟩
def f_m_build (z : Ob) (x : Int32) (y : Int32) (v : Int32) : Option (Int32 × Ob) := bd (f_m_in x 0 2) (fun q1 => if q1 = 0 then (some ((-1000000002), z)) else (bd (f_m_in y 1 8) (fun q4 => if q4 = 0 then (some ((-1000000002), z)) else (bd (f_m_in v 0 10) (fun q7 => if q7 = 0 then (some ((-1000000002), z)) else (bd (f_m_notes z) (fun q10 => bd (f_m_builds q10 x y v) (fun q12 => some ((z 1) (Int32.toNatClampNeg 2), q12)))))))))
set_option maxHeartbeats 4000000 in
set_option maxRecDepth 100000 in
theorem c_m_build (l : Launch) (D : va_G) (cI cZ cR : ClassId) (za z1 z2 z3 z4 z5 z6 z7 z8 z9 : Nat) (z : Ob) (x : Int32) (y : Int32) (v : Int32) (sz : Nat) (r : Int32) (u : Ob) (hf : f_m_build z x y v = some (r, u)) : kCi l yX7_build cX7_build 5 (some .int) { frames := 1, cells := 0, slots := 0, locals := 26 } [.ref za, .int x, .int y, .int v] D cI cZ cR (cModel cI cZ za z1 z2 z3 z4 z5 z6 z7 z8 z9 z) sz (cModel cI cZ za z1 z2 z3 z4 z5 z6 z7 z8 z9 u) r := by
  refine kMwi (wf := (fun u : Ob => cModel cI cZ za z1 z2 z3 z4 z5 z6 z7 z8 z9 u)) (u := u) (by decide) (Nat.le_of_ble_eq_true rfl) ?_
  intro p e s m below meth c Q A hx hb hml hown hts hk hP hD hA hS hret ls hl
  have hS0 := hS
  have hK := hk.1
  have hl : lv_has ls 5 [(0, .ref za), (1, .int x), (2, .int y), (3, .int v)] := hl
  rw [f_m_build] at hf
  refine lv_iload_n hx hb dX7_build_0 rfl (lv_at hl 1 rfl) ?_
  refine lv_iconst (v := 0) hx hb dX7_build_1 (by decide) ?_
  refine lv_iconst (v := 2) hx hb dX7_build_2 (by decide) ?_
  obtain ⟨q1, h2, hf⟩ := bd_some hf
  refine kx_rs (As := [.int x, .int 0, .int 2]) (rest := []) hx hb hml hown hts hk hl.1 s_yX7_in mT_720 (c_m_in l D cI cZ cR x 0 2 _ h2) mT_719 rfl rfl ⟨Nat.le_of_ble_eq_true rfl, Nat.le_of_ble_eq_true rfl⟩ rfl (Nat.le_of_ble_eq_true rfl) ⟨Nat.zero_le _, Nat.zero_le _⟩ dX7_build_3 ?_
  refine lv_if_eq (tgt := 29) hx hb dX7_build_6 (by decide) (fun c3 => ?_) (fun c3 => ?_)
  · have hf := ite_t c3 hf
    refine lv_ldc (v := (-1000000002)) hx hb hown (hts _ mT_722) dX7_build_29 ?_
    exact hret _ _ _ z _ _ hf dX7_build_31 hP hD hS
  · have hf := ite_f c3 hf
    refine lv_iload_n hx hb dX7_build_9 rfl (lv_at hl 2 rfl) ?_
    refine lv_iconst (v := 1) hx hb dX7_build_10 (by decide) ?_
    refine lv_bipush (v := 8) hx hb dX7_build_11 (by decide) ?_
    obtain ⟨q4, h5, hf⟩ := bd_some hf
    refine kx_rs (As := [.int y, .int 1, .int 8]) (rest := []) hx hb hml hown hts hk hl.1 s_yX7_in mT_720 (c_m_in l D cI cZ cR y 1 8 _ h5) mT_719 rfl rfl ⟨Nat.le_of_ble_eq_true rfl, Nat.le_of_ble_eq_true rfl⟩ rfl (Nat.le_of_ble_eq_true rfl) ⟨Nat.zero_le _, Nat.zero_le _⟩ dX7_build_13 ?_
    refine lv_if_eq (tgt := 29) hx hb dX7_build_16 (by decide) (fun c6 => ?_) (fun c6 => ?_)
    · have hf := ite_t c6 hf
      refine lv_ldc (v := (-1000000002)) hx hb hown (hts _ mT_722) dX7_build_29 ?_
      exact hret _ _ _ z _ _ hf dX7_build_31 hP hD hS
    · have hf := ite_f c6 hf
      refine lv_iload_n hx hb dX7_build_19 rfl (lv_at hl 3 rfl) ?_
      refine lv_iconst (v := 0) hx hb dX7_build_20 (by decide) ?_
      refine lv_bipush (v := 10) hx hb dX7_build_21 (by decide) ?_
      obtain ⟨q7, h8, hf⟩ := bd_some hf
      refine kx_rs (As := [.int v, .int 0, .int 10]) (rest := []) hx hb hml hown hts hk hl.1 s_yX7_in mT_720 (c_m_in l D cI cZ cR v 0 10 _ h8) mT_719 rfl rfl ⟨Nat.le_of_ble_eq_true rfl, Nat.le_of_ble_eq_true rfl⟩ rfl (Nat.le_of_ble_eq_true rfl) ⟨Nat.zero_le _, Nat.zero_le _⟩ dX7_build_23 ?_
      refine lv_if_ne (tgt := 32) hx hb dX7_build_26 (by decide) (fun c9 => ?_) (fun c9 => ?_)
      · have hf := ite_f c9 hf
        refine lv_aload_n hx hb dX7_build_32 rfl (lv_at hl 0 rfl) ?_
        refine va_get (D := D) (ci := 7) (v := .ref z1) (C := RX7) (T := TX7) (N := 17) hx hb hts inT7 hown hK hP 0 rfl rfl 0 (by decide) (hts _ mT_566) (fun _ h9 => h9) rfl dX7_build_33 ?_
        refine lv_iconst (v := 2) hx hb dX7_build_36 (by decide) ?_
        refine va_iald (n := 367) (f := z 1) hx hb hK hP 1 0 rfl rfl (ck_in (by decide)) dX7_build_37 ?_
        refine lv_istore (lv' := [(4, .int ((z 1) (Int32.toNatClampNeg 2))), (0, .ref za), (1, .int x), (2, .int y), (3, .int v)]) hx hb dX7_build_38 hl (by decide) rfl (fun ls hl => ?_)
        refine lv_aload_n hx hb dX7_build_40 rfl (lv_at hl 1 rfl) ?_
        obtain ⟨q10, h11, hf⟩ := bd_some hf
        refine kx_wv (As := []) (rest := []) (wc := cModel cI cZ za z1 z2 z3 z4 z5 z6 z7 z8 z9 z) (wr := []) (wd := cModel cI cZ za z1 z2 z3 z4 z5 z6 z7 z8 z9 q10) (wn := cModel cI cZ za z1 z2 z3 z4 z5 z6 z7 z8 z9 q10) hx hb hml hown hts hk hP hD hS hA hl.1 s_yX7_notes v_yX7_notes (c_m_notes l D cI cZ cR za z1 z2 z3 z4 z5 z6 z7 z8 z9 z H.size _ h11) mT_776 rfl rfl ⟨Nat.le_of_ble_eq_true rfl, Nat.le_of_ble_eq_true rfl⟩ [0, 1, 2, 3, 4, 5, 6, 7, 8, 9] [] [0, 1, 2, 3, 4, 5, 6, 7, 8, 9] rfl rfl (by decide) (by decide) (by decide) (by decide) rfl (ci := 7) (q0 := 0) rfl rfl rfl (Nat.le_of_ble_eq_true rfl) ⟨Nat.zero_le _, Nat.zero_le _⟩ dX7_build_41 (fun H locs hP hD hS => ?_)
        refine lv_aload_n hx hb dX7_build_44 rfl (lv_at hl 1 rfl) ?_
        refine lv_iload_n hx hb dX7_build_45 rfl (lv_at hl 2 rfl) ?_
        refine lv_iload_n hx hb dX7_build_46 rfl (lv_at hl 3 rfl) ?_
        refine lv_iload_n hx hb dX7_build_47 rfl (lv_at hl 4 rfl) ?_
        obtain ⟨q12, h13, hf⟩ := bd_some hf
        refine kx_wv (As := [.int x, .int y, .int v]) (rest := []) (wc := cModel cI cZ za z1 z2 z3 z4 z5 z6 z7 z8 z9 q10) (wr := []) (wd := cModel cI cZ za z1 z2 z3 z4 z5 z6 z7 z8 z9 q12) (wn := cModel cI cZ za z1 z2 z3 z4 z5 z6 z7 z8 z9 q12) hx hb hml hown hts hk hP hD hS hA hl.1 s_yX7_builds v_yX7_builds (c_m_builds l D cI cZ cR za z1 z2 z3 z4 z5 z6 z7 z8 z9 q10 x y v H.size _ h13) mT_562 rfl rfl ⟨Nat.le_of_ble_eq_true rfl, Nat.le_of_ble_eq_true rfl⟩ [0, 1, 2, 3, 4, 5, 6, 7, 8, 9] [] [0, 1, 2, 3, 4, 5, 6, 7, 8, 9] rfl rfl (by decide) (by decide) (by decide) (by decide) rfl (ci := 7) (q0 := 0) rfl rfl rfl (Nat.le_of_ble_eq_true rfl) ⟨Nat.zero_le _, Nat.zero_le _⟩ dX7_build_48 (fun H locs hP hD hS => ?_)
        refine lv_iload hx hb dX7_build_51 (lv_at hl 0 rfl) ?_
        exact hret _ _ _ q12 _ _ hf dX7_build_53 hP hD hS
      · have hf := ite_t c9 hf
        refine lv_ldc (v := (-1000000002)) hx hb hown (hts _ mT_722) dX7_build_29 ?_
        exact hret _ _ _ z _ _ hf dX7_build_31 hP hD hS
theorem s_yX7_cell : kMS yX7_cell cX7_cell 4 (some .int) 3 := ⟨mT_783, mT_59, by decide +kernel⟩
theorem v_yX7_cell : kMV yX7_cell := ⟨mT_781, mT_782⟩
def f_m_cell (z : Ob) (x : Int32) (y : Int32) (v : Int32) : Option (Int32 × Ob) := bd (f_m_isValue z x) (fun q1 => if q1 = 0 then (some ((-1000000001), z)) else (bd (f_m_isValue z y) (fun q4 => if q4 = 0 then (some ((-1000000001), z)) else (bd (f_m_isValue z v) (fun q7 => if q7 = 0 then (some ((-1000000001), z)) else (bd (f_m_notes z) (fun q10 => gd (ck ((3 + (8 * x)) + y) 367) (bd (f_m_broken (sA q10 1 (upd (q10 1) (Int32.toNatClampNeg ((3 + (8 * x)) + y)) v))) (fun q13 => some (q13, sA q10 1 (upd (q10 1) (Int32.toNatClampNeg ((3 + (8 * x)) + y)) v)))))))))))
set_option maxHeartbeats 4000000 in
set_option maxRecDepth 100000 in
theorem c_m_cell (l : Launch) (D : va_G) (cI cZ cR : ClassId) (za z1 z2 z3 z4 z5 z6 z7 z8 z9 : Nat) (z : Ob) (x : Int32) (y : Int32) (v : Int32) (sz : Nat) (r : Int32) (u : Ob) (hf : f_m_cell z x y v = some (r, u)) : kCi l yX7_cell cX7_cell 4 (some .int) { frames := 3, cells := 0, slots := 0, locals := 69 } [.ref za, .int x, .int y, .int v] D cI cZ cR (cModel cI cZ za z1 z2 z3 z4 z5 z6 z7 z8 z9 z) sz (cModel cI cZ za z1 z2 z3 z4 z5 z6 z7 z8 z9 u) r := by
  refine kMwi (wf := (fun u : Ob => cModel cI cZ za z1 z2 z3 z4 z5 z6 z7 z8 z9 u)) (u := u) (by decide) (Nat.le_of_ble_eq_true rfl) ?_
  intro p e s m below meth c Q A hx hb hml hown hts hk hP hD hA hS hret ls hl
  have hS0 := hS
  have hK := hk.1
  have hl : lv_has ls 4 [(0, .ref za), (1, .int x), (2, .int y), (3, .int v)] := hl
  rw [f_m_cell] at hf
  refine lv_aload_n hx hb dX7_cell_0 rfl (lv_at hl 0 rfl) ?_
  refine lv_iload_n hx hb dX7_cell_1 rfl (lv_at hl 1 rfl) ?_
  obtain ⟨q1, h2, hf⟩ := bd_some hf
  refine kx_rv (As := [.int x]) (rest := []) hx hb hml hown hts hk hP hl.1 s_yX7_isValue v_yX7_isValue (c_m_isValue l D cI cZ cR za z1 z2 z3 z4 z5 z6 z7 z8 z9 z x _ h2) mT_727 rfl rfl ⟨Nat.le_of_ble_eq_true rfl, Nat.le_of_ble_eq_true rfl⟩ (ci := 7) (q0 := 0) rfl rfl rfl (Nat.le_of_ble_eq_true rfl) ⟨Nat.zero_le _, Nat.zero_le _⟩ dX7_cell_2 ?_
  refine lv_if_eq (tgt := 24) hx hb dX7_cell_5 (by decide) (fun c3 => ?_) (fun c3 => ?_)
  · have hf := ite_t c3 hf
    refine lv_ldc (v := (-1000000001)) hx hb hown (hts _ mT_731) dX7_cell_24 ?_
    exact hret _ _ _ z _ _ hf dX7_cell_26 hP hD hS
  · have hf := ite_f c3 hf
    refine lv_aload_n hx hb dX7_cell_8 rfl (lv_at hl 0 rfl) ?_
    refine lv_iload_n hx hb dX7_cell_9 rfl (lv_at hl 2 rfl) ?_
    obtain ⟨q4, h5, hf⟩ := bd_some hf
    refine kx_rv (As := [.int y]) (rest := []) hx hb hml hown hts hk hP hl.1 s_yX7_isValue v_yX7_isValue (c_m_isValue l D cI cZ cR za z1 z2 z3 z4 z5 z6 z7 z8 z9 z y _ h5) mT_727 rfl rfl ⟨Nat.le_of_ble_eq_true rfl, Nat.le_of_ble_eq_true rfl⟩ (ci := 7) (q0 := 0) rfl rfl rfl (Nat.le_of_ble_eq_true rfl) ⟨Nat.zero_le _, Nat.zero_le _⟩ dX7_cell_10 ?_
    refine lv_if_eq (tgt := 24) hx hb dX7_cell_13 (by decide) (fun c6 => ?_) (fun c6 => ?_)
    · have hf := ite_t c6 hf
      refine lv_ldc (v := (-1000000001)) hx hb hown (hts _ mT_731) dX7_cell_24 ?_
      exact hret _ _ _ z _ _ hf dX7_cell_26 hP hD hS
    · have hf := ite_f c6 hf
      refine lv_aload_n hx hb dX7_cell_16 rfl (lv_at hl 0 rfl) ?_
      refine lv_iload_n hx hb dX7_cell_17 rfl (lv_at hl 3 rfl) ?_
      obtain ⟨q7, h8, hf⟩ := bd_some hf
      refine kx_rv (As := [.int v]) (rest := []) hx hb hml hown hts hk hP hl.1 s_yX7_isValue v_yX7_isValue (c_m_isValue l D cI cZ cR za z1 z2 z3 z4 z5 z6 z7 z8 z9 z v _ h8) mT_727 rfl rfl ⟨Nat.le_of_ble_eq_true rfl, Nat.le_of_ble_eq_true rfl⟩ (ci := 7) (q0 := 0) rfl rfl rfl (Nat.le_of_ble_eq_true rfl) ⟨Nat.zero_le _, Nat.zero_le _⟩ dX7_cell_18 ?_
      refine lv_if_ne (tgt := 27) hx hb dX7_cell_21 (by decide) (fun c9 => ?_) (fun c9 => ?_)
      · have hf := ite_f c9 hf
        refine lv_aload_n hx hb dX7_cell_27 rfl (lv_at hl 0 rfl) ?_
        obtain ⟨q10, h11, hf⟩ := bd_some hf
        refine kx_wv (As := []) (rest := []) (wc := cModel cI cZ za z1 z2 z3 z4 z5 z6 z7 z8 z9 z) (wr := []) (wd := cModel cI cZ za z1 z2 z3 z4 z5 z6 z7 z8 z9 q10) (wn := cModel cI cZ za z1 z2 z3 z4 z5 z6 z7 z8 z9 q10) hx hb hml hown hts hk hP hD hS hA hl.1 s_yX7_notes v_yX7_notes (c_m_notes l D cI cZ cR za z1 z2 z3 z4 z5 z6 z7 z8 z9 z H.size _ h11) mT_776 rfl rfl ⟨Nat.le_of_ble_eq_true rfl, Nat.le_of_ble_eq_true rfl⟩ [0, 1, 2, 3, 4, 5, 6, 7, 8, 9] [] [0, 1, 2, 3, 4, 5, 6, 7, 8, 9] rfl rfl (by decide) (by decide) (by decide) (by decide) rfl (ci := 7) (q0 := 0) rfl rfl rfl (Nat.le_of_ble_eq_true rfl) ⟨Nat.zero_le _, Nat.zero_le _⟩ dX7_cell_28 (fun H locs hP hD hS => ?_)
        refine lv_aload_n hx hb dX7_cell_31 rfl (lv_at hl 0 rfl) ?_
        refine va_get (D := D) (ci := 7) (v := .ref z1) (C := RX7) (T := TX7) (N := 17) hx hb hts inT7 hown hK hP 0 rfl rfl 0 (by decide) (hts _ mT_566) (fun _ h9 => h9) rfl dX7_cell_32 ?_
        refine lv_iconst (v := 3) hx hb dX7_cell_35 (by decide) ?_
        refine lv_bipush (v := 8) hx hb dX7_cell_36 (by decide) ?_
        refine lv_iload_n hx hb dX7_cell_38 rfl (lv_at hl 1 rfl) ?_
        refine lv_imul hx hb dX7_cell_39 ?_
        refine lv_iadd hx hb dX7_cell_40 ?_
        refine lv_iload_n hx hb dX7_cell_41 rfl (lv_at hl 2 rfl) ?_
        refine lv_iadd hx hb dX7_cell_42 ?_
        refine lv_iload_n hx hb dX7_cell_43 rfl (lv_at hl 3 rfl) ?_
        obtain ⟨b12, hf⟩ := gd_some hf
        refine va_iast (n := 367) (f := q10 1) hx hb hK hP hD hS 1 0 rfl rfl (ck_in b12) dX7_cell_44 (fun H locs hP hD hS => ?_)
        have hP : va_P D vwCl (cModel cI cZ za z1 z2 z3 z4 z5 z6 z7 z8 z9 (sA q10 1 (upd (q10 1) (Int32.toNatClampNeg ((3 + (8 * x)) + y)) v))) H := hP
        have hD : va_D A (cModel cI cZ za z1 z2 z3 z4 z5 z6 z7 z8 z9 (sA q10 1 (upd (q10 1) (Int32.toNatClampNeg ((3 + (8 * x)) + y)) v))) := hD
        refine lv_aload_n hx hb dX7_cell_45 rfl (lv_at hl 0 rfl) ?_
        obtain ⟨q13, h14, hf⟩ := bd_some hf
        refine kx_rv (As := []) (rest := []) hx hb hml hown hts hk hP hl.1 s_yX7_broken v_yX7_broken (c_m_broken l D cI cZ cR za z1 z2 z3 z4 z5 z6 z7 z8 z9 (sA q10 1 (upd (q10 1) (Int32.toNatClampNeg ((3 + (8 * x)) + y)) v)) _ h14) mT_623 rfl rfl ⟨Nat.le_of_ble_eq_true rfl, Nat.le_of_ble_eq_true rfl⟩ (ci := 7) (q0 := 0) rfl rfl rfl (Nat.le_of_ble_eq_true rfl) ⟨Nat.zero_le _, Nat.zero_le _⟩ dX7_cell_46 ?_
        exact hret _ _ _ (sA q10 1 (upd (q10 1) (Int32.toNatClampNeg ((3 + (8 * x)) + y)) v)) _ _ hf dX7_cell_49 hP hD hS
      · have hf := ite_t c9 hf
        refine lv_ldc (v := (-1000000001)) hx hb hown (hts _ mT_731) dX7_cell_24 ?_
        exact hret _ _ _ z _ _ hf dX7_cell_26 hP hD hS
theorem s_yX7_start : kMS yX7_start cX7_start 4 (some .int) 3 := ⟨mT_787, mT_59, by decide +kernel⟩
theorem v_yX7_start : kMV yX7_start := ⟨mT_785, mT_786⟩
def f_m_start (z : Ob) (x : Int32) (y : Int32) (v : Int32) : Option (Int32 × Ob) := bd (f_m_isPlace z x) (fun q1 => if q1 = 0 then (some ((-1000000001), z)) else (bd (f_m_isValue z y) (fun q4 => if q4 = 0 then (some ((-1000000001), z)) else (bd (f_m_isSet v) (fun q7 => if q7 = 0 then (some ((-1000000002), z)) else (bd (f_m_notes z) (fun q10 => gd (ck (67 + x) 367) (gd (ck (77 + x) 367) (some (1, sA (sA q10 1 (upd (q10 1) (Int32.toNatClampNeg (67 + x)) y)) 1 (upd (upd (q10 1) (Int32.toNatClampNeg (67 + x)) y) (Int32.toNatClampNeg (77 + x)) v)))))))))))
set_option maxHeartbeats 4000000 in
set_option maxRecDepth 100000 in
theorem c_m_start (l : Launch) (D : va_G) (cI cZ cR : ClassId) (za z1 z2 z3 z4 z5 z6 z7 z8 z9 : Nat) (z : Ob) (x : Int32) (y : Int32) (v : Int32) (sz : Nat) (r : Int32) (u : Ob) (hf : f_m_start z x y v = some (r, u)) : kCi l yX7_start cX7_start 4 (some .int) { frames := 2, cells := 0, slots := 0, locals := 43 } [.ref za, .int x, .int y, .int v] D cI cZ cR (cModel cI cZ za z1 z2 z3 z4 z5 z6 z7 z8 z9 z) sz (cModel cI cZ za z1 z2 z3 z4 z5 z6 z7 z8 z9 u) r := by
  refine kMwi (wf := (fun u : Ob => cModel cI cZ za z1 z2 z3 z4 z5 z6 z7 z8 z9 u)) (u := u) (by decide) (Nat.le_of_ble_eq_true rfl) ?_
  intro p e s m below meth c Q A hx hb hml hown hts hk hP hD hA hS hret ls hl
  have hS0 := hS
  have hK := hk.1
  have hl : lv_has ls 4 [(0, .ref za), (1, .int x), (2, .int y), (3, .int v)] := hl
  rw [f_m_start] at hf
  refine lv_aload_n hx hb dX7_start_0 rfl (lv_at hl 0 rfl) ?_
  refine lv_iload_n hx hb dX7_start_1 rfl (lv_at hl 1 rfl) ?_
  obtain ⟨q1, h2, hf⟩ := bd_some hf
  refine kx_rv (As := [.int x]) (rest := []) hx hb hml hown hts hk hP hl.1 s_yX7_isPlace v_yX7_isPlace (c_m_isPlace l D cI cZ cR za z1 z2 z3 z4 z5 z6 z7 z8 z9 z x _ h2) mT_715 rfl rfl ⟨Nat.le_of_ble_eq_true rfl, Nat.le_of_ble_eq_true rfl⟩ (ci := 7) (q0 := 0) rfl rfl rfl (Nat.le_of_ble_eq_true rfl) ⟨Nat.zero_le _, Nat.zero_le _⟩ dX7_start_2 ?_
  refine lv_if_eq (tgt := 16) hx hb dX7_start_5 (by decide) (fun c3 => ?_) (fun c3 => ?_)
  · have hf := ite_t c3 hf
    refine lv_ldc (v := (-1000000001)) hx hb hown (hts _ mT_731) dX7_start_16 ?_
    exact hret _ _ _ z _ _ hf dX7_start_18 hP hD hS
  · have hf := ite_f c3 hf
    refine lv_aload_n hx hb dX7_start_8 rfl (lv_at hl 0 rfl) ?_
    refine lv_iload_n hx hb dX7_start_9 rfl (lv_at hl 2 rfl) ?_
    obtain ⟨q4, h5, hf⟩ := bd_some hf
    refine kx_rv (As := [.int y]) (rest := []) hx hb hml hown hts hk hP hl.1 s_yX7_isValue v_yX7_isValue (c_m_isValue l D cI cZ cR za z1 z2 z3 z4 z5 z6 z7 z8 z9 z y _ h5) mT_727 rfl rfl ⟨Nat.le_of_ble_eq_true rfl, Nat.le_of_ble_eq_true rfl⟩ (ci := 7) (q0 := 0) rfl rfl rfl (Nat.le_of_ble_eq_true rfl) ⟨Nat.zero_le _, Nat.zero_le _⟩ dX7_start_10 ?_
    refine lv_if_ne (tgt := 19) hx hb dX7_start_13 (by decide) (fun c6 => ?_) (fun c6 => ?_)
    · have hf := ite_f c6 hf
      refine lv_iload_n hx hb dX7_start_19 rfl (lv_at hl 3 rfl) ?_
      obtain ⟨q7, h8, hf⟩ := bd_some hf
      refine kx_rs (As := [.int v]) (rest := []) hx hb hml hown hts hk hl.1 s_yX7_isSet mT_789 (c_m_isSet l D cI cZ cR v _ h8) mT_788 rfl rfl ⟨Nat.le_of_ble_eq_true rfl, Nat.le_of_ble_eq_true rfl⟩ rfl (Nat.le_of_ble_eq_true rfl) ⟨Nat.zero_le _, Nat.zero_le _⟩ dX7_start_20 ?_
      refine lv_if_ne (tgt := 29) hx hb dX7_start_23 (by decide) (fun c9 => ?_) (fun c9 => ?_)
      · have hf := ite_f c9 hf
        refine lv_aload_n hx hb dX7_start_29 rfl (lv_at hl 0 rfl) ?_
        obtain ⟨q10, h11, hf⟩ := bd_some hf
        refine kx_wv (As := []) (rest := []) (wc := cModel cI cZ za z1 z2 z3 z4 z5 z6 z7 z8 z9 z) (wr := []) (wd := cModel cI cZ za z1 z2 z3 z4 z5 z6 z7 z8 z9 q10) (wn := cModel cI cZ za z1 z2 z3 z4 z5 z6 z7 z8 z9 q10) hx hb hml hown hts hk hP hD hS hA hl.1 s_yX7_notes v_yX7_notes (c_m_notes l D cI cZ cR za z1 z2 z3 z4 z5 z6 z7 z8 z9 z H.size _ h11) mT_776 rfl rfl ⟨Nat.le_of_ble_eq_true rfl, Nat.le_of_ble_eq_true rfl⟩ [0, 1, 2, 3, 4, 5, 6, 7, 8, 9] [] [0, 1, 2, 3, 4, 5, 6, 7, 8, 9] rfl rfl (by decide) (by decide) (by decide) (by decide) rfl (ci := 7) (q0 := 0) rfl rfl rfl (Nat.le_of_ble_eq_true rfl) ⟨Nat.zero_le _, Nat.zero_le _⟩ dX7_start_30 (fun H locs hP hD hS => ?_)
        refine lv_aload_n hx hb dX7_start_33 rfl (lv_at hl 0 rfl) ?_
        refine va_get (D := D) (ci := 7) (v := .ref z1) (C := RX7) (T := TX7) (N := 17) hx hb hts inT7 hown hK hP 0 rfl rfl 0 (by decide) (hts _ mT_566) (fun _ h9 => h9) rfl dX7_start_34 ?_
        refine lv_bipush (v := 67) hx hb dX7_start_37 (by decide) ?_
        refine lv_iload_n hx hb dX7_start_39 rfl (lv_at hl 1 rfl) ?_
        refine lv_iadd hx hb dX7_start_40 ?_
        refine lv_iload_n hx hb dX7_start_41 rfl (lv_at hl 2 rfl) ?_
        obtain ⟨b12, hf⟩ := gd_some hf
        refine va_iast (n := 367) (f := q10 1) hx hb hK hP hD hS 1 0 rfl rfl (ck_in b12) dX7_start_42 (fun H locs hP hD hS => ?_)
        have hP : va_P D vwCl (cModel cI cZ za z1 z2 z3 z4 z5 z6 z7 z8 z9 (sA q10 1 (upd (q10 1) (Int32.toNatClampNeg (67 + x)) y))) H := hP
        have hD : va_D A (cModel cI cZ za z1 z2 z3 z4 z5 z6 z7 z8 z9 (sA q10 1 (upd (q10 1) (Int32.toNatClampNeg (67 + x)) y))) := hD
        refine lv_aload_n hx hb dX7_start_43 rfl (lv_at hl 0 rfl) ?_
        refine va_get (D := D) (ci := 7) (v := .ref z1) (C := RX7) (T := TX7) (N := 17) hx hb hts inT7 hown hK hP 0 rfl rfl 0 (by decide) (hts _ mT_566) (fun _ h9 => h9) rfl dX7_start_44 ?_
        refine lv_bipush (v := 77) hx hb dX7_start_47 (by decide) ?_
        refine lv_iload_n hx hb dX7_start_49 rfl (lv_at hl 1 rfl) ?_
        refine lv_iadd hx hb dX7_start_50 ?_
        refine lv_iload_n hx hb dX7_start_51 rfl (lv_at hl 3 rfl) ?_
        obtain ⟨b13, hf⟩ := gd_some hf
        refine va_iast (n := 367) (f := upd (q10 1) (Int32.toNatClampNeg (67 + x)) y) hx hb hK hP hD hS 1 0 rfl rfl (ck_in b13) dX7_start_52 (fun H locs hP hD hS => ?_)
        have hP : va_P D vwCl (cModel cI cZ za z1 z2 z3 z4 z5 z6 z7 z8 z9 (sA (sA q10 1 (upd (q10 1) (Int32.toNatClampNeg (67 + x)) y)) 1 (upd (upd (q10 1) (Int32.toNatClampNeg (67 + x)) y) (Int32.toNatClampNeg (77 + x)) v))) H := hP
        have hD : va_D A (cModel cI cZ za z1 z2 z3 z4 z5 z6 z7 z8 z9 (sA (sA q10 1 (upd (q10 1) (Int32.toNatClampNeg (67 + x)) y)) 1 (upd (upd (q10 1) (Int32.toNatClampNeg (67 + x)) y) (Int32.toNatClampNeg (77 + x)) v))) := hD
        refine lv_iconst (v := 1) hx hb dX7_start_53 (by decide) ?_
        exact hret _ _ _ (sA (sA q10 1 (upd (q10 1) (Int32.toNatClampNeg (67 + x)) y)) 1 (upd (upd (q10 1) (Int32.toNatClampNeg (67 + x)) y) (Int32.toNatClampNeg (77 + x)) v)) _ _ hf dX7_start_54 hP hD hS
      · have hf := ite_t c9 hf
        refine lv_ldc (v := (-1000000002)) hx hb hown (hts _ mT_722) dX7_start_26 ?_
        exact hret _ _ _ z _ _ hf dX7_start_28 hP hD hS
    · have hf := ite_t c6 hf
      refine lv_ldc (v := (-1000000001)) hx hb hown (hts _ mT_731) dX7_start_16 ?_
      exact hret _ _ _ z _ _ hf dX7_start_18 hP hD hS
theorem s_yX7_comes : kMS yX7_comes cX7_comes 8 none 5 := ⟨mT_799, mT_59, by decide +kernel⟩
theorem v_yX7_comes : kMV yX7_comes := ⟨mT_798, mT_48⟩
def k_m_comes_69 (x7_7 : Int32) (z_8 : Ob) : Option Ob := some (sA z_8 1 (upd (z_8 1) (Int32.toNatClampNeg 2) (((z_8 1) (Int32.toNatClampNeg 2)) + 1)))
def lp_m_comes_69 (z : Ob) (kk0 : Int32 → Ob → Option Ob) : Nat → Int32 → Ob → Option Ob
  | 0, _, _ => none
  | fu6 + 1, x7_7, z_8 => if 8 ≤ x7_7 then (kk0 x7_7 z_8) else (gd (ck (((107 + (13 * ((z 1) (Int32.toNatClampNeg 2)))) + 5) + x7_7) 367) ((lp_m_comes_69 z kk0 fu6) (x7_7 + 1) (sA z_8 1 (upd (z_8 1) (Int32.toNatClampNeg (((107 + (13 * ((z 1) (Int32.toNatClampNeg 2)))) + 5) + x7_7)) x7_7))))
def f_m_comes (z : Ob) (x : Int32) (y : Int32) (v : Int32) (u1 : Int32) (u2 : Int32) : Option Ob := gd (ck ((107 + (13 * ((z 1) (Int32.toNatClampNeg 2)))) + 0) 367) (gd (ck ((107 + (13 * ((z 1) (Int32.toNatClampNeg 2)))) + 1) 367) (gd (ck ((107 + (13 * ((z 1) (Int32.toNatClampNeg 2)))) + 2) 367) (gd (ck ((107 + (13 * ((z 1) (Int32.toNatClampNeg 2)))) + 3) 367) (gd (ck ((107 + (13 * ((z 1) (Int32.toNatClampNeg 2)))) + 4) 367) (lp_m_comes_69 z k_m_comes_69 10000 0 (sA (sA (sA (sA (sA z 1 (upd (z 1) (Int32.toNatClampNeg ((107 + (13 * ((z 1) (Int32.toNatClampNeg 2)))) + 0)) x)) 1 (upd (upd (z 1) (Int32.toNatClampNeg ((107 + (13 * ((z 1) (Int32.toNatClampNeg 2)))) + 0)) x) (Int32.toNatClampNeg ((107 + (13 * ((z 1) (Int32.toNatClampNeg 2)))) + 1)) y)) 1 (upd (upd (upd (z 1) (Int32.toNatClampNeg ((107 + (13 * ((z 1) (Int32.toNatClampNeg 2)))) + 0)) x) (Int32.toNatClampNeg ((107 + (13 * ((z 1) (Int32.toNatClampNeg 2)))) + 1)) y) (Int32.toNatClampNeg ((107 + (13 * ((z 1) (Int32.toNatClampNeg 2)))) + 2)) v)) 1 (upd (upd (upd (upd (z 1) (Int32.toNatClampNeg ((107 + (13 * ((z 1) (Int32.toNatClampNeg 2)))) + 0)) x) (Int32.toNatClampNeg ((107 + (13 * ((z 1) (Int32.toNatClampNeg 2)))) + 1)) y) (Int32.toNatClampNeg ((107 + (13 * ((z 1) (Int32.toNatClampNeg 2)))) + 2)) v) (Int32.toNatClampNeg ((107 + (13 * ((z 1) (Int32.toNatClampNeg 2)))) + 3)) u1)) 1 (upd (upd (upd (upd (upd (z 1) (Int32.toNatClampNeg ((107 + (13 * ((z 1) (Int32.toNatClampNeg 2)))) + 0)) x) (Int32.toNatClampNeg ((107 + (13 * ((z 1) (Int32.toNatClampNeg 2)))) + 1)) y) (Int32.toNatClampNeg ((107 + (13 * ((z 1) (Int32.toNatClampNeg 2)))) + 2)) v) (Int32.toNatClampNeg ((107 + (13 * ((z 1) (Int32.toNatClampNeg 2)))) + 3)) u1) (Int32.toNatClampNeg ((107 + (13 * ((z 1) (Int32.toNatClampNeg 2)))) + 4)) u2)))))))
set_option maxHeartbeats 4000000 in
set_option maxRecDepth 100000 in
theorem c_m_comes (l : Launch) (D : va_G) (cI cZ cR : ClassId) (za z1 z2 z3 z4 z5 z6 z7 z8 z9 : Nat) (z : Ob) (x : Int32) (y : Int32) (v : Int32) (u1 : Int32) (u2 : Int32) (sz : Nat) (u : Ob) (hf : f_m_comes z x y v u1 u2 = some u) : kCv l yX7_comes cX7_comes 8 none { frames := 0, cells := 0, slots := 0, locals := 0 } [.ref za, .int x, .int y, .int v, .int u1, .int u2] D cI cZ cR (cModel cI cZ za z1 z2 z3 z4 z5 z6 z7 z8 z9 z) sz (cModel cI cZ za z1 z2 z3 z4 z5 z6 z7 z8 z9 u) := by
  refine kMwv (wf := (fun u : Ob => cModel cI cZ za z1 z2 z3 z4 z5 z6 z7 z8 z9 u)) (u := u) (by decide) (Nat.le_of_ble_eq_true rfl) ?_
  intro p e s m below meth c Q A hx hb hml hown hts hk hP hD hA hS hret ls hl
  have hS0 := hS
  have hK := hk.1
  have hl : lv_has ls 8 [(0, .ref za), (1, .int x), (2, .int y), (3, .int v), (4, .int u1), (5, .int u2)] := hl
  rw [f_m_comes] at hf
  refine lv_bipush (v := 107) hx hb dX7_comes_0 (by decide) ?_
  refine lv_bipush (v := 13) hx hb dX7_comes_2 (by decide) ?_
  refine lv_aload_n hx hb dX7_comes_4 rfl (lv_at hl 0 rfl) ?_
  refine va_get (D := D) (ci := 7) (v := .ref z1) (C := RX7) (T := TX7) (N := 17) hx hb hts inT7 hown hK hP 0 rfl rfl 0 (by decide) (hts _ mT_566) (fun _ h9 => h9) rfl dX7_comes_5 ?_
  refine lv_iconst (v := 2) hx hb dX7_comes_8 (by decide) ?_
  refine va_iald (n := 367) (f := z 1) hx hb hK hP 1 0 rfl rfl (ck_in (by decide)) dX7_comes_9 ?_
  refine lv_imul hx hb dX7_comes_10 ?_
  refine lv_iadd hx hb dX7_comes_11 ?_
  refine lv_istore (lv' := [(6, .int (107 + (13 * ((z 1) (Int32.toNatClampNeg 2))))), (0, .ref za), (1, .int x), (2, .int y), (3, .int v), (4, .int u1), (5, .int u2)]) hx hb dX7_comes_12 hl (by decide) rfl (fun ls hl => ?_)
  refine lv_aload_n hx hb dX7_comes_14 rfl (lv_at hl 1 rfl) ?_
  refine va_get (D := D) (ci := 7) (v := .ref z1) (C := RX7) (T := TX7) (N := 17) hx hb hts inT7 hown hK hP 0 rfl rfl 0 (by decide) (hts _ mT_566) (fun _ h9 => h9) rfl dX7_comes_15 ?_
  refine lv_iload hx hb dX7_comes_18 (lv_at hl 0 rfl) ?_
  refine lv_iconst (v := 0) hx hb dX7_comes_20 (by decide) ?_
  refine lv_iadd hx hb dX7_comes_21 ?_
  refine lv_iload_n hx hb dX7_comes_22 rfl (lv_at hl 2 rfl) ?_
  obtain ⟨b1, hf⟩ := gd_some hf
  refine va_iast (n := 367) (f := z 1) hx hb hK hP hD hS 1 0 rfl rfl (ck_in b1) dX7_comes_23 (fun H locs hP hD hS => ?_)
  have hP : va_P D vwCl (cModel cI cZ za z1 z2 z3 z4 z5 z6 z7 z8 z9 (sA z 1 (upd (z 1) (Int32.toNatClampNeg ((107 + (13 * ((z 1) (Int32.toNatClampNeg 2)))) + 0)) x))) H := hP
  have hD : va_D A (cModel cI cZ za z1 z2 z3 z4 z5 z6 z7 z8 z9 (sA z 1 (upd (z 1) (Int32.toNatClampNeg ((107 + (13 * ((z 1) (Int32.toNatClampNeg 2)))) + 0)) x))) := hD
  refine lv_aload_n hx hb dX7_comes_24 rfl (lv_at hl 1 rfl) ?_
  refine va_get (D := D) (ci := 7) (v := .ref z1) (C := RX7) (T := TX7) (N := 17) hx hb hts inT7 hown hK hP 0 rfl rfl 0 (by decide) (hts _ mT_566) (fun _ h9 => h9) rfl dX7_comes_25 ?_
  refine lv_iload hx hb dX7_comes_28 (lv_at hl 0 rfl) ?_
  refine lv_iconst (v := 1) hx hb dX7_comes_30 (by decide) ?_
  refine lv_iadd hx hb dX7_comes_31 ?_
  refine lv_iload_n hx hb dX7_comes_32 rfl (lv_at hl 3 rfl) ?_
  obtain ⟨b2, hf⟩ := gd_some hf
  refine va_iast (n := 367) (f := upd (z 1) (Int32.toNatClampNeg ((107 + (13 * ((z 1) (Int32.toNatClampNeg 2)))) + 0)) x) hx hb hK hP hD hS 1 0 rfl rfl (ck_in b2) dX7_comes_33 (fun H locs hP hD hS => ?_)
  have hP : va_P D vwCl (cModel cI cZ za z1 z2 z3 z4 z5 z6 z7 z8 z9 (sA (sA z 1 (upd (z 1) (Int32.toNatClampNeg ((107 + (13 * ((z 1) (Int32.toNatClampNeg 2)))) + 0)) x)) 1 (upd (upd (z 1) (Int32.toNatClampNeg ((107 + (13 * ((z 1) (Int32.toNatClampNeg 2)))) + 0)) x) (Int32.toNatClampNeg ((107 + (13 * ((z 1) (Int32.toNatClampNeg 2)))) + 1)) y))) H := hP
  have hD : va_D A (cModel cI cZ za z1 z2 z3 z4 z5 z6 z7 z8 z9 (sA (sA z 1 (upd (z 1) (Int32.toNatClampNeg ((107 + (13 * ((z 1) (Int32.toNatClampNeg 2)))) + 0)) x)) 1 (upd (upd (z 1) (Int32.toNatClampNeg ((107 + (13 * ((z 1) (Int32.toNatClampNeg 2)))) + 0)) x) (Int32.toNatClampNeg ((107 + (13 * ((z 1) (Int32.toNatClampNeg 2)))) + 1)) y))) := hD
  refine lv_aload_n hx hb dX7_comes_34 rfl (lv_at hl 1 rfl) ?_
  refine va_get (D := D) (ci := 7) (v := .ref z1) (C := RX7) (T := TX7) (N := 17) hx hb hts inT7 hown hK hP 0 rfl rfl 0 (by decide) (hts _ mT_566) (fun _ h9 => h9) rfl dX7_comes_35 ?_
  refine lv_iload hx hb dX7_comes_38 (lv_at hl 0 rfl) ?_
  refine lv_iconst (v := 2) hx hb dX7_comes_40 (by decide) ?_
  refine lv_iadd hx hb dX7_comes_41 ?_
  refine lv_iload_n hx hb dX7_comes_42 rfl (lv_at hl 4 rfl) ?_
  obtain ⟨b3, hf⟩ := gd_some hf
  refine va_iast (n := 367) (f := upd (upd (z 1) (Int32.toNatClampNeg ((107 + (13 * ((z 1) (Int32.toNatClampNeg 2)))) + 0)) x) (Int32.toNatClampNeg ((107 + (13 * ((z 1) (Int32.toNatClampNeg 2)))) + 1)) y) hx hb hK hP hD hS 1 0 rfl rfl (ck_in b3) dX7_comes_43 (fun H locs hP hD hS => ?_)
  have hP : va_P D vwCl (cModel cI cZ za z1 z2 z3 z4 z5 z6 z7 z8 z9 (sA (sA (sA z 1 (upd (z 1) (Int32.toNatClampNeg ((107 + (13 * ((z 1) (Int32.toNatClampNeg 2)))) + 0)) x)) 1 (upd (upd (z 1) (Int32.toNatClampNeg ((107 + (13 * ((z 1) (Int32.toNatClampNeg 2)))) + 0)) x) (Int32.toNatClampNeg ((107 + (13 * ((z 1) (Int32.toNatClampNeg 2)))) + 1)) y)) 1 (upd (upd (upd (z 1) (Int32.toNatClampNeg ((107 + (13 * ((z 1) (Int32.toNatClampNeg 2)))) + 0)) x) (Int32.toNatClampNeg ((107 + (13 * ((z 1) (Int32.toNatClampNeg 2)))) + 1)) y) (Int32.toNatClampNeg ((107 + (13 * ((z 1) (Int32.toNatClampNeg 2)))) + 2)) v))) H := hP
  have hD : va_D A (cModel cI cZ za z1 z2 z3 z4 z5 z6 z7 z8 z9 (sA (sA (sA z 1 (upd (z 1) (Int32.toNatClampNeg ((107 + (13 * ((z 1) (Int32.toNatClampNeg 2)))) + 0)) x)) 1 (upd (upd (z 1) (Int32.toNatClampNeg ((107 + (13 * ((z 1) (Int32.toNatClampNeg 2)))) + 0)) x) (Int32.toNatClampNeg ((107 + (13 * ((z 1) (Int32.toNatClampNeg 2)))) + 1)) y)) 1 (upd (upd (upd (z 1) (Int32.toNatClampNeg ((107 + (13 * ((z 1) (Int32.toNatClampNeg 2)))) + 0)) x) (Int32.toNatClampNeg ((107 + (13 * ((z 1) (Int32.toNatClampNeg 2)))) + 1)) y) (Int32.toNatClampNeg ((107 + (13 * ((z 1) (Int32.toNatClampNeg 2)))) + 2)) v))) := hD
  refine lv_aload_n hx hb dX7_comes_44 rfl (lv_at hl 1 rfl) ?_
  refine va_get (D := D) (ci := 7) (v := .ref z1) (C := RX7) (T := TX7) (N := 17) hx hb hts inT7 hown hK hP 0 rfl rfl 0 (by decide) (hts _ mT_566) (fun _ h9 => h9) rfl dX7_comes_45 ?_
  refine lv_iload hx hb dX7_comes_48 (lv_at hl 0 rfl) ?_
  refine lv_iconst (v := 3) hx hb dX7_comes_50 (by decide) ?_
  refine lv_iadd hx hb dX7_comes_51 ?_
  refine lv_iload hx hb dX7_comes_52 (lv_at hl 5 rfl) ?_
  obtain ⟨b4, hf⟩ := gd_some hf
  refine va_iast (n := 367) (f := upd (upd (upd (z 1) (Int32.toNatClampNeg ((107 + (13 * ((z 1) (Int32.toNatClampNeg 2)))) + 0)) x) (Int32.toNatClampNeg ((107 + (13 * ((z 1) (Int32.toNatClampNeg 2)))) + 1)) y) (Int32.toNatClampNeg ((107 + (13 * ((z 1) (Int32.toNatClampNeg 2)))) + 2)) v) hx hb hK hP hD hS 1 0 rfl rfl (ck_in b4) dX7_comes_54 (fun H locs hP hD hS => ?_)
  have hP : va_P D vwCl (cModel cI cZ za z1 z2 z3 z4 z5 z6 z7 z8 z9 (sA (sA (sA (sA z 1 (upd (z 1) (Int32.toNatClampNeg ((107 + (13 * ((z 1) (Int32.toNatClampNeg 2)))) + 0)) x)) 1 (upd (upd (z 1) (Int32.toNatClampNeg ((107 + (13 * ((z 1) (Int32.toNatClampNeg 2)))) + 0)) x) (Int32.toNatClampNeg ((107 + (13 * ((z 1) (Int32.toNatClampNeg 2)))) + 1)) y)) 1 (upd (upd (upd (z 1) (Int32.toNatClampNeg ((107 + (13 * ((z 1) (Int32.toNatClampNeg 2)))) + 0)) x) (Int32.toNatClampNeg ((107 + (13 * ((z 1) (Int32.toNatClampNeg 2)))) + 1)) y) (Int32.toNatClampNeg ((107 + (13 * ((z 1) (Int32.toNatClampNeg 2)))) + 2)) v)) 1 (upd (upd (upd (upd (z 1) (Int32.toNatClampNeg ((107 + (13 * ((z 1) (Int32.toNatClampNeg 2)))) + 0)) x) (Int32.toNatClampNeg ((107 + (13 * ((z 1) (Int32.toNatClampNeg 2)))) + 1)) y) (Int32.toNatClampNeg ((107 + (13 * ((z 1) (Int32.toNatClampNeg 2)))) + 2)) v) (Int32.toNatClampNeg ((107 + (13 * ((z 1) (Int32.toNatClampNeg 2)))) + 3)) u1))) H := hP
  have hD : va_D A (cModel cI cZ za z1 z2 z3 z4 z5 z6 z7 z8 z9 (sA (sA (sA (sA z 1 (upd (z 1) (Int32.toNatClampNeg ((107 + (13 * ((z 1) (Int32.toNatClampNeg 2)))) + 0)) x)) 1 (upd (upd (z 1) (Int32.toNatClampNeg ((107 + (13 * ((z 1) (Int32.toNatClampNeg 2)))) + 0)) x) (Int32.toNatClampNeg ((107 + (13 * ((z 1) (Int32.toNatClampNeg 2)))) + 1)) y)) 1 (upd (upd (upd (z 1) (Int32.toNatClampNeg ((107 + (13 * ((z 1) (Int32.toNatClampNeg 2)))) + 0)) x) (Int32.toNatClampNeg ((107 + (13 * ((z 1) (Int32.toNatClampNeg 2)))) + 1)) y) (Int32.toNatClampNeg ((107 + (13 * ((z 1) (Int32.toNatClampNeg 2)))) + 2)) v)) 1 (upd (upd (upd (upd (z 1) (Int32.toNatClampNeg ((107 + (13 * ((z 1) (Int32.toNatClampNeg 2)))) + 0)) x) (Int32.toNatClampNeg ((107 + (13 * ((z 1) (Int32.toNatClampNeg 2)))) + 1)) y) (Int32.toNatClampNeg ((107 + (13 * ((z 1) (Int32.toNatClampNeg 2)))) + 2)) v) (Int32.toNatClampNeg ((107 + (13 * ((z 1) (Int32.toNatClampNeg 2)))) + 3)) u1))) := hD
  refine lv_aload_n hx hb dX7_comes_55 rfl (lv_at hl 1 rfl) ?_
  refine va_get (D := D) (ci := 7) (v := .ref z1) (C := RX7) (T := TX7) (N := 17) hx hb hts inT7 hown hK hP 0 rfl rfl 0 (by decide) (hts _ mT_566) (fun _ h9 => h9) rfl dX7_comes_56 ?_
  refine lv_iload hx hb dX7_comes_59 (lv_at hl 0 rfl) ?_
  refine lv_iconst (v := 4) hx hb dX7_comes_61 (by decide) ?_
  refine lv_iadd hx hb dX7_comes_62 ?_
  refine lv_iload hx hb dX7_comes_63 (lv_at hl 6 rfl) ?_
  obtain ⟨b5, hf⟩ := gd_some hf
  refine va_iast (n := 367) (f := upd (upd (upd (upd (z 1) (Int32.toNatClampNeg ((107 + (13 * ((z 1) (Int32.toNatClampNeg 2)))) + 0)) x) (Int32.toNatClampNeg ((107 + (13 * ((z 1) (Int32.toNatClampNeg 2)))) + 1)) y) (Int32.toNatClampNeg ((107 + (13 * ((z 1) (Int32.toNatClampNeg 2)))) + 2)) v) (Int32.toNatClampNeg ((107 + (13 * ((z 1) (Int32.toNatClampNeg 2)))) + 3)) u1) hx hb hK hP hD hS 1 0 rfl rfl (ck_in b5) dX7_comes_65 (fun H locs hP hD hS => ?_)
  have hP : va_P D vwCl (cModel cI cZ za z1 z2 z3 z4 z5 z6 z7 z8 z9 (sA (sA (sA (sA (sA z 1 (upd (z 1) (Int32.toNatClampNeg ((107 + (13 * ((z 1) (Int32.toNatClampNeg 2)))) + 0)) x)) 1 (upd (upd (z 1) (Int32.toNatClampNeg ((107 + (13 * ((z 1) (Int32.toNatClampNeg 2)))) + 0)) x) (Int32.toNatClampNeg ((107 + (13 * ((z 1) (Int32.toNatClampNeg 2)))) + 1)) y)) 1 (upd (upd (upd (z 1) (Int32.toNatClampNeg ((107 + (13 * ((z 1) (Int32.toNatClampNeg 2)))) + 0)) x) (Int32.toNatClampNeg ((107 + (13 * ((z 1) (Int32.toNatClampNeg 2)))) + 1)) y) (Int32.toNatClampNeg ((107 + (13 * ((z 1) (Int32.toNatClampNeg 2)))) + 2)) v)) 1 (upd (upd (upd (upd (z 1) (Int32.toNatClampNeg ((107 + (13 * ((z 1) (Int32.toNatClampNeg 2)))) + 0)) x) (Int32.toNatClampNeg ((107 + (13 * ((z 1) (Int32.toNatClampNeg 2)))) + 1)) y) (Int32.toNatClampNeg ((107 + (13 * ((z 1) (Int32.toNatClampNeg 2)))) + 2)) v) (Int32.toNatClampNeg ((107 + (13 * ((z 1) (Int32.toNatClampNeg 2)))) + 3)) u1)) 1 (upd (upd (upd (upd (upd (z 1) (Int32.toNatClampNeg ((107 + (13 * ((z 1) (Int32.toNatClampNeg 2)))) + 0)) x) (Int32.toNatClampNeg ((107 + (13 * ((z 1) (Int32.toNatClampNeg 2)))) + 1)) y) (Int32.toNatClampNeg ((107 + (13 * ((z 1) (Int32.toNatClampNeg 2)))) + 2)) v) (Int32.toNatClampNeg ((107 + (13 * ((z 1) (Int32.toNatClampNeg 2)))) + 3)) u1) (Int32.toNatClampNeg ((107 + (13 * ((z 1) (Int32.toNatClampNeg 2)))) + 4)) u2))) H := hP
  have hD : va_D A (cModel cI cZ za z1 z2 z3 z4 z5 z6 z7 z8 z9 (sA (sA (sA (sA (sA z 1 (upd (z 1) (Int32.toNatClampNeg ((107 + (13 * ((z 1) (Int32.toNatClampNeg 2)))) + 0)) x)) 1 (upd (upd (z 1) (Int32.toNatClampNeg ((107 + (13 * ((z 1) (Int32.toNatClampNeg 2)))) + 0)) x) (Int32.toNatClampNeg ((107 + (13 * ((z 1) (Int32.toNatClampNeg 2)))) + 1)) y)) 1 (upd (upd (upd (z 1) (Int32.toNatClampNeg ((107 + (13 * ((z 1) (Int32.toNatClampNeg 2)))) + 0)) x) (Int32.toNatClampNeg ((107 + (13 * ((z 1) (Int32.toNatClampNeg 2)))) + 1)) y) (Int32.toNatClampNeg ((107 + (13 * ((z 1) (Int32.toNatClampNeg 2)))) + 2)) v)) 1 (upd (upd (upd (upd (z 1) (Int32.toNatClampNeg ((107 + (13 * ((z 1) (Int32.toNatClampNeg 2)))) + 0)) x) (Int32.toNatClampNeg ((107 + (13 * ((z 1) (Int32.toNatClampNeg 2)))) + 1)) y) (Int32.toNatClampNeg ((107 + (13 * ((z 1) (Int32.toNatClampNeg 2)))) + 2)) v) (Int32.toNatClampNeg ((107 + (13 * ((z 1) (Int32.toNatClampNeg 2)))) + 3)) u1)) 1 (upd (upd (upd (upd (upd (z 1) (Int32.toNatClampNeg ((107 + (13 * ((z 1) (Int32.toNatClampNeg 2)))) + 0)) x) (Int32.toNatClampNeg ((107 + (13 * ((z 1) (Int32.toNatClampNeg 2)))) + 1)) y) (Int32.toNatClampNeg ((107 + (13 * ((z 1) (Int32.toNatClampNeg 2)))) + 2)) v) (Int32.toNatClampNeg ((107 + (13 * ((z 1) (Int32.toNatClampNeg 2)))) + 3)) u1) (Int32.toNatClampNeg ((107 + (13 * ((z 1) (Int32.toNatClampNeg 2)))) + 4)) u2))) := hD
  refine lv_iconst (v := 0) hx hb dX7_comes_66 (by decide) ?_
  refine lv_istore (lv' := [(7, .int 0), (6, .int (107 + (13 * ((z 1) (Int32.toNatClampNeg 2))))), (0, .ref za), (1, .int x), (2, .int y), (3, .int v), (4, .int u1), (5, .int u2)]) hx hb dX7_comes_67 hl (by decide) rfl (fun ls hl => ?_)
  have kx6 : ∀ (x7_7 : Int32) (z_8 : Ob) (H : Heap) (locs : List Loc) (ls : Array Slot), k_m_comes_69 x7_7 z_8 = some u → va_P D vwCl (cModel cI cZ za z1 z2 z3 z4 z5 z6 z7 z8 z9 z_8) H → va_D A (cModel cI cZ za z1 z2 z3 z4 z5 z6 z7 z8 z9 z_8) → va_S A s.heap H locs → lv_has ls 8 [(0, .ref za), (1, .int x), (2, .int y), (3, .int v), (4, .int u1), (5, .int u2), (6, .int (107 + (13 * ((z 1) (Int32.toNatClampNeg 2))))), (7, .int x7_7)] → W p l e ({ frames := 0, cells := 0, slots := 0, locals := 0 } : Room) s m ([.ref za, .int x, .int y, .int v, .int u1, .int u2] : List Value).toArray below meth c H locs 0 0 Q (F0 m 96 ls []) := by
    intro x7_7 z_8 H locs ls hf hP hD hS hl
    rw [k_m_comes_69] at hf
    refine lv_aload_n hx hb dX7_comes_96 rfl (lv_at hl 0 rfl) ?_
    refine va_get (D := D) (ci := 7) (v := .ref z1) (C := RX7) (T := TX7) (N := 17) hx hb hts inT7 hown hK hP 0 rfl rfl 0 (by decide) (hts _ mT_566) (fun _ h9 => h9) rfl dX7_comes_97 ?_
    refine lv_iconst (v := 2) hx hb dX7_comes_100 (by decide) ?_
    refine lv_dup2_11 hx hb dX7_comes_101 rfl rfl ?_
    refine va_iald (n := 367) (f := z_8 1) hx hb hK hP 1 0 rfl rfl (ck_in (by decide)) dX7_comes_102 ?_
    refine lv_iconst (v := 1) hx hb dX7_comes_103 (by decide) ?_
    refine lv_iadd hx hb dX7_comes_104 ?_
    refine va_iast (n := 367) (f := z_8 1) hx hb hK hP hD hS 1 0 rfl rfl (ck_in (by decide)) dX7_comes_105 (fun H locs hP hD hS => ?_)
    have hP : va_P D vwCl (cModel cI cZ za z1 z2 z3 z4 z5 z6 z7 z8 z9 (sA z_8 1 (upd (z_8 1) (Int32.toNatClampNeg 2) (((z_8 1) (Int32.toNatClampNeg 2)) + 1)))) H := hP
    have hD : va_D A (cModel cI cZ za z1 z2 z3 z4 z5 z6 z7 z8 z9 (sA z_8 1 (upd (z_8 1) (Int32.toNatClampNeg 2) (((z_8 1) (Int32.toNatClampNeg 2)) + 1)))) := hD
    exact hret _ _ (sA z_8 1 (upd (z_8 1) (Int32.toNatClampNeg 2) (((z_8 1) (Int32.toNatClampNeg 2)) + 1))) _ _ hf dX7_comes_106 hP hD hS
  have lh6 : ∀ (fu6 : Nat) (x7_7 : Int32) (z_8 : Ob) (H : Heap) (locs : List Loc) (ls : Array Slot), lp_m_comes_69 z k_m_comes_69 fu6 x7_7 z_8 = some u → va_P D vwCl (cModel cI cZ za z1 z2 z3 z4 z5 z6 z7 z8 z9 z_8) H → va_D A (cModel cI cZ za z1 z2 z3 z4 z5 z6 z7 z8 z9 z_8) → va_S A s.heap H locs → lv_has ls 8 [(0, .ref za), (1, .int x), (2, .int y), (3, .int v), (4, .int u1), (5, .int u2), (6, .int (107 + (13 * ((z 1) (Int32.toNatClampNeg 2))))), (7, .int x7_7)] → W p l e ({ frames := 0, cells := 0, slots := 0, locals := 0 } : Room) s m ([.ref za, .int x, .int y, .int v, .int u1, .int u2] : List Value).toArray below meth c H locs 0 0 Q (F0 m 69 ls []) := by
    intro fu6
    induction fu6 with
    | zero => intro x7_7 z_8 H locs ls hf hP hD hS hl; exact no_none hf
    | succ fu6 ih6 =>
      intro x7_7 z_8 H locs ls hf hP hD hS hl
      rw [lp_m_comes_69] at hf
      refine lv_iload hx hb dX7_comes_69 (lv_at hl 7 rfl) ?_
      refine lv_bipush (v := 8) hx hb dX7_comes_71 (by decide) ?_
      refine lv_icmp_ge (tgt := 96) hx hb dX7_comes_73 (by decide) (fun c9 => ?_) (fun c9 => ?_)
      · have hf := ite_t c9 hf
        exact kx6 x7_7 z_8 _ _ _ hf hP hD hS (lv_sub hl [0, 1, 2, 3, 4, 5, 6, 7] rfl)
      · have hf := ite_f c9 hf
        refine lv_aload_n hx hb dX7_comes_76 rfl (lv_at hl 0 rfl) ?_
        refine va_get (D := D) (ci := 7) (v := .ref z1) (C := RX7) (T := TX7) (N := 17) hx hb hts inT7 hown hK hP 0 rfl rfl 0 (by decide) (hts _ mT_566) (fun _ h9 => h9) rfl dX7_comes_77 ?_
        refine lv_iload hx hb dX7_comes_80 (lv_at hl 6 rfl) ?_
        refine lv_iconst (v := 5) hx hb dX7_comes_82 (by decide) ?_
        refine lv_iadd hx hb dX7_comes_83 ?_
        refine lv_iload hx hb dX7_comes_84 (lv_at hl 7 rfl) ?_
        refine lv_iadd hx hb dX7_comes_86 ?_
        refine lv_iload hx hb dX7_comes_87 (lv_at hl 7 rfl) ?_
        obtain ⟨b10, hf⟩ := gd_some hf
        refine va_iast (n := 367) (f := z_8 1) hx hb hK hP hD hS 1 0 rfl rfl (ck_in b10) dX7_comes_89 (fun H locs hP hD hS => ?_)
        have hP : va_P D vwCl (cModel cI cZ za z1 z2 z3 z4 z5 z6 z7 z8 z9 (sA z_8 1 (upd (z_8 1) (Int32.toNatClampNeg (((107 + (13 * ((z 1) (Int32.toNatClampNeg 2)))) + 5) + x7_7)) x7_7))) H := hP
        have hD : va_D A (cModel cI cZ za z1 z2 z3 z4 z5 z6 z7 z8 z9 (sA z_8 1 (upd (z_8 1) (Int32.toNatClampNeg (((107 + (13 * ((z 1) (Int32.toNatClampNeg 2)))) + 5) + x7_7)) x7_7))) := hD
        refine lv_iinc (v := x7_7 + 1) (lv' := [(7, .int (x7_7 + 1)), (0, .ref za), (1, .int x), (2, .int y), (3, .int v), (4, .int u1), (5, .int u2), (6, .int (107 + (13 * ((z 1) (Int32.toNatClampNeg 2)))))]) hx hb dX7_comes_90 hl (k := 7) rfl rfl (by decide) rfl (fun ls hl => ?_)
        refine lv_goto (tgt := 69) hx hb dX7_comes_93 (by decide) ?_
        exact ih6 (x7_7 + 1) (sA z_8 1 (upd (z_8 1) (Int32.toNatClampNeg (((107 + (13 * ((z 1) (Int32.toNatClampNeg 2)))) + 5) + x7_7)) x7_7)) _ _ _ hf hP hD hS (lv_sub hl [1, 2, 3, 4, 5, 6, 7, 0] rfl)
  exact lh6 10000 0 (sA (sA (sA (sA (sA z 1 (upd (z 1) (Int32.toNatClampNeg ((107 + (13 * ((z 1) (Int32.toNatClampNeg 2)))) + 0)) x)) 1 (upd (upd (z 1) (Int32.toNatClampNeg ((107 + (13 * ((z 1) (Int32.toNatClampNeg 2)))) + 0)) x) (Int32.toNatClampNeg ((107 + (13 * ((z 1) (Int32.toNatClampNeg 2)))) + 1)) y)) 1 (upd (upd (upd (z 1) (Int32.toNatClampNeg ((107 + (13 * ((z 1) (Int32.toNatClampNeg 2)))) + 0)) x) (Int32.toNatClampNeg ((107 + (13 * ((z 1) (Int32.toNatClampNeg 2)))) + 1)) y) (Int32.toNatClampNeg ((107 + (13 * ((z 1) (Int32.toNatClampNeg 2)))) + 2)) v)) 1 (upd (upd (upd (upd (z 1) (Int32.toNatClampNeg ((107 + (13 * ((z 1) (Int32.toNatClampNeg 2)))) + 0)) x) (Int32.toNatClampNeg ((107 + (13 * ((z 1) (Int32.toNatClampNeg 2)))) + 1)) y) (Int32.toNatClampNeg ((107 + (13 * ((z 1) (Int32.toNatClampNeg 2)))) + 2)) v) (Int32.toNatClampNeg ((107 + (13 * ((z 1) (Int32.toNatClampNeg 2)))) + 3)) u1)) 1 (upd (upd (upd (upd (upd (z 1) (Int32.toNatClampNeg ((107 + (13 * ((z 1) (Int32.toNatClampNeg 2)))) + 0)) x) (Int32.toNatClampNeg ((107 + (13 * ((z 1) (Int32.toNatClampNeg 2)))) + 1)) y) (Int32.toNatClampNeg ((107 + (13 * ((z 1) (Int32.toNatClampNeg 2)))) + 2)) v) (Int32.toNatClampNeg ((107 + (13 * ((z 1) (Int32.toNatClampNeg 2)))) + 3)) u1) (Int32.toNatClampNeg ((107 + (13 * ((z 1) (Int32.toNatClampNeg 2)))) + 4)) u2)) _ _ _ hf hP hD hS (lv_sub hl [2, 3, 4, 5, 6, 7, 1, 0] rfl)
theorem s_yX7_way : kMS yX7_way cX7_way 3 (some .int) 2 := ⟨mT_794, mT_59, by decide +kernel⟩
theorem v_yX7_way : kMV yX7_way := ⟨mT_792, mT_793⟩
def f_m_way (z : Ob) (x : Int32) (y : Int32) : Option (Int32 × Ob) := bd (f_m_isPlace z x) (fun q1 => if q1 = 0 then (some ((-1000000001), z)) else (bd (f_m_isPlace z y) (fun q4 => if q4 = 0 then (some ((-1000000001), z)) else (if ((z 1) (Int32.toNatClampNeg 2)) = 20 then (some ((-1000000004), z)) else (bd (f_m_notes z) (fun q8 => bd (f_m_comes q8 x y 0 0 0) (fun q10 => some (((q10 1) (Int32.toNatClampNeg 2)) - 1, q10))))))))
set_option maxHeartbeats 4000000 in
set_option maxRecDepth 100000 in
theorem c_m_way (l : Launch) (D : va_G) (cI cZ cR : ClassId) (za z1 z2 z3 z4 z5 z6 z7 z8 z9 : Nat) (z : Ob) (x : Int32) (y : Int32) (sz : Nat) (r : Int32) (u : Ob) (hf : f_m_way z x y = some (r, u)) : kCi l yX7_way cX7_way 3 (some .int) { frames := 2, cells := 0, slots := 0, locals := 43 } [.ref za, .int x, .int y] D cI cZ cR (cModel cI cZ za z1 z2 z3 z4 z5 z6 z7 z8 z9 z) sz (cModel cI cZ za z1 z2 z3 z4 z5 z6 z7 z8 z9 u) r := by
  refine kMwi (wf := (fun u : Ob => cModel cI cZ za z1 z2 z3 z4 z5 z6 z7 z8 z9 u)) (u := u) (by decide) (Nat.le_of_ble_eq_true rfl) ?_
  intro p e s m below meth c Q A hx hb hml hown hts hk hP hD hA hS hret ls hl
  have hS0 := hS
  have hK := hk.1
  have hl : lv_has ls 3 [(0, .ref za), (1, .int x), (2, .int y)] := hl
  rw [f_m_way] at hf
  refine lv_aload_n hx hb dX7_way_0 rfl (lv_at hl 0 rfl) ?_
  refine lv_iload_n hx hb dX7_way_1 rfl (lv_at hl 1 rfl) ?_
  obtain ⟨q1, h2, hf⟩ := bd_some hf
  refine kx_rv (As := [.int x]) (rest := []) hx hb hml hown hts hk hP hl.1 s_yX7_isPlace v_yX7_isPlace (c_m_isPlace l D cI cZ cR za z1 z2 z3 z4 z5 z6 z7 z8 z9 z x _ h2) mT_715 rfl rfl ⟨Nat.le_of_ble_eq_true rfl, Nat.le_of_ble_eq_true rfl⟩ (ci := 7) (q0 := 0) rfl rfl rfl (Nat.le_of_ble_eq_true rfl) ⟨Nat.zero_le _, Nat.zero_le _⟩ dX7_way_2 ?_
  refine lv_if_eq (tgt := 16) hx hb dX7_way_5 (by decide) (fun c3 => ?_) (fun c3 => ?_)
  · have hf := ite_t c3 hf
    refine lv_ldc (v := (-1000000001)) hx hb hown (hts _ mT_731) dX7_way_16 ?_
    exact hret _ _ _ z _ _ hf dX7_way_18 hP hD hS
  · have hf := ite_f c3 hf
    refine lv_aload_n hx hb dX7_way_8 rfl (lv_at hl 0 rfl) ?_
    refine lv_iload_n hx hb dX7_way_9 rfl (lv_at hl 2 rfl) ?_
    obtain ⟨q4, h5, hf⟩ := bd_some hf
    refine kx_rv (As := [.int y]) (rest := []) hx hb hml hown hts hk hP hl.1 s_yX7_isPlace v_yX7_isPlace (c_m_isPlace l D cI cZ cR za z1 z2 z3 z4 z5 z6 z7 z8 z9 z y _ h5) mT_715 rfl rfl ⟨Nat.le_of_ble_eq_true rfl, Nat.le_of_ble_eq_true rfl⟩ (ci := 7) (q0 := 0) rfl rfl rfl (Nat.le_of_ble_eq_true rfl) ⟨Nat.zero_le _, Nat.zero_le _⟩ dX7_way_10 ?_
    refine lv_if_ne (tgt := 19) hx hb dX7_way_13 (by decide) (fun c6 => ?_) (fun c6 => ?_)
    · have hf := ite_f c6 hf
      refine lv_aload_n hx hb dX7_way_19 rfl (lv_at hl 0 rfl) ?_
      refine va_get (D := D) (ci := 7) (v := .ref z1) (C := RX7) (T := TX7) (N := 17) hx hb hts inT7 hown hK hP 0 rfl rfl 0 (by decide) (hts _ mT_566) (fun _ h9 => h9) rfl dX7_way_20 ?_
      refine lv_iconst (v := 2) hx hb dX7_way_23 (by decide) ?_
      refine va_iald (n := 367) (f := z 1) hx hb hK hP 1 0 rfl rfl (ck_in (by decide)) dX7_way_24 ?_
      refine lv_bipush (v := 20) hx hb dX7_way_25 (by decide) ?_
      refine lv_icmp_ne (tgt := 33) hx hb dX7_way_27 (by decide) (fun c7 => ?_) (fun c7 => ?_)
      · have hf := ite_f c7 hf
        refine lv_aload_n hx hb dX7_way_33 rfl (lv_at hl 0 rfl) ?_
        obtain ⟨q8, h9, hf⟩ := bd_some hf
        refine kx_wv (As := []) (rest := []) (wc := cModel cI cZ za z1 z2 z3 z4 z5 z6 z7 z8 z9 z) (wr := []) (wd := cModel cI cZ za z1 z2 z3 z4 z5 z6 z7 z8 z9 q8) (wn := cModel cI cZ za z1 z2 z3 z4 z5 z6 z7 z8 z9 q8) hx hb hml hown hts hk hP hD hS hA hl.1 s_yX7_notes v_yX7_notes (c_m_notes l D cI cZ cR za z1 z2 z3 z4 z5 z6 z7 z8 z9 z H.size _ h9) mT_776 rfl rfl ⟨Nat.le_of_ble_eq_true rfl, Nat.le_of_ble_eq_true rfl⟩ [0, 1, 2, 3, 4, 5, 6, 7, 8, 9] [] [0, 1, 2, 3, 4, 5, 6, 7, 8, 9] rfl rfl (by decide) (by decide) (by decide) (by decide) rfl (ci := 7) (q0 := 0) rfl rfl rfl (Nat.le_of_ble_eq_true rfl) ⟨Nat.zero_le _, Nat.zero_le _⟩ dX7_way_34 (fun H locs hP hD hS => ?_)
        refine lv_aload_n hx hb dX7_way_37 rfl (lv_at hl 0 rfl) ?_
        refine lv_iload_n hx hb dX7_way_38 rfl (lv_at hl 1 rfl) ?_
        refine lv_iload_n hx hb dX7_way_39 rfl (lv_at hl 2 rfl) ?_
        refine lv_iconst (v := 0) hx hb dX7_way_40 (by decide) ?_
        refine lv_iconst (v := 0) hx hb dX7_way_41 (by decide) ?_
        refine lv_iconst (v := 0) hx hb dX7_way_42 (by decide) ?_
        obtain ⟨q10, h11, hf⟩ := bd_some hf
        refine kx_wv (As := [.int x, .int y, .int 0, .int 0, .int 0]) (rest := []) (wc := cModel cI cZ za z1 z2 z3 z4 z5 z6 z7 z8 z9 q8) (wr := []) (wd := cModel cI cZ za z1 z2 z3 z4 z5 z6 z7 z8 z9 q10) (wn := cModel cI cZ za z1 z2 z3 z4 z5 z6 z7 z8 z9 q10) hx hb hml hown hts hk hP hD hS hA hl.1 s_yX7_comes v_yX7_comes (c_m_comes l D cI cZ cR za z1 z2 z3 z4 z5 z6 z7 z8 z9 q8 x y 0 0 0 H.size _ h11) mT_796 rfl rfl ⟨Nat.le_of_ble_eq_true rfl, Nat.le_of_ble_eq_true rfl⟩ [0, 1, 2, 3, 4, 5, 6, 7, 8, 9] [] [0, 1, 2, 3, 4, 5, 6, 7, 8, 9] rfl rfl (by decide) (by decide) (by decide) (by decide) rfl (ci := 7) (q0 := 0) rfl rfl rfl (Nat.le_of_ble_eq_true rfl) ⟨Nat.zero_le _, Nat.zero_le _⟩ dX7_way_43 (fun H locs hP hD hS => ?_)
        refine lv_aload_n hx hb dX7_way_46 rfl (lv_at hl 0 rfl) ?_
        refine va_get (D := D) (ci := 7) (v := .ref z1) (C := RX7) (T := TX7) (N := 17) hx hb hts inT7 hown hK hP 0 rfl rfl 0 (by decide) (hts _ mT_566) (fun _ h9 => h9) rfl dX7_way_47 ?_
        refine lv_iconst (v := 2) hx hb dX7_way_50 (by decide) ?_
        refine va_iald (n := 367) (f := q10 1) hx hb hK hP 1 0 rfl rfl (ck_in (by decide)) dX7_way_51 ?_
        refine lv_iconst (v := 1) hx hb dX7_way_52 (by decide) ?_
        refine lv_isub hx hb dX7_way_53 ?_
        exact hret _ _ _ q10 _ _ hf dX7_way_54 hP hD hS
      · have hf := ite_t c7 hf
        refine lv_ldc (v := (-1000000004)) hx hb hown (hts _ mT_795) dX7_way_30 ?_
        exact hret _ _ _ z _ _ hf dX7_way_32 hP hD hS
    · have hf := ite_t c6 hf
      refine lv_ldc (v := (-1000000001)) hx hb hown (hts _ mT_731) dX7_way_16 ?_
      exact hret _ _ _ z _ _ hf dX7_way_18 hP hD hS
theorem s_yX7_drop : kMS yX7_drop cX7_drop 3 (some .int) 1 := ⟨mT_803, mT_59, by decide +kernel⟩
theorem v_yX7_drop : kMV yX7_drop := ⟨mT_801, mT_802⟩
def k_m_drop_23 (x2_7 : Int32) (z_8 : Ob) : Option (Int32 × Ob) := some ((upd (z_8 1) (Int32.toNatClampNeg 2) (((z_8 1) (Int32.toNatClampNeg 2)) - 1)) (Int32.toNatClampNeg 2), sA z_8 1 (upd (z_8 1) (Int32.toNatClampNeg 2) (((z_8 1) (Int32.toNatClampNeg 2)) - 1)))
def lp_m_drop_23 (kk0 : Int32 → Ob → Option (Int32 × Ob)) : Nat → Int32 → Ob → Option (Int32 × Ob)
  | 0, _, _ => none
  | fu6 + 1, x2_7, z_8 => if 367 ≤ (x2_7 + 13) then (kk0 x2_7 z_8) else (gd (ck (x2_7 + 13) 367) (gd (ck x2_7 367) ((lp_m_drop_23 kk0 fu6) (x2_7 + 1) (sA z_8 1 (upd (z_8 1) (Int32.toNatClampNeg x2_7) ((z_8 1) (Int32.toNatClampNeg (x2_7 + 13))))))))
def f_m_drop (z : Ob) (x : Int32) : Option (Int32 × Ob) := bd (f_m_isWay z x) (fun q1 => if q1 = 0 then (some ((-1000000001), z)) else (bd (f_m_notes z) (fun q4 => lp_m_drop_23 k_m_drop_23 10000 (107 + (13 * x)) q4)))
set_option maxHeartbeats 4000000 in
set_option maxRecDepth 100000 in
theorem c_m_drop (l : Launch) (D : va_G) (cI cZ cR : ClassId) (za z1 z2 z3 z4 z5 z6 z7 z8 z9 : Nat) (z : Ob) (x : Int32) (sz : Nat) (r : Int32) (u : Ob) (hf : f_m_drop z x = some (r, u)) : kCi l yX7_drop cX7_drop 3 (some .int) { frames := 2, cells := 0, slots := 0, locals := 43 } [.ref za, .int x] D cI cZ cR (cModel cI cZ za z1 z2 z3 z4 z5 z6 z7 z8 z9 z) sz (cModel cI cZ za z1 z2 z3 z4 z5 z6 z7 z8 z9 u) r := by
  refine kMwi (wf := (fun u : Ob => cModel cI cZ za z1 z2 z3 z4 z5 z6 z7 z8 z9 u)) (u := u) (by decide) (Nat.le_of_ble_eq_true rfl) ?_
  intro p e s m below meth c Q A hx hb hml hown hts hk hP hD hA hS hret ls hl
  have hS0 := hS
  have hK := hk.1
  have hl : lv_has ls 3 [(0, .ref za), (1, .int x)] := hl
  rw [f_m_drop] at hf
  refine lv_aload_n hx hb dX7_drop_0 rfl (lv_at hl 0 rfl) ?_
  refine lv_iload_n hx hb dX7_drop_1 rfl (lv_at hl 1 rfl) ?_
  obtain ⟨q1, h2, hf⟩ := bd_some hf
  refine kx_rv (As := [.int x]) (rest := []) hx hb hml hown hts hk hP hl.1 s_yX7_isWay v_yX7_isWay (c_m_isWay l D cI cZ cR za z1 z2 z3 z4 z5 z6 z7 z8 z9 z x _ h2) mT_752 rfl rfl ⟨Nat.le_of_ble_eq_true rfl, Nat.le_of_ble_eq_true rfl⟩ (ci := 7) (q0 := 0) rfl rfl rfl (Nat.le_of_ble_eq_true rfl) ⟨Nat.zero_le _, Nat.zero_le _⟩ dX7_drop_2 ?_
  refine lv_if_ne (tgt := 11) hx hb dX7_drop_5 (by decide) (fun c3 => ?_) (fun c3 => ?_)
  · have hf := ite_f c3 hf
    refine lv_aload_n hx hb dX7_drop_11 rfl (lv_at hl 0 rfl) ?_
    obtain ⟨q4, h5, hf⟩ := bd_some hf
    refine kx_wv (As := []) (rest := []) (wc := cModel cI cZ za z1 z2 z3 z4 z5 z6 z7 z8 z9 z) (wr := []) (wd := cModel cI cZ za z1 z2 z3 z4 z5 z6 z7 z8 z9 q4) (wn := cModel cI cZ za z1 z2 z3 z4 z5 z6 z7 z8 z9 q4) hx hb hml hown hts hk hP hD hS hA hl.1 s_yX7_notes v_yX7_notes (c_m_notes l D cI cZ cR za z1 z2 z3 z4 z5 z6 z7 z8 z9 z H.size _ h5) mT_776 rfl rfl ⟨Nat.le_of_ble_eq_true rfl, Nat.le_of_ble_eq_true rfl⟩ [0, 1, 2, 3, 4, 5, 6, 7, 8, 9] [] [0, 1, 2, 3, 4, 5, 6, 7, 8, 9] rfl rfl (by decide) (by decide) (by decide) (by decide) rfl (ci := 7) (q0 := 0) rfl rfl rfl (Nat.le_of_ble_eq_true rfl) ⟨Nat.zero_le _, Nat.zero_le _⟩ dX7_drop_12 (fun H locs hP hD hS => ?_)
    refine lv_bipush (v := 107) hx hb dX7_drop_15 (by decide) ?_
    refine lv_bipush (v := 13) hx hb dX7_drop_17 (by decide) ?_
    refine lv_iload_n hx hb dX7_drop_19 rfl (lv_at hl 1 rfl) ?_
    refine lv_imul hx hb dX7_drop_20 ?_
    refine lv_iadd hx hb dX7_drop_21 ?_
    refine lv_istore_n (lv' := [(2, .int (107 + (13 * x))), (0, .ref za), (1, .int x)]) hx hb dX7_drop_22 rfl hl (by decide) rfl (fun ls hl => ?_)
    have kx6 : ∀ (x2_7 : Int32) (z_8 : Ob) (H : Heap) (locs : List Loc) (ls : Array Slot), k_m_drop_23 x2_7 z_8 = some (r, u) → va_P D vwCl (cModel cI cZ za z1 z2 z3 z4 z5 z6 z7 z8 z9 z_8) H → va_D A (cModel cI cZ za z1 z2 z3 z4 z5 z6 z7 z8 z9 z_8) → va_S A s.heap H locs → lv_has ls 3 [(0, .ref za), (1, .int x), (2, .int x2_7)] → W p l e ({ frames := 2, cells := 0, slots := 0, locals := 43 } : Room) s m ([.ref za, .int x] : List Value).toArray below meth c H locs 0 0 Q (F0 m 54 ls []) := by
      intro x2_7 z_8 H locs ls hf hP hD hS hl
      rw [k_m_drop_23] at hf
      refine lv_aload_n hx hb dX7_drop_54 rfl (lv_at hl 0 rfl) ?_
      refine va_get (D := D) (ci := 7) (v := .ref z1) (C := RX7) (T := TX7) (N := 17) hx hb hts inT7 hown hK hP 0 rfl rfl 0 (by decide) (hts _ mT_566) (fun _ h9 => h9) rfl dX7_drop_55 ?_
      refine lv_iconst (v := 2) hx hb dX7_drop_58 (by decide) ?_
      refine lv_dup2_11 hx hb dX7_drop_59 rfl rfl ?_
      refine va_iald (n := 367) (f := z_8 1) hx hb hK hP 1 0 rfl rfl (ck_in (by decide)) dX7_drop_60 ?_
      refine lv_iconst (v := 1) hx hb dX7_drop_61 (by decide) ?_
      refine lv_isub hx hb dX7_drop_62 ?_
      refine va_iast (n := 367) (f := z_8 1) hx hb hK hP hD hS 1 0 rfl rfl (ck_in (by decide)) dX7_drop_63 (fun H locs hP hD hS => ?_)
      have hP : va_P D vwCl (cModel cI cZ za z1 z2 z3 z4 z5 z6 z7 z8 z9 (sA z_8 1 (upd (z_8 1) (Int32.toNatClampNeg 2) (((z_8 1) (Int32.toNatClampNeg 2)) - 1)))) H := hP
      have hD : va_D A (cModel cI cZ za z1 z2 z3 z4 z5 z6 z7 z8 z9 (sA z_8 1 (upd (z_8 1) (Int32.toNatClampNeg 2) (((z_8 1) (Int32.toNatClampNeg 2)) - 1)))) := hD
      refine lv_aload_n hx hb dX7_drop_64 rfl (lv_at hl 0 rfl) ?_
      refine va_get (D := D) (ci := 7) (v := .ref z1) (C := RX7) (T := TX7) (N := 17) hx hb hts inT7 hown hK hP 0 rfl rfl 0 (by decide) (hts _ mT_566) (fun _ h9 => h9) rfl dX7_drop_65 ?_
      refine lv_iconst (v := 2) hx hb dX7_drop_68 (by decide) ?_
      refine va_iald (n := 367) (f := upd (z_8 1) (Int32.toNatClampNeg 2) (((z_8 1) (Int32.toNatClampNeg 2)) - 1)) hx hb hK hP 1 0 rfl rfl (ck_in (by decide)) dX7_drop_69 ?_
      exact hret _ _ _ (sA z_8 1 (upd (z_8 1) (Int32.toNatClampNeg 2) (((z_8 1) (Int32.toNatClampNeg 2)) - 1))) _ _ hf dX7_drop_70 hP hD hS
    have lh6 : ∀ (fu6 : Nat) (x2_7 : Int32) (z_8 : Ob) (H : Heap) (locs : List Loc) (ls : Array Slot), lp_m_drop_23 k_m_drop_23 fu6 x2_7 z_8 = some (r, u) → va_P D vwCl (cModel cI cZ za z1 z2 z3 z4 z5 z6 z7 z8 z9 z_8) H → va_D A (cModel cI cZ za z1 z2 z3 z4 z5 z6 z7 z8 z9 z_8) → va_S A s.heap H locs → lv_has ls 3 [(0, .ref za), (1, .int x), (2, .int x2_7)] → W p l e ({ frames := 2, cells := 0, slots := 0, locals := 43 } : Room) s m ([.ref za, .int x] : List Value).toArray below meth c H locs 0 0 Q (F0 m 23 ls []) := by
      intro fu6
      induction fu6 with
      | zero => intro x2_7 z_8 H locs ls hf hP hD hS hl; exact no_none hf
      | succ fu6 ih6 =>
        intro x2_7 z_8 H locs ls hf hP hD hS hl
        rw [lp_m_drop_23] at hf
        refine lv_iload_n hx hb dX7_drop_23 rfl (lv_at hl 2 rfl) ?_
        refine lv_bipush (v := 13) hx hb dX7_drop_24 (by decide) ?_
        refine lv_iadd hx hb dX7_drop_26 ?_
        refine lv_sipush (v := 367) hx hb dX7_drop_27 (by decide) ?_
        refine lv_icmp_ge (tgt := 54) hx hb dX7_drop_30 (by decide) (fun c9 => ?_) (fun c9 => ?_)
        · have hf := ite_t c9 hf
          exact kx6 x2_7 z_8 _ _ _ hf hP hD hS (lv_sub hl [0, 1, 2] rfl)
        · have hf := ite_f c9 hf
          refine lv_aload_n hx hb dX7_drop_33 rfl (lv_at hl 0 rfl) ?_
          refine va_get (D := D) (ci := 7) (v := .ref z1) (C := RX7) (T := TX7) (N := 17) hx hb hts inT7 hown hK hP 0 rfl rfl 0 (by decide) (hts _ mT_566) (fun _ h9 => h9) rfl dX7_drop_34 ?_
          refine lv_iload_n hx hb dX7_drop_37 rfl (lv_at hl 2 rfl) ?_
          refine lv_aload_n hx hb dX7_drop_38 rfl (lv_at hl 0 rfl) ?_
          refine va_get (D := D) (ci := 7) (v := .ref z1) (C := RX7) (T := TX7) (N := 17) hx hb hts inT7 hown hK hP 0 rfl rfl 0 (by decide) (hts _ mT_566) (fun _ h9 => h9) rfl dX7_drop_39 ?_
          refine lv_iload_n hx hb dX7_drop_42 rfl (lv_at hl 2 rfl) ?_
          refine lv_bipush (v := 13) hx hb dX7_drop_43 (by decide) ?_
          refine lv_iadd hx hb dX7_drop_45 ?_
          obtain ⟨b10, hf⟩ := gd_some hf
          refine va_iald (n := 367) (f := z_8 1) hx hb hK hP 1 0 rfl rfl (ck_in b10) dX7_drop_46 ?_
          obtain ⟨b11, hf⟩ := gd_some hf
          refine va_iast (n := 367) (f := z_8 1) hx hb hK hP hD hS 1 0 rfl rfl (ck_in b11) dX7_drop_47 (fun H locs hP hD hS => ?_)
          have hP : va_P D vwCl (cModel cI cZ za z1 z2 z3 z4 z5 z6 z7 z8 z9 (sA z_8 1 (upd (z_8 1) (Int32.toNatClampNeg x2_7) ((z_8 1) (Int32.toNatClampNeg (x2_7 + 13)))))) H := hP
          have hD : va_D A (cModel cI cZ za z1 z2 z3 z4 z5 z6 z7 z8 z9 (sA z_8 1 (upd (z_8 1) (Int32.toNatClampNeg x2_7) ((z_8 1) (Int32.toNatClampNeg (x2_7 + 13)))))) := hD
          refine lv_iinc (v := x2_7 + 1) (lv' := [(2, .int (x2_7 + 1)), (0, .ref za), (1, .int x)]) hx hb dX7_drop_48 hl (k := 2) rfl rfl (by decide) rfl (fun ls hl => ?_)
          refine lv_goto (tgt := 23) hx hb dX7_drop_51 (by decide) ?_
          exact ih6 (x2_7 + 1) (sA z_8 1 (upd (z_8 1) (Int32.toNatClampNeg x2_7) ((z_8 1) (Int32.toNatClampNeg (x2_7 + 13))))) _ _ _ hf hP hD hS (lv_sub hl [1, 2, 0] rfl)
    exact lh6 10000 (107 + (13 * x)) q4 _ _ _ hf hP hD hS (lv_sub hl [1, 2, 0] rfl)
  · have hf := ite_t c3 hf
    refine lv_ldc (v := (-1000000001)) hx hb hown (hts _ mT_731) dX7_drop_8 ?_
    exact hret _ _ _ z _ _ hf dX7_drop_10 hP hD hS
theorem s_yX7_map : kMS yX7_map cX7_map 5 (some .int) 3 := ⟨mT_807, mT_59, by decide +kernel⟩
theorem v_yX7_map : kMV yX7_map := ⟨mT_805, mT_806⟩
def f_m_map (z : Ob) (x : Int32) (y : Int32) (v : Int32) : Option (Int32 × Ob) := bd (f_m_isWay z x) (fun q1 => if q1 = 0 then (some ((-1000000001), z)) else (bd (f_m_isValue z y) (fun q4 => if q4 = 0 then (some ((-1000000001), z)) else (bd (f_m_isValue z v) (fun q7 => if q7 = 0 then (some ((-1000000001), z)) else (bd (f_m_notes z) (fun q10 => bd (f_m_of q10 x (5 + y)) (fun q12 => gd (ck (((107 + (13 * x)) + 5) + y) 367) (some (q12, sA q10 1 (upd (q10 1) (Int32.toNatClampNeg (((107 + (13 * x)) + 5) + y)) v)))))))))))
set_option maxHeartbeats 4000000 in
set_option maxRecDepth 100000 in
theorem c_m_map (l : Launch) (D : va_G) (cI cZ cR : ClassId) (za z1 z2 z3 z4 z5 z6 z7 z8 z9 : Nat) (z : Ob) (x : Int32) (y : Int32) (v : Int32) (sz : Nat) (r : Int32) (u : Ob) (hf : f_m_map z x y v = some (r, u)) : kCi l yX7_map cX7_map 5 (some .int) { frames := 2, cells := 0, slots := 0, locals := 43 } [.ref za, .int x, .int y, .int v] D cI cZ cR (cModel cI cZ za z1 z2 z3 z4 z5 z6 z7 z8 z9 z) sz (cModel cI cZ za z1 z2 z3 z4 z5 z6 z7 z8 z9 u) r := by
  refine kMwi (wf := (fun u : Ob => cModel cI cZ za z1 z2 z3 z4 z5 z6 z7 z8 z9 u)) (u := u) (by decide) (Nat.le_of_ble_eq_true rfl) ?_
  intro p e s m below meth c Q A hx hb hml hown hts hk hP hD hA hS hret ls hl
  have hS0 := hS
  have hK := hk.1
  have hl : lv_has ls 5 [(0, .ref za), (1, .int x), (2, .int y), (3, .int v)] := hl
  rw [f_m_map] at hf
  refine lv_aload_n hx hb dX7_map_0 rfl (lv_at hl 0 rfl) ?_
  refine lv_iload_n hx hb dX7_map_1 rfl (lv_at hl 1 rfl) ?_
  obtain ⟨q1, h2, hf⟩ := bd_some hf
  refine kx_rv (As := [.int x]) (rest := []) hx hb hml hown hts hk hP hl.1 s_yX7_isWay v_yX7_isWay (c_m_isWay l D cI cZ cR za z1 z2 z3 z4 z5 z6 z7 z8 z9 z x _ h2) mT_752 rfl rfl ⟨Nat.le_of_ble_eq_true rfl, Nat.le_of_ble_eq_true rfl⟩ (ci := 7) (q0 := 0) rfl rfl rfl (Nat.le_of_ble_eq_true rfl) ⟨Nat.zero_le _, Nat.zero_le _⟩ dX7_map_2 ?_
  refine lv_if_eq (tgt := 24) hx hb dX7_map_5 (by decide) (fun c3 => ?_) (fun c3 => ?_)
  · have hf := ite_t c3 hf
    refine lv_ldc (v := (-1000000001)) hx hb hown (hts _ mT_731) dX7_map_24 ?_
    exact hret _ _ _ z _ _ hf dX7_map_26 hP hD hS
  · have hf := ite_f c3 hf
    refine lv_aload_n hx hb dX7_map_8 rfl (lv_at hl 0 rfl) ?_
    refine lv_iload_n hx hb dX7_map_9 rfl (lv_at hl 2 rfl) ?_
    obtain ⟨q4, h5, hf⟩ := bd_some hf
    refine kx_rv (As := [.int y]) (rest := []) hx hb hml hown hts hk hP hl.1 s_yX7_isValue v_yX7_isValue (c_m_isValue l D cI cZ cR za z1 z2 z3 z4 z5 z6 z7 z8 z9 z y _ h5) mT_727 rfl rfl ⟨Nat.le_of_ble_eq_true rfl, Nat.le_of_ble_eq_true rfl⟩ (ci := 7) (q0 := 0) rfl rfl rfl (Nat.le_of_ble_eq_true rfl) ⟨Nat.zero_le _, Nat.zero_le _⟩ dX7_map_10 ?_
    refine lv_if_eq (tgt := 24) hx hb dX7_map_13 (by decide) (fun c6 => ?_) (fun c6 => ?_)
    · have hf := ite_t c6 hf
      refine lv_ldc (v := (-1000000001)) hx hb hown (hts _ mT_731) dX7_map_24 ?_
      exact hret _ _ _ z _ _ hf dX7_map_26 hP hD hS
    · have hf := ite_f c6 hf
      refine lv_aload_n hx hb dX7_map_16 rfl (lv_at hl 0 rfl) ?_
      refine lv_iload_n hx hb dX7_map_17 rfl (lv_at hl 3 rfl) ?_
      obtain ⟨q7, h8, hf⟩ := bd_some hf
      refine kx_rv (As := [.int v]) (rest := []) hx hb hml hown hts hk hP hl.1 s_yX7_isValue v_yX7_isValue (c_m_isValue l D cI cZ cR za z1 z2 z3 z4 z5 z6 z7 z8 z9 z v _ h8) mT_727 rfl rfl ⟨Nat.le_of_ble_eq_true rfl, Nat.le_of_ble_eq_true rfl⟩ (ci := 7) (q0 := 0) rfl rfl rfl (Nat.le_of_ble_eq_true rfl) ⟨Nat.zero_le _, Nat.zero_le _⟩ dX7_map_18 ?_
      refine lv_if_ne (tgt := 27) hx hb dX7_map_21 (by decide) (fun c9 => ?_) (fun c9 => ?_)
      · have hf := ite_f c9 hf
        refine lv_aload_n hx hb dX7_map_27 rfl (lv_at hl 0 rfl) ?_
        obtain ⟨q10, h11, hf⟩ := bd_some hf
        refine kx_wv (As := []) (rest := []) (wc := cModel cI cZ za z1 z2 z3 z4 z5 z6 z7 z8 z9 z) (wr := []) (wd := cModel cI cZ za z1 z2 z3 z4 z5 z6 z7 z8 z9 q10) (wn := cModel cI cZ za z1 z2 z3 z4 z5 z6 z7 z8 z9 q10) hx hb hml hown hts hk hP hD hS hA hl.1 s_yX7_notes v_yX7_notes (c_m_notes l D cI cZ cR za z1 z2 z3 z4 z5 z6 z7 z8 z9 z H.size _ h11) mT_776 rfl rfl ⟨Nat.le_of_ble_eq_true rfl, Nat.le_of_ble_eq_true rfl⟩ [0, 1, 2, 3, 4, 5, 6, 7, 8, 9] [] [0, 1, 2, 3, 4, 5, 6, 7, 8, 9] rfl rfl (by decide) (by decide) (by decide) (by decide) rfl (ci := 7) (q0 := 0) rfl rfl rfl (Nat.le_of_ble_eq_true rfl) ⟨Nat.zero_le _, Nat.zero_le _⟩ dX7_map_28 (fun H locs hP hD hS => ?_)
        refine lv_aload_n hx hb dX7_map_31 rfl (lv_at hl 0 rfl) ?_
        refine lv_iload_n hx hb dX7_map_32 rfl (lv_at hl 1 rfl) ?_
        refine lv_iconst (v := 5) hx hb dX7_map_33 (by decide) ?_
        refine lv_iload_n hx hb dX7_map_34 rfl (lv_at hl 2 rfl) ?_
        refine lv_iadd hx hb dX7_map_35 ?_
        obtain ⟨q12, h13, hf⟩ := bd_some hf
        refine kx_rv (As := [.int x, .int (5 + y)]) (rest := []) hx hb hml hown hts hk hP hl.1 s_yX7_of v_yX7_of (c_m_of l D cI cZ cR za z1 z2 z3 z4 z5 z6 z7 z8 z9 q10 x (5 + y) _ h13) mT_647 rfl rfl ⟨Nat.le_of_ble_eq_true rfl, Nat.le_of_ble_eq_true rfl⟩ (ci := 7) (q0 := 0) rfl rfl rfl (Nat.le_of_ble_eq_true rfl) ⟨Nat.zero_le _, Nat.zero_le _⟩ dX7_map_36 ?_
        refine lv_istore (lv' := [(4, .int q12), (0, .ref za), (1, .int x), (2, .int y), (3, .int v)]) hx hb dX7_map_39 hl (by decide) rfl (fun ls hl => ?_)
        refine lv_aload_n hx hb dX7_map_41 rfl (lv_at hl 1 rfl) ?_
        refine va_get (D := D) (ci := 7) (v := .ref z1) (C := RX7) (T := TX7) (N := 17) hx hb hts inT7 hown hK hP 0 rfl rfl 0 (by decide) (hts _ mT_566) (fun _ h9 => h9) rfl dX7_map_42 ?_
        refine lv_bipush (v := 107) hx hb dX7_map_45 (by decide) ?_
        refine lv_bipush (v := 13) hx hb dX7_map_47 (by decide) ?_
        refine lv_iload_n hx hb dX7_map_49 rfl (lv_at hl 2 rfl) ?_
        refine lv_imul hx hb dX7_map_50 ?_
        refine lv_iadd hx hb dX7_map_51 ?_
        refine lv_iconst (v := 5) hx hb dX7_map_52 (by decide) ?_
        refine lv_iadd hx hb dX7_map_53 ?_
        refine lv_iload_n hx hb dX7_map_54 rfl (lv_at hl 3 rfl) ?_
        refine lv_iadd hx hb dX7_map_55 ?_
        refine lv_iload_n hx hb dX7_map_56 rfl (lv_at hl 4 rfl) ?_
        obtain ⟨b14, hf⟩ := gd_some hf
        refine va_iast (n := 367) (f := q10 1) hx hb hK hP hD hS 1 0 rfl rfl (ck_in b14) dX7_map_57 (fun H locs hP hD hS => ?_)
        have hP : va_P D vwCl (cModel cI cZ za z1 z2 z3 z4 z5 z6 z7 z8 z9 (sA q10 1 (upd (q10 1) (Int32.toNatClampNeg (((107 + (13 * x)) + 5) + y)) v))) H := hP
        have hD : va_D A (cModel cI cZ za z1 z2 z3 z4 z5 z6 z7 z8 z9 (sA q10 1 (upd (q10 1) (Int32.toNatClampNeg (((107 + (13 * x)) + 5) + y)) v))) := hD
        refine lv_iload hx hb dX7_map_58 (lv_at hl 0 rfl) ?_
        exact hret _ _ _ (sA q10 1 (upd (q10 1) (Int32.toNatClampNeg (((107 + (13 * x)) + 5) + y)) v)) _ _ hf dX7_map_60 hP hD hS
      · have hf := ite_t c9 hf
        refine lv_ldc (v := (-1000000001)) hx hb hown (hts _ mT_731) dX7_map_24 ?_
        exact hret _ _ _ z _ _ hf dX7_map_26 hP hD hS
theorem s_yX7_marks : kMS yX7_marks cX7_marks 4 (some .int) 3 := ⟨mT_811, mT_59, by decide +kernel⟩
theorem v_yX7_marks : kMV yX7_marks := ⟨mT_809, mT_810⟩
def f_m_marks (z : Ob) (x : Int32) (y : Int32) (v : Int32) : Option (Int32 × Ob) := bd (f_m_isWay z x) (fun q1 => if q1 = 0 then (some ((-1000000001), z)) else (bd (f_m_isSet y) (fun q4 => if q4 = 0 then (some ((-1000000002), z)) else (bd (f_m_isSet v) (fun q7 => if q7 = 0 then (some ((-1000000002), z)) else (bd (f_m_notes z) (fun q10 => gd (ck ((107 + (13 * x)) + 2) 367) (gd (ck ((107 + (13 * x)) + 3) 367) (some (1, sA (sA q10 1 (upd (q10 1) (Int32.toNatClampNeg ((107 + (13 * x)) + 2)) y)) 1 (upd (upd (q10 1) (Int32.toNatClampNeg ((107 + (13 * x)) + 2)) y) (Int32.toNatClampNeg ((107 + (13 * x)) + 3)) v)))))))))))
set_option maxHeartbeats 4000000 in
set_option maxRecDepth 100000 in
theorem c_m_marks (l : Launch) (D : va_G) (cI cZ cR : ClassId) (za z1 z2 z3 z4 z5 z6 z7 z8 z9 : Nat) (z : Ob) (x : Int32) (y : Int32) (v : Int32) (sz : Nat) (r : Int32) (u : Ob) (hf : f_m_marks z x y v = some (r, u)) : kCi l yX7_marks cX7_marks 4 (some .int) { frames := 2, cells := 0, slots := 0, locals := 43 } [.ref za, .int x, .int y, .int v] D cI cZ cR (cModel cI cZ za z1 z2 z3 z4 z5 z6 z7 z8 z9 z) sz (cModel cI cZ za z1 z2 z3 z4 z5 z6 z7 z8 z9 u) r := by
  refine kMwi (wf := (fun u : Ob => cModel cI cZ za z1 z2 z3 z4 z5 z6 z7 z8 z9 u)) (u := u) (by decide) (Nat.le_of_ble_eq_true rfl) ?_
  intro p e s m below meth c Q A hx hb hml hown hts hk hP hD hA hS hret ls hl
  have hS0 := hS
  have hK := hk.1
  have hl : lv_has ls 4 [(0, .ref za), (1, .int x), (2, .int y), (3, .int v)] := hl
  rw [f_m_marks] at hf
  refine lv_aload_n hx hb dX7_marks_0 rfl (lv_at hl 0 rfl) ?_
  refine lv_iload_n hx hb dX7_marks_1 rfl (lv_at hl 1 rfl) ?_
  obtain ⟨q1, h2, hf⟩ := bd_some hf
  refine kx_rv (As := [.int x]) (rest := []) hx hb hml hown hts hk hP hl.1 s_yX7_isWay v_yX7_isWay (c_m_isWay l D cI cZ cR za z1 z2 z3 z4 z5 z6 z7 z8 z9 z x _ h2) mT_752 rfl rfl ⟨Nat.le_of_ble_eq_true rfl, Nat.le_of_ble_eq_true rfl⟩ (ci := 7) (q0 := 0) rfl rfl rfl (Nat.le_of_ble_eq_true rfl) ⟨Nat.zero_le _, Nat.zero_le _⟩ dX7_marks_2 ?_
  refine lv_if_ne (tgt := 11) hx hb dX7_marks_5 (by decide) (fun c3 => ?_) (fun c3 => ?_)
  · have hf := ite_f c3 hf
    refine lv_iload_n hx hb dX7_marks_11 rfl (lv_at hl 2 rfl) ?_
    obtain ⟨q4, h5, hf⟩ := bd_some hf
    refine kx_rs (As := [.int y]) (rest := []) hx hb hml hown hts hk hl.1 s_yX7_isSet mT_789 (c_m_isSet l D cI cZ cR y _ h5) mT_788 rfl rfl ⟨Nat.le_of_ble_eq_true rfl, Nat.le_of_ble_eq_true rfl⟩ rfl (Nat.le_of_ble_eq_true rfl) ⟨Nat.zero_le _, Nat.zero_le _⟩ dX7_marks_12 ?_
    refine lv_if_eq (tgt := 25) hx hb dX7_marks_15 (by decide) (fun c6 => ?_) (fun c6 => ?_)
    · have hf := ite_t c6 hf
      refine lv_ldc (v := (-1000000002)) hx hb hown (hts _ mT_722) dX7_marks_25 ?_
      exact hret _ _ _ z _ _ hf dX7_marks_27 hP hD hS
    · have hf := ite_f c6 hf
      refine lv_iload_n hx hb dX7_marks_18 rfl (lv_at hl 3 rfl) ?_
      obtain ⟨q7, h8, hf⟩ := bd_some hf
      refine kx_rs (As := [.int v]) (rest := []) hx hb hml hown hts hk hl.1 s_yX7_isSet mT_789 (c_m_isSet l D cI cZ cR v _ h8) mT_788 rfl rfl ⟨Nat.le_of_ble_eq_true rfl, Nat.le_of_ble_eq_true rfl⟩ rfl (Nat.le_of_ble_eq_true rfl) ⟨Nat.zero_le _, Nat.zero_le _⟩ dX7_marks_19 ?_
      refine lv_if_ne (tgt := 28) hx hb dX7_marks_22 (by decide) (fun c9 => ?_) (fun c9 => ?_)
      · have hf := ite_f c9 hf
        refine lv_aload_n hx hb dX7_marks_28 rfl (lv_at hl 0 rfl) ?_
        obtain ⟨q10, h11, hf⟩ := bd_some hf
        refine kx_wv (As := []) (rest := []) (wc := cModel cI cZ za z1 z2 z3 z4 z5 z6 z7 z8 z9 z) (wr := []) (wd := cModel cI cZ za z1 z2 z3 z4 z5 z6 z7 z8 z9 q10) (wn := cModel cI cZ za z1 z2 z3 z4 z5 z6 z7 z8 z9 q10) hx hb hml hown hts hk hP hD hS hA hl.1 s_yX7_notes v_yX7_notes (c_m_notes l D cI cZ cR za z1 z2 z3 z4 z5 z6 z7 z8 z9 z H.size _ h11) mT_776 rfl rfl ⟨Nat.le_of_ble_eq_true rfl, Nat.le_of_ble_eq_true rfl⟩ [0, 1, 2, 3, 4, 5, 6, 7, 8, 9] [] [0, 1, 2, 3, 4, 5, 6, 7, 8, 9] rfl rfl (by decide) (by decide) (by decide) (by decide) rfl (ci := 7) (q0 := 0) rfl rfl rfl (Nat.le_of_ble_eq_true rfl) ⟨Nat.zero_le _, Nat.zero_le _⟩ dX7_marks_29 (fun H locs hP hD hS => ?_)
        refine lv_aload_n hx hb dX7_marks_32 rfl (lv_at hl 0 rfl) ?_
        refine va_get (D := D) (ci := 7) (v := .ref z1) (C := RX7) (T := TX7) (N := 17) hx hb hts inT7 hown hK hP 0 rfl rfl 0 (by decide) (hts _ mT_566) (fun _ h9 => h9) rfl dX7_marks_33 ?_
        refine lv_bipush (v := 107) hx hb dX7_marks_36 (by decide) ?_
        refine lv_bipush (v := 13) hx hb dX7_marks_38 (by decide) ?_
        refine lv_iload_n hx hb dX7_marks_40 rfl (lv_at hl 1 rfl) ?_
        refine lv_imul hx hb dX7_marks_41 ?_
        refine lv_iadd hx hb dX7_marks_42 ?_
        refine lv_iconst (v := 2) hx hb dX7_marks_43 (by decide) ?_
        refine lv_iadd hx hb dX7_marks_44 ?_
        refine lv_iload_n hx hb dX7_marks_45 rfl (lv_at hl 2 rfl) ?_
        obtain ⟨b12, hf⟩ := gd_some hf
        refine va_iast (n := 367) (f := q10 1) hx hb hK hP hD hS 1 0 rfl rfl (ck_in b12) dX7_marks_46 (fun H locs hP hD hS => ?_)
        have hP : va_P D vwCl (cModel cI cZ za z1 z2 z3 z4 z5 z6 z7 z8 z9 (sA q10 1 (upd (q10 1) (Int32.toNatClampNeg ((107 + (13 * x)) + 2)) y))) H := hP
        have hD : va_D A (cModel cI cZ za z1 z2 z3 z4 z5 z6 z7 z8 z9 (sA q10 1 (upd (q10 1) (Int32.toNatClampNeg ((107 + (13 * x)) + 2)) y))) := hD
        refine lv_aload_n hx hb dX7_marks_47 rfl (lv_at hl 0 rfl) ?_
        refine va_get (D := D) (ci := 7) (v := .ref z1) (C := RX7) (T := TX7) (N := 17) hx hb hts inT7 hown hK hP 0 rfl rfl 0 (by decide) (hts _ mT_566) (fun _ h9 => h9) rfl dX7_marks_48 ?_
        refine lv_bipush (v := 107) hx hb dX7_marks_51 (by decide) ?_
        refine lv_bipush (v := 13) hx hb dX7_marks_53 (by decide) ?_
        refine lv_iload_n hx hb dX7_marks_55 rfl (lv_at hl 1 rfl) ?_
        refine lv_imul hx hb dX7_marks_56 ?_
        refine lv_iadd hx hb dX7_marks_57 ?_
        refine lv_iconst (v := 3) hx hb dX7_marks_58 (by decide) ?_
        refine lv_iadd hx hb dX7_marks_59 ?_
        refine lv_iload_n hx hb dX7_marks_60 rfl (lv_at hl 3 rfl) ?_
        obtain ⟨b13, hf⟩ := gd_some hf
        refine va_iast (n := 367) (f := upd (q10 1) (Int32.toNatClampNeg ((107 + (13 * x)) + 2)) y) hx hb hK hP hD hS 1 0 rfl rfl (ck_in b13) dX7_marks_61 (fun H locs hP hD hS => ?_)
        have hP : va_P D vwCl (cModel cI cZ za z1 z2 z3 z4 z5 z6 z7 z8 z9 (sA (sA q10 1 (upd (q10 1) (Int32.toNatClampNeg ((107 + (13 * x)) + 2)) y)) 1 (upd (upd (q10 1) (Int32.toNatClampNeg ((107 + (13 * x)) + 2)) y) (Int32.toNatClampNeg ((107 + (13 * x)) + 3)) v))) H := hP
        have hD : va_D A (cModel cI cZ za z1 z2 z3 z4 z5 z6 z7 z8 z9 (sA (sA q10 1 (upd (q10 1) (Int32.toNatClampNeg ((107 + (13 * x)) + 2)) y)) 1 (upd (upd (q10 1) (Int32.toNatClampNeg ((107 + (13 * x)) + 2)) y) (Int32.toNatClampNeg ((107 + (13 * x)) + 3)) v))) := hD
        refine lv_iconst (v := 1) hx hb dX7_marks_62 (by decide) ?_
        exact hret _ _ _ (sA (sA q10 1 (upd (q10 1) (Int32.toNatClampNeg ((107 + (13 * x)) + 2)) y)) 1 (upd (upd (q10 1) (Int32.toNatClampNeg ((107 + (13 * x)) + 2)) y) (Int32.toNatClampNeg ((107 + (13 * x)) + 3)) v)) _ _ hf dX7_marks_63 hP hD hS
      · have hf := ite_t c9 hf
        refine lv_ldc (v := (-1000000002)) hx hb hown (hts _ mT_722) dX7_marks_25 ?_
        exact hret _ _ _ z _ _ hf dX7_marks_27 hP hD hS
  · have hf := ite_t c3 hf
    refine lv_ldc (v := (-1000000001)) hx hb hown (hts _ mT_731) dX7_marks_8 ?_
    exact hret _ _ _ z _ _ hf dX7_marks_10 hP hD hS
theorem s_yX7_gate : kMS yX7_gate cX7_gate 4 (some .int) 2 := ⟨mT_815, mT_59, by decide +kernel⟩
theorem v_yX7_gate : kMV yX7_gate := ⟨mT_813, mT_814⟩
def f_m_gate (z : Ob) (x : Int32) (y : Int32) : Option (Int32 × Ob) := bd (f_m_isWay z x) (fun q1 => if q1 = 0 then (some ((-1000000001), z)) else (bd (f_m_isValue z y) (fun q4 => if q4 = 0 then (some ((-1000000001), z)) else (bd (f_m_notes z) (fun q7 => bd (f_m_of q7 x 4) (fun q9 => gd (ck ((107 + (13 * x)) + 4) 367) (some (q9, sA q7 1 (upd (q7 1) (Int32.toNatClampNeg ((107 + (13 * x)) + 4)) y)))))))))
set_option maxHeartbeats 4000000 in
set_option maxRecDepth 100000 in
theorem c_m_gate (l : Launch) (D : va_G) (cI cZ cR : ClassId) (za z1 z2 z3 z4 z5 z6 z7 z8 z9 : Nat) (z : Ob) (x : Int32) (y : Int32) (sz : Nat) (r : Int32) (u : Ob) (hf : f_m_gate z x y = some (r, u)) : kCi l yX7_gate cX7_gate 4 (some .int) { frames := 2, cells := 0, slots := 0, locals := 43 } [.ref za, .int x, .int y] D cI cZ cR (cModel cI cZ za z1 z2 z3 z4 z5 z6 z7 z8 z9 z) sz (cModel cI cZ za z1 z2 z3 z4 z5 z6 z7 z8 z9 u) r := by
  refine kMwi (wf := (fun u : Ob => cModel cI cZ za z1 z2 z3 z4 z5 z6 z7 z8 z9 u)) (u := u) (by decide) (Nat.le_of_ble_eq_true rfl) ?_
  intro p e s m below meth c Q A hx hb hml hown hts hk hP hD hA hS hret ls hl
  have hS0 := hS
  have hK := hk.1
  have hl : lv_has ls 4 [(0, .ref za), (1, .int x), (2, .int y)] := hl
  rw [f_m_gate] at hf
  refine lv_aload_n hx hb dX7_gate_0 rfl (lv_at hl 0 rfl) ?_
  refine lv_iload_n hx hb dX7_gate_1 rfl (lv_at hl 1 rfl) ?_
  obtain ⟨q1, h2, hf⟩ := bd_some hf
  refine kx_rv (As := [.int x]) (rest := []) hx hb hml hown hts hk hP hl.1 s_yX7_isWay v_yX7_isWay (c_m_isWay l D cI cZ cR za z1 z2 z3 z4 z5 z6 z7 z8 z9 z x _ h2) mT_752 rfl rfl ⟨Nat.le_of_ble_eq_true rfl, Nat.le_of_ble_eq_true rfl⟩ (ci := 7) (q0 := 0) rfl rfl rfl (Nat.le_of_ble_eq_true rfl) ⟨Nat.zero_le _, Nat.zero_le _⟩ dX7_gate_2 ?_
  refine lv_if_eq (tgt := 16) hx hb dX7_gate_5 (by decide) (fun c3 => ?_) (fun c3 => ?_)
  · have hf := ite_t c3 hf
    refine lv_ldc (v := (-1000000001)) hx hb hown (hts _ mT_731) dX7_gate_16 ?_
    exact hret _ _ _ z _ _ hf dX7_gate_18 hP hD hS
  · have hf := ite_f c3 hf
    refine lv_aload_n hx hb dX7_gate_8 rfl (lv_at hl 0 rfl) ?_
    refine lv_iload_n hx hb dX7_gate_9 rfl (lv_at hl 2 rfl) ?_
    obtain ⟨q4, h5, hf⟩ := bd_some hf
    refine kx_rv (As := [.int y]) (rest := []) hx hb hml hown hts hk hP hl.1 s_yX7_isValue v_yX7_isValue (c_m_isValue l D cI cZ cR za z1 z2 z3 z4 z5 z6 z7 z8 z9 z y _ h5) mT_727 rfl rfl ⟨Nat.le_of_ble_eq_true rfl, Nat.le_of_ble_eq_true rfl⟩ (ci := 7) (q0 := 0) rfl rfl rfl (Nat.le_of_ble_eq_true rfl) ⟨Nat.zero_le _, Nat.zero_le _⟩ dX7_gate_10 ?_
    refine lv_if_ne (tgt := 19) hx hb dX7_gate_13 (by decide) (fun c6 => ?_) (fun c6 => ?_)
    · have hf := ite_f c6 hf
      refine lv_aload_n hx hb dX7_gate_19 rfl (lv_at hl 0 rfl) ?_
      obtain ⟨q7, h8, hf⟩ := bd_some hf
      refine kx_wv (As := []) (rest := []) (wc := cModel cI cZ za z1 z2 z3 z4 z5 z6 z7 z8 z9 z) (wr := []) (wd := cModel cI cZ za z1 z2 z3 z4 z5 z6 z7 z8 z9 q7) (wn := cModel cI cZ za z1 z2 z3 z4 z5 z6 z7 z8 z9 q7) hx hb hml hown hts hk hP hD hS hA hl.1 s_yX7_notes v_yX7_notes (c_m_notes l D cI cZ cR za z1 z2 z3 z4 z5 z6 z7 z8 z9 z H.size _ h8) mT_776 rfl rfl ⟨Nat.le_of_ble_eq_true rfl, Nat.le_of_ble_eq_true rfl⟩ [0, 1, 2, 3, 4, 5, 6, 7, 8, 9] [] [0, 1, 2, 3, 4, 5, 6, 7, 8, 9] rfl rfl (by decide) (by decide) (by decide) (by decide) rfl (ci := 7) (q0 := 0) rfl rfl rfl (Nat.le_of_ble_eq_true rfl) ⟨Nat.zero_le _, Nat.zero_le _⟩ dX7_gate_20 (fun H locs hP hD hS => ?_)
      refine lv_aload_n hx hb dX7_gate_23 rfl (lv_at hl 0 rfl) ?_
      refine lv_iload_n hx hb dX7_gate_24 rfl (lv_at hl 1 rfl) ?_
      refine lv_iconst (v := 4) hx hb dX7_gate_25 (by decide) ?_
      obtain ⟨q9, h10, hf⟩ := bd_some hf
      refine kx_rv (As := [.int x, .int 4]) (rest := []) hx hb hml hown hts hk hP hl.1 s_yX7_of v_yX7_of (c_m_of l D cI cZ cR za z1 z2 z3 z4 z5 z6 z7 z8 z9 q7 x 4 _ h10) mT_647 rfl rfl ⟨Nat.le_of_ble_eq_true rfl, Nat.le_of_ble_eq_true rfl⟩ (ci := 7) (q0 := 0) rfl rfl rfl (Nat.le_of_ble_eq_true rfl) ⟨Nat.zero_le _, Nat.zero_le _⟩ dX7_gate_26 ?_
      refine lv_istore_n (lv' := [(3, .int q9), (0, .ref za), (1, .int x), (2, .int y)]) hx hb dX7_gate_29 rfl hl (by decide) rfl (fun ls hl => ?_)
      refine lv_aload_n hx hb dX7_gate_30 rfl (lv_at hl 1 rfl) ?_
      refine va_get (D := D) (ci := 7) (v := .ref z1) (C := RX7) (T := TX7) (N := 17) hx hb hts inT7 hown hK hP 0 rfl rfl 0 (by decide) (hts _ mT_566) (fun _ h9 => h9) rfl dX7_gate_31 ?_
      refine lv_bipush (v := 107) hx hb dX7_gate_34 (by decide) ?_
      refine lv_bipush (v := 13) hx hb dX7_gate_36 (by decide) ?_
      refine lv_iload_n hx hb dX7_gate_38 rfl (lv_at hl 2 rfl) ?_
      refine lv_imul hx hb dX7_gate_39 ?_
      refine lv_iadd hx hb dX7_gate_40 ?_
      refine lv_iconst (v := 4) hx hb dX7_gate_41 (by decide) ?_
      refine lv_iadd hx hb dX7_gate_42 ?_
      refine lv_iload_n hx hb dX7_gate_43 rfl (lv_at hl 3 rfl) ?_
      obtain ⟨b11, hf⟩ := gd_some hf
      refine va_iast (n := 367) (f := q7 1) hx hb hK hP hD hS 1 0 rfl rfl (ck_in b11) dX7_gate_44 (fun H locs hP hD hS => ?_)
      have hP : va_P D vwCl (cModel cI cZ za z1 z2 z3 z4 z5 z6 z7 z8 z9 (sA q7 1 (upd (q7 1) (Int32.toNatClampNeg ((107 + (13 * x)) + 4)) y))) H := hP
      have hD : va_D A (cModel cI cZ za z1 z2 z3 z4 z5 z6 z7 z8 z9 (sA q7 1 (upd (q7 1) (Int32.toNatClampNeg ((107 + (13 * x)) + 4)) y))) := hD
      refine lv_iload_n hx hb dX7_gate_45 rfl (lv_at hl 0 rfl) ?_
      exact hret _ _ _ (sA q7 1 (upd (q7 1) (Int32.toNatClampNeg ((107 + (13 * x)) + 4)) y)) _ _ hf dX7_gate_46 hP hD hS
    · have hf := ite_t c6 hf
      refine lv_ldc (v := (-1000000001)) hx hb hown (hts _ mT_731) dX7_gate_16 ?_
      exact hret _ _ _ z _ _ hf dX7_gate_18 hP hD hS
theorem s_yX7_write : kMS yX7_write cX7_write 4 (some .int) 3 := ⟨mT_819, mT_59, by decide +kernel⟩
theorem v_yX7_write : kMV yX7_write := ⟨mT_817, mT_818⟩
def f_m_write (z : Ob) (x : Int32) (y : Int32) (v : Int32) : Option (Int32 × Ob) := bd (f_m_isPlace z x) (fun q1 => if q1 = 0 then (some ((-1000000001), z)) else (bd (f_m_isValue z y) (fun q4 => if q4 = 0 then (some ((-1000000001), z)) else (bd (f_m_isSet v) (fun q7 => if q7 = 0 then (some ((-1000000002), z)) else (bd (f_m_isKept z x) (fun q10 => if q10 = 0 then (some ((-1000000003), z)) else (bd (f_m_notes z) (fun q13 => gd (ck (87 + x) 367) (gd (ck (97 + x) 367) (bd (f_m_refused (sA (sA q13 1 (upd (q13 1) (Int32.toNatClampNeg (87 + x)) y)) 1 (upd (upd (q13 1) (Int32.toNatClampNeg (87 + x)) y) (Int32.toNatClampNeg (97 + x)) v))) (fun q17 => some (q17.1, q17.2)))))))))))))
set_option maxHeartbeats 4000000 in
set_option maxRecDepth 100000 in
theorem c_m_write (l : Launch) (D : va_G) (cI cZ cR : ClassId) (za z1 z2 z3 z4 z5 z6 z7 z8 z9 : Nat) (z : Ob) (x : Int32) (y : Int32) (v : Int32) (sz : Nat) (r : Int32) (u : Ob) (hf : f_m_write z x y v = some (r, u)) : kCi l yX7_write cX7_write 4 (some .int) { frames := 6, cells := 0, slots := 0, locals := 135 } [.ref za, .int x, .int y, .int v] D cI cZ cR (cModel cI cZ za z1 z2 z3 z4 z5 z6 z7 z8 z9 z) sz (cModel cI cZ za z1 z2 z3 z4 z5 z6 z7 z8 z9 u) r := by
  refine kMwi (wf := (fun u : Ob => cModel cI cZ za z1 z2 z3 z4 z5 z6 z7 z8 z9 u)) (u := u) (by decide) (Nat.le_of_ble_eq_true rfl) ?_
  intro p e s m below meth c Q A hx hb hml hown hts hk hP hD hA hS hret ls hl
  have hS0 := hS
  have hK := hk.1
  have hl : lv_has ls 4 [(0, .ref za), (1, .int x), (2, .int y), (3, .int v)] := hl
  rw [f_m_write] at hf
  refine lv_aload_n hx hb dX7_write_0 rfl (lv_at hl 0 rfl) ?_
  refine lv_iload_n hx hb dX7_write_1 rfl (lv_at hl 1 rfl) ?_
  obtain ⟨q1, h2, hf⟩ := bd_some hf
  refine kx_rv (As := [.int x]) (rest := []) hx hb hml hown hts hk hP hl.1 s_yX7_isPlace v_yX7_isPlace (c_m_isPlace l D cI cZ cR za z1 z2 z3 z4 z5 z6 z7 z8 z9 z x _ h2) mT_715 rfl rfl ⟨Nat.le_of_ble_eq_true rfl, Nat.le_of_ble_eq_true rfl⟩ (ci := 7) (q0 := 0) rfl rfl rfl (Nat.le_of_ble_eq_true rfl) ⟨Nat.zero_le _, Nat.zero_le _⟩ dX7_write_2 ?_
  refine lv_if_eq (tgt := 16) hx hb dX7_write_5 (by decide) (fun c3 => ?_) (fun c3 => ?_)
  · have hf := ite_t c3 hf
    refine lv_ldc (v := (-1000000001)) hx hb hown (hts _ mT_731) dX7_write_16 ?_
    exact hret _ _ _ z _ _ hf dX7_write_18 hP hD hS
  · have hf := ite_f c3 hf
    refine lv_aload_n hx hb dX7_write_8 rfl (lv_at hl 0 rfl) ?_
    refine lv_iload_n hx hb dX7_write_9 rfl (lv_at hl 2 rfl) ?_
    obtain ⟨q4, h5, hf⟩ := bd_some hf
    refine kx_rv (As := [.int y]) (rest := []) hx hb hml hown hts hk hP hl.1 s_yX7_isValue v_yX7_isValue (c_m_isValue l D cI cZ cR za z1 z2 z3 z4 z5 z6 z7 z8 z9 z y _ h5) mT_727 rfl rfl ⟨Nat.le_of_ble_eq_true rfl, Nat.le_of_ble_eq_true rfl⟩ (ci := 7) (q0 := 0) rfl rfl rfl (Nat.le_of_ble_eq_true rfl) ⟨Nat.zero_le _, Nat.zero_le _⟩ dX7_write_10 ?_
    refine lv_if_ne (tgt := 19) hx hb dX7_write_13 (by decide) (fun c6 => ?_) (fun c6 => ?_)
    · have hf := ite_f c6 hf
      refine lv_iload_n hx hb dX7_write_19 rfl (lv_at hl 3 rfl) ?_
      obtain ⟨q7, h8, hf⟩ := bd_some hf
      refine kx_rs (As := [.int v]) (rest := []) hx hb hml hown hts hk hl.1 s_yX7_isSet mT_789 (c_m_isSet l D cI cZ cR v _ h8) mT_788 rfl rfl ⟨Nat.le_of_ble_eq_true rfl, Nat.le_of_ble_eq_true rfl⟩ rfl (Nat.le_of_ble_eq_true rfl) ⟨Nat.zero_le _, Nat.zero_le _⟩ dX7_write_20 ?_
      refine lv_if_ne (tgt := 29) hx hb dX7_write_23 (by decide) (fun c9 => ?_) (fun c9 => ?_)
      · have hf := ite_f c9 hf
        refine lv_aload_n hx hb dX7_write_29 rfl (lv_at hl 0 rfl) ?_
        refine lv_iload_n hx hb dX7_write_30 rfl (lv_at hl 1 rfl) ?_
        obtain ⟨q10, h11, hf⟩ := bd_some hf
        refine kx_rv (As := [.int x]) (rest := []) hx hb hml hown hts hk hP hl.1 s_yX7_isKept v_yX7_isKept (c_m_isKept l D cI cZ cR za z1 z2 z3 z4 z5 z6 z7 z8 z9 z x _ h11) mT_659 rfl rfl ⟨Nat.le_of_ble_eq_true rfl, Nat.le_of_ble_eq_true rfl⟩ (ci := 7) (q0 := 0) rfl rfl rfl (Nat.le_of_ble_eq_true rfl) ⟨Nat.zero_le _, Nat.zero_le _⟩ dX7_write_31 ?_
        refine lv_if_ne (tgt := 40) hx hb dX7_write_34 (by decide) (fun c12 => ?_) (fun c12 => ?_)
        · have hf := ite_f c12 hf
          refine lv_aload_n hx hb dX7_write_40 rfl (lv_at hl 0 rfl) ?_
          obtain ⟨q13, h14, hf⟩ := bd_some hf
          refine kx_wv (As := []) (rest := []) (wc := cModel cI cZ za z1 z2 z3 z4 z5 z6 z7 z8 z9 z) (wr := []) (wd := cModel cI cZ za z1 z2 z3 z4 z5 z6 z7 z8 z9 q13) (wn := cModel cI cZ za z1 z2 z3 z4 z5 z6 z7 z8 z9 q13) hx hb hml hown hts hk hP hD hS hA hl.1 s_yX7_notes v_yX7_notes (c_m_notes l D cI cZ cR za z1 z2 z3 z4 z5 z6 z7 z8 z9 z H.size _ h14) mT_776 rfl rfl ⟨Nat.le_of_ble_eq_true rfl, Nat.le_of_ble_eq_true rfl⟩ [0, 1, 2, 3, 4, 5, 6, 7, 8, 9] [] [0, 1, 2, 3, 4, 5, 6, 7, 8, 9] rfl rfl (by decide) (by decide) (by decide) (by decide) rfl (ci := 7) (q0 := 0) rfl rfl rfl (Nat.le_of_ble_eq_true rfl) ⟨Nat.zero_le _, Nat.zero_le _⟩ dX7_write_41 (fun H locs hP hD hS => ?_)
          refine lv_aload_n hx hb dX7_write_44 rfl (lv_at hl 0 rfl) ?_
          refine va_get (D := D) (ci := 7) (v := .ref z1) (C := RX7) (T := TX7) (N := 17) hx hb hts inT7 hown hK hP 0 rfl rfl 0 (by decide) (hts _ mT_566) (fun _ h9 => h9) rfl dX7_write_45 ?_
          refine lv_bipush (v := 87) hx hb dX7_write_48 (by decide) ?_
          refine lv_iload_n hx hb dX7_write_50 rfl (lv_at hl 1 rfl) ?_
          refine lv_iadd hx hb dX7_write_51 ?_
          refine lv_iload_n hx hb dX7_write_52 rfl (lv_at hl 2 rfl) ?_
          obtain ⟨b15, hf⟩ := gd_some hf
          refine va_iast (n := 367) (f := q13 1) hx hb hK hP hD hS 1 0 rfl rfl (ck_in b15) dX7_write_53 (fun H locs hP hD hS => ?_)
          have hP : va_P D vwCl (cModel cI cZ za z1 z2 z3 z4 z5 z6 z7 z8 z9 (sA q13 1 (upd (q13 1) (Int32.toNatClampNeg (87 + x)) y))) H := hP
          have hD : va_D A (cModel cI cZ za z1 z2 z3 z4 z5 z6 z7 z8 z9 (sA q13 1 (upd (q13 1) (Int32.toNatClampNeg (87 + x)) y))) := hD
          refine lv_aload_n hx hb dX7_write_54 rfl (lv_at hl 0 rfl) ?_
          refine va_get (D := D) (ci := 7) (v := .ref z1) (C := RX7) (T := TX7) (N := 17) hx hb hts inT7 hown hK hP 0 rfl rfl 0 (by decide) (hts _ mT_566) (fun _ h9 => h9) rfl dX7_write_55 ?_
          refine lv_bipush (v := 97) hx hb dX7_write_58 (by decide) ?_
          refine lv_iload_n hx hb dX7_write_60 rfl (lv_at hl 1 rfl) ?_
          refine lv_iadd hx hb dX7_write_61 ?_
          refine lv_iload_n hx hb dX7_write_62 rfl (lv_at hl 3 rfl) ?_
          obtain ⟨b16, hf⟩ := gd_some hf
          refine va_iast (n := 367) (f := upd (q13 1) (Int32.toNatClampNeg (87 + x)) y) hx hb hK hP hD hS 1 0 rfl rfl (ck_in b16) dX7_write_63 (fun H locs hP hD hS => ?_)
          have hP : va_P D vwCl (cModel cI cZ za z1 z2 z3 z4 z5 z6 z7 z8 z9 (sA (sA q13 1 (upd (q13 1) (Int32.toNatClampNeg (87 + x)) y)) 1 (upd (upd (q13 1) (Int32.toNatClampNeg (87 + x)) y) (Int32.toNatClampNeg (97 + x)) v))) H := hP
          have hD : va_D A (cModel cI cZ za z1 z2 z3 z4 z5 z6 z7 z8 z9 (sA (sA q13 1 (upd (q13 1) (Int32.toNatClampNeg (87 + x)) y)) 1 (upd (upd (q13 1) (Int32.toNatClampNeg (87 + x)) y) (Int32.toNatClampNeg (97 + x)) v))) := hD
          refine lv_aload_n hx hb dX7_write_64 rfl (lv_at hl 0 rfl) ?_
          obtain ⟨q17, h18, hf⟩ := bd_some hf
          refine kx_wi (As := []) (rest := []) (wc := cModel cI cZ za z1 z2 z3 z4 z5 z6 z7 z8 z9 (sA (sA q13 1 (upd (q13 1) (Int32.toNatClampNeg (87 + x)) y)) 1 (upd (upd (q13 1) (Int32.toNatClampNeg (87 + x)) y) (Int32.toNatClampNeg (97 + x)) v))) (wr := []) (wd := cModel cI cZ za z1 z2 z3 z4 z5 z6 z7 z8 z9 q17.2) (wn := cModel cI cZ za z1 z2 z3 z4 z5 z6 z7 z8 z9 q17.2) hx hb hml hown hts hk hP hD hS hA hl.1 s_yX7_refused v_yX7_refused (c_m_refused l D cI cZ cR za z1 z2 z3 z4 z5 z6 z7 z8 z9 (sA (sA q13 1 (upd (q13 1) (Int32.toNatClampNeg (87 + x)) y)) 1 (upd (upd (q13 1) (Int32.toNatClampNeg (87 + x)) y) (Int32.toNatClampNeg (97 + x)) v)) H.size _ _ h18) mT_663 rfl rfl ⟨Nat.le_of_ble_eq_true rfl, Nat.le_of_ble_eq_true rfl⟩ [0, 1, 2, 3, 4, 5, 6, 7, 8, 9] [] [0, 1, 2, 3, 4, 5, 6, 7, 8, 9] rfl rfl (by decide) (by decide) (by decide) (by decide) rfl (ci := 7) (q0 := 0) rfl rfl rfl (Nat.le_of_ble_eq_true rfl) ⟨Nat.zero_le _, Nat.zero_le _⟩ dX7_write_65 (fun H locs hP hD hS => ?_)
          exact hret _ _ _ q17.2 _ _ hf dX7_write_68 hP hD hS
        · have hf := ite_t c12 hf
          refine lv_ldc (v := (-1000000003)) hx hb hown (hts _ mT_820) dX7_write_37 ?_
          exact hret _ _ _ z _ _ hf dX7_write_39 hP hD hS
      · have hf := ite_t c9 hf
        refine lv_ldc (v := (-1000000002)) hx hb hown (hts _ mT_722) dX7_write_26 ?_
        exact hret _ _ _ z _ _ hf dX7_write_28 hP hD hS
    · have hf := ite_t c6 hf
      refine lv_ldc (v := (-1000000001)) hx hb hown (hts _ mT_731) dX7_write_16 ?_
      exact hret _ _ _ z _ _ hf dX7_write_18 hP hD hS
theorem s_yX7_copy : kMS yX7_copy cX7_copy 3 (some .int) 0 := ⟨mT_824, mT_59, by decide +kernel⟩
theorem v_yX7_copy : kMV yX7_copy := ⟨mT_822, mT_823⟩
def k_m_copy_31 (x1_10 : Int32) (x2_11 : Int32) (z_12 : Ob) : Option (Int32 × Ob) := some (x1_10, z_12)
def lp_m_copy_31 (kk0 : Int32 → Int32 → Ob → Option (Int32 × Ob)) : Nat → Int32 → Int32 → Ob → Option (Int32 × Ob)
  | 0, _, _, _ => none
  | fu9 + 1, x1_10, x2_11, z_12 => if ((z_12 1) (Int32.toNatClampNeg 1)) ≤ x2_11 then (kk0 x1_10 x2_11 z_12) else (bd (f_m_isKept z_12 x2_11) (fun q14 => if q14 = 0 then ((lp_m_copy_31 kk0 fu9) x1_10 (x2_11 + 1) z_12) else (gd (ck x2_11 20) (gd (ck (87 + x2_11) 367) (gd (ck (10 + x2_11) 20) (gd (ck (97 + x2_11) 367) ((lp_m_copy_31 kk0 fu9) (x1_10 + 1) (x2_11 + 1) (sA (sA z_12 1 (upd (z_12 1) (Int32.toNatClampNeg (87 + x2_11)) ((z_12 6) (Int32.toNatClampNeg x2_11)))) 1 (upd (upd (z_12 1) (Int32.toNatClampNeg (87 + x2_11)) ((z_12 6) (Int32.toNatClampNeg x2_11))) (Int32.toNatClampNeg (97 + x2_11)) ((z_12 6) (Int32.toNatClampNeg (10 + x2_11))))))))))))
def f_m_copy (z : Ob) : Option (Int32 × Ob) := bd (f_m_isWell z) (fun q1 => if q1 = 0 then (some ((-1000000003), z)) else (bd (f_m_works 6 z 0 (-1)) (fun q4 => if 0 ≤ q4.1 then (bd (f_m_notes q4.2) (fun q7 => lp_m_copy_31 k_m_copy_31 10000 0 0 q7)) else (some ((-1000000003), q4.2)))))
set_option maxHeartbeats 4000000 in
set_option maxRecDepth 100000 in
theorem c_m_copy (l : Launch) (D : va_G) (cI cZ cR : ClassId) (za z1 z2 z3 z4 z5 z6 z7 z8 z9 : Nat) (z : Ob) (sz : Nat) (r : Int32) (u : Ob) (hf : f_m_copy z = some (r, u)) : kCi l yX7_copy cX7_copy 3 (some .int) { frames := 5, cells := 0, slots := 0, locals := 118 } [.ref za] D cI cZ cR (cModel cI cZ za z1 z2 z3 z4 z5 z6 z7 z8 z9 z) sz (cModel cI cZ za z1 z2 z3 z4 z5 z6 z7 z8 z9 u) r := by
  refine kMwi (wf := (fun u : Ob => cModel cI cZ za z1 z2 z3 z4 z5 z6 z7 z8 z9 u)) (u := u) (by decide) (Nat.le_of_ble_eq_true rfl) ?_
  intro p e s m below meth c Q A hx hb hml hown hts hk hP hD hA hS hret ls hl
  have hS0 := hS
  have hK := hk.1
  have hl : lv_has ls 3 [(0, .ref za)] := hl
  rw [f_m_copy] at hf
  refine lv_aload_n hx hb dX7_copy_0 rfl (lv_at hl 0 rfl) ?_
  obtain ⟨q1, h2, hf⟩ := bd_some hf
  refine kx_rv (As := []) (rest := []) hx hb hml hown hts hk hP hl.1 s_yX7_isWell v_yX7_isWell (c_m_isWell l D cI cZ cR za z1 z2 z3 z4 z5 z6 z7 z8 z9 z _ h2) mT_651 rfl rfl ⟨Nat.le_of_ble_eq_true rfl, Nat.le_of_ble_eq_true rfl⟩ (ci := 7) (q0 := 0) rfl rfl rfl (Nat.le_of_ble_eq_true rfl) ⟨Nat.zero_le _, Nat.zero_le _⟩ dX7_copy_1 ?_
  refine lv_if_eq (tgt := 20) hx hb dX7_copy_4 (by decide) (fun c3 => ?_) (fun c3 => ?_)
  · have hf := ite_t c3 hf
    refine lv_ldc (v := (-1000000003)) hx hb hown (hts _ mT_820) dX7_copy_20 ?_
    exact hret _ _ _ z _ _ hf dX7_copy_22 hP hD hS
  · have hf := ite_f c3 hf
    refine lv_aload_n hx hb dX7_copy_7 rfl (lv_at hl 0 rfl) ?_
    refine lv_aload_n hx hb dX7_copy_8 rfl (lv_at hl 0 rfl) ?_
    refine va_get (D := D) (ci := 7) (v := .ref z6) (C := RX7) (T := TX7) (N := 17) hx hb hts inT7 hown hK hP 0 rfl rfl 8 (by decide) (hts _ mT_574) (fun _ h9 => h9) rfl dX7_copy_9 ?_
    refine lv_iconst (v := 0) hx hb dX7_copy_12 (by decide) ?_
    refine lv_iconst (v := (-1)) hx hb dX7_copy_13 (by decide) ?_
    obtain ⟨q4, h5, hf⟩ := bd_some hf
    refine kx_wi (As := [.ref z6, .int 0, .int (-1)]) (rest := []) (wc := cModel cI cZ za z1 z2 z3 z4 z5 z6 z7 z8 z9 z) (wr := []) (wd := cModel cI cZ za z1 z2 z3 z4 z5 z6 z7 z8 z9 q4.2) (wn := cModel cI cZ za z1 z2 z3 z4 z5 z6 z7 z8 z9 q4.2) hx hb hml hown hts hk hP hD hS hA hl.1 s_yX7_works v_yX7_works (c_m_works6 l D cI cZ cR za z1 z2 z3 z4 z5 z6 z7 z8 z9 z 0 (-1) H.size _ _ h5) mT_691 rfl rfl ⟨Nat.le_of_ble_eq_true rfl, Nat.le_of_ble_eq_true rfl⟩ [0, 1, 2, 3, 4, 5, 6, 7, 8, 9] [] [0, 1, 2, 3, 4, 5, 6, 7, 8, 9] rfl rfl (by decide) (by decide) (by decide) (by decide) rfl (ci := 7) (q0 := 0) rfl rfl rfl (Nat.le_of_ble_eq_true rfl) ⟨Nat.zero_le _, Nat.zero_le _⟩ dX7_copy_14 (fun H locs hP hD hS => ?_)
    refine lv_if_ge (tgt := 23) hx hb dX7_copy_17 (by decide) (fun c6 => ?_) (fun c6 => ?_)
    · have hf := ite_t c6 hf
      refine lv_aload_n hx hb dX7_copy_23 rfl (lv_at hl 0 rfl) ?_
      obtain ⟨q7, h8, hf⟩ := bd_some hf
      refine kx_wv (As := []) (rest := []) (wc := cModel cI cZ za z1 z2 z3 z4 z5 z6 z7 z8 z9 q4.2) (wr := []) (wd := cModel cI cZ za z1 z2 z3 z4 z5 z6 z7 z8 z9 q7) (wn := cModel cI cZ za z1 z2 z3 z4 z5 z6 z7 z8 z9 q7) hx hb hml hown hts hk hP hD hS hA hl.1 s_yX7_notes v_yX7_notes (c_m_notes l D cI cZ cR za z1 z2 z3 z4 z5 z6 z7 z8 z9 q4.2 H.size _ h8) mT_776 rfl rfl ⟨Nat.le_of_ble_eq_true rfl, Nat.le_of_ble_eq_true rfl⟩ [0, 1, 2, 3, 4, 5, 6, 7, 8, 9] [] [0, 1, 2, 3, 4, 5, 6, 7, 8, 9] rfl rfl (by decide) (by decide) (by decide) (by decide) rfl (ci := 7) (q0 := 0) rfl rfl rfl (Nat.le_of_ble_eq_true rfl) ⟨Nat.zero_le _, Nat.zero_le _⟩ dX7_copy_24 (fun H locs hP hD hS => ?_)
      refine lv_iconst (v := 0) hx hb dX7_copy_27 (by decide) ?_
      refine lv_istore_n (lv' := [(1, .int 0), (0, .ref za)]) hx hb dX7_copy_28 rfl hl (by decide) rfl (fun ls hl => ?_)
      refine lv_iconst (v := 0) hx hb dX7_copy_29 (by decide) ?_
      refine lv_istore_n (lv' := [(2, .int 0), (1, .int 0), (0, .ref za)]) hx hb dX7_copy_30 rfl hl (by decide) rfl (fun ls hl => ?_)
      have kx9 : ∀ (x1_10 : Int32) (x2_11 : Int32) (z_12 : Ob) (H : Heap) (locs : List Loc) (ls : Array Slot), k_m_copy_31 x1_10 x2_11 z_12 = some (r, u) → va_P D vwCl (cModel cI cZ za z1 z2 z3 z4 z5 z6 z7 z8 z9 z_12) H → va_D A (cModel cI cZ za z1 z2 z3 z4 z5 z6 z7 z8 z9 z_12) → va_S A s.heap H locs → lv_has ls 3 [(0, .ref za), (1, .int x1_10), (2, .int x2_11)] → W p l e ({ frames := 5, cells := 0, slots := 0, locals := 118 } : Room) s m ([.ref za] : List Value).toArray below meth c H locs 0 0 Q (F0 m 91 ls []) := by
        intro x1_10 x2_11 z_12 H locs ls hf hP hD hS hl
        rw [k_m_copy_31] at hf
        refine lv_iload_n hx hb dX7_copy_91 rfl (lv_at hl 1 rfl) ?_
        exact hret _ _ _ z_12 _ _ hf dX7_copy_92 hP hD hS
      have lh9 : ∀ (fu9 : Nat) (x1_10 : Int32) (x2_11 : Int32) (z_12 : Ob) (H : Heap) (locs : List Loc) (ls : Array Slot), lp_m_copy_31 k_m_copy_31 fu9 x1_10 x2_11 z_12 = some (r, u) → va_P D vwCl (cModel cI cZ za z1 z2 z3 z4 z5 z6 z7 z8 z9 z_12) H → va_D A (cModel cI cZ za z1 z2 z3 z4 z5 z6 z7 z8 z9 z_12) → va_S A s.heap H locs → lv_has ls 3 [(0, .ref za), (1, .int x1_10), (2, .int x2_11)] → W p l e ({ frames := 5, cells := 0, slots := 0, locals := 118 } : Room) s m ([.ref za] : List Value).toArray below meth c H locs 0 0 Q (F0 m 31 ls []) := by
        intro fu9
        induction fu9 with
        | zero => intro x1_10 x2_11 z_12 H locs ls hf hP hD hS hl; exact no_none hf
        | succ fu9 ih9 =>
          intro x1_10 x2_11 z_12 H locs ls hf hP hD hS hl
          rw [lp_m_copy_31] at hf
          refine lv_iload_n hx hb dX7_copy_31 rfl (lv_at hl 2 rfl) ?_
          refine lv_aload_n hx hb dX7_copy_32 rfl (lv_at hl 0 rfl) ?_
          refine va_get (D := D) (ci := 7) (v := .ref z1) (C := RX7) (T := TX7) (N := 17) hx hb hts inT7 hown hK hP 0 rfl rfl 0 (by decide) (hts _ mT_566) (fun _ h9 => h9) rfl dX7_copy_33 ?_
          refine lv_iconst (v := 1) hx hb dX7_copy_36 (by decide) ?_
          refine va_iald (n := 367) (f := z_12 1) hx hb hK hP 1 0 rfl rfl (ck_in (by decide)) dX7_copy_37 ?_
          refine lv_icmp_ge (tgt := 91) hx hb dX7_copy_38 (by decide) (fun c13 => ?_) (fun c13 => ?_)
          · have hf := ite_t c13 hf
            exact kx9 x1_10 x2_11 z_12 _ _ _ hf hP hD hS (lv_sub hl [0, 1, 2] rfl)
          · have hf := ite_f c13 hf
            refine lv_aload_n hx hb dX7_copy_41 rfl (lv_at hl 0 rfl) ?_
            refine lv_iload_n hx hb dX7_copy_42 rfl (lv_at hl 2 rfl) ?_
            obtain ⟨q14, h15, hf⟩ := bd_some hf
            refine kx_rv (As := [.int x2_11]) (rest := []) hx hb hml hown hts hk hP hl.1 s_yX7_isKept v_yX7_isKept (c_m_isKept l D cI cZ cR za z1 z2 z3 z4 z5 z6 z7 z8 z9 z_12 x2_11 _ h15) mT_659 rfl rfl ⟨Nat.le_of_ble_eq_true rfl, Nat.le_of_ble_eq_true rfl⟩ (ci := 7) (q0 := 0) rfl rfl rfl (Nat.le_of_ble_eq_true rfl) ⟨Nat.zero_le _, Nat.zero_le _⟩ dX7_copy_43 ?_
            refine lv_if_eq (tgt := 85) hx hb dX7_copy_46 (by decide) (fun c16 => ?_) (fun c16 => ?_)
            · have hf := ite_t c16 hf
              refine lv_iinc (v := x2_11 + 1) (lv' := [(2, .int (x2_11 + 1)), (0, .ref za), (1, .int x1_10)]) hx hb dX7_copy_85 hl (k := 2) rfl rfl (by decide) rfl (fun ls hl => ?_)
              refine lv_goto (tgt := 31) hx hb dX7_copy_88 (by decide) ?_
              exact ih9 x1_10 (x2_11 + 1) z_12 _ _ _ hf hP hD hS (lv_sub hl [1, 2, 0] rfl)
            · have hf := ite_f c16 hf
              refine lv_aload_n hx hb dX7_copy_49 rfl (lv_at hl 0 rfl) ?_
              refine va_get (D := D) (ci := 7) (v := .ref z1) (C := RX7) (T := TX7) (N := 17) hx hb hts inT7 hown hK hP 0 rfl rfl 0 (by decide) (hts _ mT_566) (fun _ h9 => h9) rfl dX7_copy_50 ?_
              refine lv_bipush (v := 87) hx hb dX7_copy_53 (by decide) ?_
              refine lv_iload_n hx hb dX7_copy_55 rfl (lv_at hl 2 rfl) ?_
              refine lv_iadd hx hb dX7_copy_56 ?_
              refine lv_aload_n hx hb dX7_copy_57 rfl (lv_at hl 0 rfl) ?_
              refine va_get (D := D) (ci := 7) (v := .ref z6) (C := RX7) (T := TX7) (N := 17) hx hb hts inT7 hown hK hP 0 rfl rfl 8 (by decide) (hts _ mT_574) (fun _ h9 => h9) rfl dX7_copy_58 ?_
              refine lv_iload_n hx hb dX7_copy_61 rfl (lv_at hl 2 rfl) ?_
              obtain ⟨b17, hf⟩ := gd_some hf
              refine va_iald (n := 20) (f := z_12 6) hx hb hK hP 6 0 rfl rfl (ck_in b17) dX7_copy_62 ?_
              obtain ⟨b18, hf⟩ := gd_some hf
              refine va_iast (n := 367) (f := z_12 1) hx hb hK hP hD hS 1 0 rfl rfl (ck_in b18) dX7_copy_63 (fun H locs hP hD hS => ?_)
              have hP : va_P D vwCl (cModel cI cZ za z1 z2 z3 z4 z5 z6 z7 z8 z9 (sA z_12 1 (upd (z_12 1) (Int32.toNatClampNeg (87 + x2_11)) ((z_12 6) (Int32.toNatClampNeg x2_11))))) H := hP
              have hD : va_D A (cModel cI cZ za z1 z2 z3 z4 z5 z6 z7 z8 z9 (sA z_12 1 (upd (z_12 1) (Int32.toNatClampNeg (87 + x2_11)) ((z_12 6) (Int32.toNatClampNeg x2_11))))) := hD
              refine lv_aload_n hx hb dX7_copy_64 rfl (lv_at hl 0 rfl) ?_
              refine va_get (D := D) (ci := 7) (v := .ref z1) (C := RX7) (T := TX7) (N := 17) hx hb hts inT7 hown hK hP 0 rfl rfl 0 (by decide) (hts _ mT_566) (fun _ h9 => h9) rfl dX7_copy_65 ?_
              refine lv_bipush (v := 97) hx hb dX7_copy_68 (by decide) ?_
              refine lv_iload_n hx hb dX7_copy_70 rfl (lv_at hl 2 rfl) ?_
              refine lv_iadd hx hb dX7_copy_71 ?_
              refine lv_aload_n hx hb dX7_copy_72 rfl (lv_at hl 0 rfl) ?_
              refine va_get (D := D) (ci := 7) (v := .ref z6) (C := RX7) (T := TX7) (N := 17) hx hb hts inT7 hown hK hP 0 rfl rfl 8 (by decide) (hts _ mT_574) (fun _ h9 => h9) rfl dX7_copy_73 ?_
              refine lv_bipush (v := 10) hx hb dX7_copy_76 (by decide) ?_
              refine lv_iload_n hx hb dX7_copy_78 rfl (lv_at hl 2 rfl) ?_
              refine lv_iadd hx hb dX7_copy_79 ?_
              obtain ⟨b19, hf⟩ := gd_some hf
              refine va_iald (n := 20) (f := z_12 6) hx hb hK hP 6 0 rfl rfl (ck_in b19) dX7_copy_80 ?_
              obtain ⟨b20, hf⟩ := gd_some hf
              refine va_iast (n := 367) (f := upd (z_12 1) (Int32.toNatClampNeg (87 + x2_11)) ((z_12 6) (Int32.toNatClampNeg x2_11))) hx hb hK hP hD hS 1 0 rfl rfl (ck_in b20) dX7_copy_81 (fun H locs hP hD hS => ?_)
              have hP : va_P D vwCl (cModel cI cZ za z1 z2 z3 z4 z5 z6 z7 z8 z9 (sA (sA z_12 1 (upd (z_12 1) (Int32.toNatClampNeg (87 + x2_11)) ((z_12 6) (Int32.toNatClampNeg x2_11)))) 1 (upd (upd (z_12 1) (Int32.toNatClampNeg (87 + x2_11)) ((z_12 6) (Int32.toNatClampNeg x2_11))) (Int32.toNatClampNeg (97 + x2_11)) ((z_12 6) (Int32.toNatClampNeg (10 + x2_11)))))) H := hP
              have hD : va_D A (cModel cI cZ za z1 z2 z3 z4 z5 z6 z7 z8 z9 (sA (sA z_12 1 (upd (z_12 1) (Int32.toNatClampNeg (87 + x2_11)) ((z_12 6) (Int32.toNatClampNeg x2_11)))) 1 (upd (upd (z_12 1) (Int32.toNatClampNeg (87 + x2_11)) ((z_12 6) (Int32.toNatClampNeg x2_11))) (Int32.toNatClampNeg (97 + x2_11)) ((z_12 6) (Int32.toNatClampNeg (10 + x2_11)))))) := hD
              refine lv_iinc (v := x1_10 + 1) (lv' := [(1, .int (x1_10 + 1)), (0, .ref za), (2, .int x2_11)]) hx hb dX7_copy_82 hl (k := 1) rfl rfl (by decide) rfl (fun ls hl => ?_)
              refine lv_iinc (v := x2_11 + 1) (lv' := [(2, .int (x2_11 + 1)), (1, .int (x1_10 + 1)), (0, .ref za)]) hx hb dX7_copy_85 hl (k := 2) rfl rfl (by decide) rfl (fun ls hl => ?_)
              refine lv_goto (tgt := 31) hx hb dX7_copy_88 (by decide) ?_
              exact ih9 (x1_10 + 1) (x2_11 + 1) (sA (sA z_12 1 (upd (z_12 1) (Int32.toNatClampNeg (87 + x2_11)) ((z_12 6) (Int32.toNatClampNeg x2_11)))) 1 (upd (upd (z_12 1) (Int32.toNatClampNeg (87 + x2_11)) ((z_12 6) (Int32.toNatClampNeg x2_11))) (Int32.toNatClampNeg (97 + x2_11)) ((z_12 6) (Int32.toNatClampNeg (10 + x2_11))))) _ _ _ hf hP hD hS (lv_sub hl [2, 1, 0] rfl)
      exact lh9 10000 0 0 q7 _ _ _ hf hP hD hS (lv_sub hl [2, 1, 0] rfl)
    · have hf := ite_f c6 hf
      refine lv_ldc (v := (-1000000003)) hx hb hown (hts _ mT_820) dX7_copy_20 ?_
      exact hret _ _ _ q4.2 _ _ hf dX7_copy_22 hP hD hS
theorem s_yX7_draw : kMS yX7_draw cX7_draw 2 (some .int) 1 := ⟨mT_832, mT_59, by decide +kernel⟩
theorem v_yX7_draw : kMV yX7_draw := ⟨mT_831, mT_49⟩
def f_m_draw (z : Ob) (x : Int32) : Option (Int32 × Ob) := gd (nz x) (some (((Int64.toInt32 ((((Int32.toInt64 (z 0 5)) * 1103515245) + 12345) - (((Int32.toInt64 (z 0 5)) * 1103515245) + 12345) / 2147483648 * 2147483648)) / 65536) - ((Int64.toInt32 ((((Int32.toInt64 (z 0 5)) * 1103515245) + 12345) - (((Int32.toInt64 (z 0 5)) * 1103515245) + 12345) / 2147483648 * 2147483648)) / 65536) / x * x, sI z 5 (Int64.toInt32 ((((Int32.toInt64 (z 0 5)) * 1103515245) + 12345) - (((Int32.toInt64 (z 0 5)) * 1103515245) + 12345) / 2147483648 * 2147483648))))
set_option maxHeartbeats 4000000 in
set_option maxRecDepth 100000 in
theorem c_m_draw (l : Launch) (D : va_G) (cI cZ cR : ClassId) (za z1 z2 z3 z4 z5 z6 z7 z8 z9 : Nat) (z : Ob) (x : Int32) (sz : Nat) (r : Int32) (u : Ob) (hf : f_m_draw z x = some (r, u)) : kCi l yX7_draw cX7_draw 2 (some .int) { frames := 0, cells := 0, slots := 0, locals := 0 } [.ref za, .int x] D cI cZ cR (cModel cI cZ za z1 z2 z3 z4 z5 z6 z7 z8 z9 z) sz (cModel cI cZ za z1 z2 z3 z4 z5 z6 z7 z8 z9 u) r := by
  refine kMwi (wf := (fun u : Ob => cModel cI cZ za z1 z2 z3 z4 z5 z6 z7 z8 z9 u)) (u := u) (by decide) (Nat.le_of_ble_eq_true rfl) ?_
  intro p e s m below meth c Q A hx hb hml hown hts hk hP hD hA hS hret ls hl
  have hS0 := hS
  have hK := hk.1
  have hl : lv_has ls 2 [(0, .ref za), (1, .int x)] := hl
  rw [f_m_draw] at hf
  refine lv_aload_n hx hb dX7_draw_0 rfl (lv_at hl 0 rfl) ?_
  refine lv_aload_n hx hb dX7_draw_1 rfl (lv_at hl 0 rfl) ?_
  refine va_get (D := D) (ci := 7) (v := .int (z 0 5)) (C := RX7) (T := TX7) (N := 17) hx hb hts inT7 hown hK hP 0 rfl rfl 5 (by decide) (hts _ mT_571) (fun _ h9 => h9) rfl dX7_draw_2 ?_
  refine lv_i2l (v := Int32.toInt64 (z 0 5)) hx hb dX7_draw_5 rfl ?_
  refine lv_ldc2 (v := 1103515245) hx hb hown (hts _ mT_833) dX7_draw_6 ?_
  refine lv_lmul hx hb dX7_draw_9 ?_
  refine lv_ldc2 (v := 12345) hx hb hown (hts _ mT_834) dX7_draw_10 ?_
  refine lv_ladd hx hb dX7_draw_13 ?_
  refine lv_ldc2 (v := 2147483648) hx hb hown (hts _ mT_835) dX7_draw_14 ?_
  refine lv_lrem hx hb dX7_draw_17 (by decide) ?_
  refine lv_l2i (v := Int64.toInt32 ((((Int32.toInt64 (z 0 5)) * 1103515245) + 12345) - (((Int32.toInt64 (z 0 5)) * 1103515245) + 12345) / 2147483648 * 2147483648)) hx hb dX7_draw_18 rfl ?_
  refine va_put (D := D) (ci := 7) (v := .int (Int64.toInt32 ((((Int32.toInt64 (z 0 5)) * 1103515245) + 12345) - (((Int32.toInt64 (z 0 5)) * 1103515245) + 12345) / 2147483648 * 2147483648))) (ty := .int) (C := RX7) (T := TX7) (N := 17) hx hb hts inT7 tyX7 tyX7_ok nmX7 hown hK hP hD hS 0 rfl rfl 5 (by decide) (hts _ mT_571) (fun _ h9 => h9) rfl (by decide +kernel) rfl rfl (Nat.le_of_ble_eq_true rfl) dX7_draw_19 (fun H locs hP hD hS => ?_)
  have hP : va_P D vwCl (cModel cI cZ za z1 z2 z3 z4 z5 z6 z7 z8 z9 (sI z 5 (Int64.toInt32 ((((Int32.toInt64 (z 0 5)) * 1103515245) + 12345) - (((Int32.toInt64 (z 0 5)) * 1103515245) + 12345) / 2147483648 * 2147483648)))) H := hP
  have hD : va_D A (cModel cI cZ za z1 z2 z3 z4 z5 z6 z7 z8 z9 (sI z 5 (Int64.toInt32 ((((Int32.toInt64 (z 0 5)) * 1103515245) + 12345) - (((Int32.toInt64 (z 0 5)) * 1103515245) + 12345) / 2147483648 * 2147483648)))) := hD
  refine lv_aload_n hx hb dX7_draw_22 rfl (lv_at hl 0 rfl) ?_
  refine va_get (D := D) (ci := 7) (v := .int (Int64.toInt32 ((((Int32.toInt64 (z 0 5)) * 1103515245) + 12345) - (((Int32.toInt64 (z 0 5)) * 1103515245) + 12345) / 2147483648 * 2147483648))) (C := RX7) (T := TX7) (N := 17) hx hb hts inT7 hown hK hP 0 rfl rfl 5 (by decide) (hts _ mT_571) (fun _ h9 => h9) rfl dX7_draw_23 ?_
  refine lv_ldc (v := 65536) hx hb hown (hts _ mT_836) dX7_draw_26 ?_
  refine lv_idiv hx hb dX7_draw_28 (by decide) ?_
  refine lv_iload_n hx hb dX7_draw_29 rfl (lv_at hl 1 rfl) ?_
  obtain ⟨b1, hf⟩ := gd_some hf
  refine lv_irem hx hb dX7_draw_30 (nz_ne b1) ?_
  exact hret _ _ _ (sI z 5 (Int64.toInt32 ((((Int32.toInt64 (z 0 5)) * 1103515245) + 12345) - (((Int32.toInt64 (z 0 5)) * 1103515245) + 12345) / 2147483648 * 2147483648))) _ _ hf dX7_draw_31 hP hD hS
theorem s_yX7_drift : kMS yX7_drift cX7_drift 8 (some .int) 1 := ⟨mT_828, mT_59, by decide +kernel⟩
theorem v_yX7_drift : kMV yX7_drift := ⟨mT_826, mT_827⟩
def k_m_drift_15 (x2_5 : Int32) (z_6 : Ob) : Option (Int32 × Ob) := some ((z_6 1) (Int32.toNatClampNeg 2), z_6)
def lp_m_drift_15 (x : Int32) (kk0 : Int32 → Ob → Option (Int32 × Ob)) : Nat → Int32 → Ob → Option (Int32 × Ob)
  | 0, _, _ => none
  | fu4 + 1, x2_5, z_6 => if x ≤ x2_5 then (kk0 x2_5 z_6) else (if ((z_6 1) (Int32.toNatClampNeg 1)) ≤ 0 then (kk0 x2_5 z_6) else (if 20 ≤ ((z_6 1) (Int32.toNatClampNeg 2)) then (kk0 x2_5 z_6) else (bd (f_m_notes z_6) (fun q10 => bd (f_m_draw q10 ((q10 1) (Int32.toNatClampNeg 1))) (fun q12 => bd (f_m_draw q12.2 ((q12.2 1) (Int32.toNatClampNeg 1))) (fun q14 => bd (f_m_draw q14.2 ((q14.2 1) (Int32.toNatClampNeg 0))) (fun q16 => bd (f_m_draw q16.2 8) (fun q18 => bd (f_m_draw q18.2 8) (fun q20 => bd (f_m_comes q20.2 q12.1 q14.1 (1 <<< (q18.1 &&& 31)) (1 <<< (q20.1 &&& 31)) q16.1) (fun q22 => (lp_m_drift_15 x kk0 fu4) (x2_5 + 1) q22))))))))))
def f_m_drift (z : Ob) (x : Int32) : Option (Int32 × Ob) := bd (f_m_in x 1 16) (fun q1 => if q1 = 0 then (some ((-1000000002), z)) else (lp_m_drift_15 x k_m_drift_15 10000 0 z))
set_option maxHeartbeats 4000000 in
set_option maxRecDepth 100000 in
theorem c_m_drift (l : Launch) (D : va_G) (cI cZ cR : ClassId) (za z1 z2 z3 z4 z5 z6 z7 z8 z9 : Nat) (z : Ob) (x : Int32) (sz : Nat) (r : Int32) (u : Ob) (hf : f_m_drift z x = some (r, u)) : kCi l yX7_drift cX7_drift 8 (some .int) { frames := 1, cells := 0, slots := 0, locals := 27 } [.ref za, .int x] D cI cZ cR (cModel cI cZ za z1 z2 z3 z4 z5 z6 z7 z8 z9 z) sz (cModel cI cZ za z1 z2 z3 z4 z5 z6 z7 z8 z9 u) r := by
  refine kMwi (wf := (fun u : Ob => cModel cI cZ za z1 z2 z3 z4 z5 z6 z7 z8 z9 u)) (u := u) (by decide) (Nat.le_of_ble_eq_true rfl) ?_
  intro p e s m below meth c Q A hx hb hml hown hts hk hP hD hA hS hret ls hl
  have hS0 := hS
  have hK := hk.1
  have hl : lv_has ls 8 [(0, .ref za), (1, .int x)] := hl
  rw [f_m_drift] at hf
  refine lv_iload_n hx hb dX7_drift_0 rfl (lv_at hl 1 rfl) ?_
  refine lv_iconst (v := 1) hx hb dX7_drift_1 (by decide) ?_
  refine lv_bipush (v := 16) hx hb dX7_drift_2 (by decide) ?_
  obtain ⟨q1, h2, hf⟩ := bd_some hf
  refine kx_rs (As := [.int x, .int 1, .int 16]) (rest := []) hx hb hml hown hts hk hl.1 s_yX7_in mT_720 (c_m_in l D cI cZ cR x 1 16 _ h2) mT_719 rfl rfl ⟨Nat.le_of_ble_eq_true rfl, Nat.le_of_ble_eq_true rfl⟩ rfl (Nat.le_of_ble_eq_true rfl) ⟨Nat.zero_le _, Nat.zero_le _⟩ dX7_drift_4 ?_
  refine lv_if_ne (tgt := 13) hx hb dX7_drift_7 (by decide) (fun c3 => ?_) (fun c3 => ?_)
  · have hf := ite_f c3 hf
    refine lv_iconst (v := 0) hx hb dX7_drift_13 (by decide) ?_
    refine lv_istore_n (lv' := [(2, .int 0), (0, .ref za), (1, .int x)]) hx hb dX7_drift_14 rfl hl (by decide) rfl (fun ls hl => ?_)
    have kx4 : ∀ (x2_5 : Int32) (z_6 : Ob) (H : Heap) (locs : List Loc) (ls : Array Slot), k_m_drift_15 x2_5 z_6 = some (r, u) → va_P D vwCl (cModel cI cZ za z1 z2 z3 z4 z5 z6 z7 z8 z9 z_6) H → va_D A (cModel cI cZ za z1 z2 z3 z4 z5 z6 z7 z8 z9 z_6) → va_S A s.heap H locs → lv_has ls 8 [(0, .ref za), (1, .int x), (2, .int x2_5)] → W p l e ({ frames := 1, cells := 0, slots := 0, locals := 27 } : Room) s m ([.ref za, .int x] : List Value).toArray below meth c H locs 0 0 Q (F0 m 118 ls []) := by
      intro x2_5 z_6 H locs ls hf hP hD hS hl
      rw [k_m_drift_15] at hf
      refine lv_aload_n hx hb dX7_drift_118 rfl (lv_at hl 0 rfl) ?_
      refine va_get (D := D) (ci := 7) (v := .ref z1) (C := RX7) (T := TX7) (N := 17) hx hb hts inT7 hown hK hP 0 rfl rfl 0 (by decide) (hts _ mT_566) (fun _ h9 => h9) rfl dX7_drift_119 ?_
      refine lv_iconst (v := 2) hx hb dX7_drift_122 (by decide) ?_
      refine va_iald (n := 367) (f := z_6 1) hx hb hK hP 1 0 rfl rfl (ck_in (by decide)) dX7_drift_123 ?_
      exact hret _ _ _ z_6 _ _ hf dX7_drift_124 hP hD hS
    have lh4 : ∀ (fu4 : Nat) (x2_5 : Int32) (z_6 : Ob) (H : Heap) (locs : List Loc) (ls : Array Slot), lp_m_drift_15 x k_m_drift_15 fu4 x2_5 z_6 = some (r, u) → va_P D vwCl (cModel cI cZ za z1 z2 z3 z4 z5 z6 z7 z8 z9 z_6) H → va_D A (cModel cI cZ za z1 z2 z3 z4 z5 z6 z7 z8 z9 z_6) → va_S A s.heap H locs → lv_has ls 8 [(0, .ref za), (1, .int x), (2, .int x2_5)] → W p l e ({ frames := 1, cells := 0, slots := 0, locals := 27 } : Room) s m ([.ref za, .int x] : List Value).toArray below meth c H locs 0 0 Q (F0 m 15 ls []) := by
      intro fu4
      induction fu4 with
      | zero => intro x2_5 z_6 H locs ls hf hP hD hS hl; exact no_none hf
      | succ fu4 ih4 =>
        intro x2_5 z_6 H locs ls hf hP hD hS hl
        rw [lp_m_drift_15] at hf
        refine lv_iload_n hx hb dX7_drift_15 rfl (lv_at hl 2 rfl) ?_
        refine lv_iload_n hx hb dX7_drift_16 rfl (lv_at hl 1 rfl) ?_
        refine lv_icmp_ge (tgt := 118) hx hb dX7_drift_17 (by decide) (fun c7 => ?_) (fun c7 => ?_)
        · have hf := ite_t c7 hf
          exact kx4 x2_5 z_6 _ _ _ hf hP hD hS (lv_sub hl [0, 1, 2] rfl)
        · have hf := ite_f c7 hf
          refine lv_aload_n hx hb dX7_drift_20 rfl (lv_at hl 0 rfl) ?_
          refine va_get (D := D) (ci := 7) (v := .ref z1) (C := RX7) (T := TX7) (N := 17) hx hb hts inT7 hown hK hP 0 rfl rfl 0 (by decide) (hts _ mT_566) (fun _ h9 => h9) rfl dX7_drift_21 ?_
          refine lv_iconst (v := 1) hx hb dX7_drift_24 (by decide) ?_
          refine va_iald (n := 367) (f := z_6 1) hx hb hK hP 1 0 rfl rfl (ck_in (by decide)) dX7_drift_25 ?_
          refine lv_if_le (tgt := 118) hx hb dX7_drift_26 (by decide) (fun c8 => ?_) (fun c8 => ?_)
          · have hf := ite_t c8 hf
            exact kx4 x2_5 z_6 _ _ _ hf hP hD hS (lv_sub hl [0, 1, 2] rfl)
          · have hf := ite_f c8 hf
            refine lv_aload_n hx hb dX7_drift_29 rfl (lv_at hl 0 rfl) ?_
            refine va_get (D := D) (ci := 7) (v := .ref z1) (C := RX7) (T := TX7) (N := 17) hx hb hts inT7 hown hK hP 0 rfl rfl 0 (by decide) (hts _ mT_566) (fun _ h9 => h9) rfl dX7_drift_30 ?_
            refine lv_iconst (v := 2) hx hb dX7_drift_33 (by decide) ?_
            refine va_iald (n := 367) (f := z_6 1) hx hb hK hP 1 0 rfl rfl (ck_in (by decide)) dX7_drift_34 ?_
            refine lv_bipush (v := 20) hx hb dX7_drift_35 (by decide) ?_
            refine lv_icmp_ge (tgt := 118) hx hb dX7_drift_37 (by decide) (fun c9 => ?_) (fun c9 => ?_)
            · have hf := ite_t c9 hf
              exact kx4 x2_5 z_6 _ _ _ hf hP hD hS (lv_sub hl [0, 1, 2] rfl)
            · have hf := ite_f c9 hf
              refine lv_aload_n hx hb dX7_drift_40 rfl (lv_at hl 0 rfl) ?_
              obtain ⟨q10, h11, hf⟩ := bd_some hf
              refine kx_wv (As := []) (rest := []) (wc := cModel cI cZ za z1 z2 z3 z4 z5 z6 z7 z8 z9 z_6) (wr := []) (wd := cModel cI cZ za z1 z2 z3 z4 z5 z6 z7 z8 z9 q10) (wn := cModel cI cZ za z1 z2 z3 z4 z5 z6 z7 z8 z9 q10) hx hb hml hown hts hk hP hD hS hA hl.1 s_yX7_notes v_yX7_notes (c_m_notes l D cI cZ cR za z1 z2 z3 z4 z5 z6 z7 z8 z9 z_6 H.size _ h11) mT_776 rfl rfl ⟨Nat.le_of_ble_eq_true rfl, Nat.le_of_ble_eq_true rfl⟩ [0, 1, 2, 3, 4, 5, 6, 7, 8, 9] [] [0, 1, 2, 3, 4, 5, 6, 7, 8, 9] rfl rfl (by decide) (by decide) (by decide) (by decide) rfl (ci := 7) (q0 := 0) rfl rfl rfl (Nat.le_of_ble_eq_true rfl) ⟨Nat.zero_le _, Nat.zero_le _⟩ dX7_drift_41 (fun H locs hP hD hS => ?_)
              refine lv_aload_n hx hb dX7_drift_44 rfl (lv_at hl 0 rfl) ?_
              refine lv_aload_n hx hb dX7_drift_45 rfl (lv_at hl 0 rfl) ?_
              refine va_get (D := D) (ci := 7) (v := .ref z1) (C := RX7) (T := TX7) (N := 17) hx hb hts inT7 hown hK hP 0 rfl rfl 0 (by decide) (hts _ mT_566) (fun _ h9 => h9) rfl dX7_drift_46 ?_
              refine lv_iconst (v := 1) hx hb dX7_drift_49 (by decide) ?_
              refine va_iald (n := 367) (f := q10 1) hx hb hK hP 1 0 rfl rfl (ck_in (by decide)) dX7_drift_50 ?_
              obtain ⟨q12, h13, hf⟩ := bd_some hf
              refine kx_wi (As := [.int ((q10 1) (Int32.toNatClampNeg 1))]) (rest := []) (wc := cModel cI cZ za z1 z2 z3 z4 z5 z6 z7 z8 z9 q10) (wr := []) (wd := cModel cI cZ za z1 z2 z3 z4 z5 z6 z7 z8 z9 q12.2) (wn := cModel cI cZ za z1 z2 z3 z4 z5 z6 z7 z8 z9 q12.2) hx hb hml hown hts hk hP hD hS hA hl.1 s_yX7_draw v_yX7_draw (c_m_draw l D cI cZ cR za z1 z2 z3 z4 z5 z6 z7 z8 z9 q10 ((q10 1) (Int32.toNatClampNeg 1)) H.size _ _ h13) mT_829 rfl rfl ⟨Nat.le_of_ble_eq_true rfl, Nat.le_of_ble_eq_true rfl⟩ [0, 1, 2, 3, 4, 5, 6, 7, 8, 9] [] [0, 1, 2, 3, 4, 5, 6, 7, 8, 9] rfl rfl (by decide) (by decide) (by decide) (by decide) rfl (ci := 7) (q0 := 0) rfl rfl rfl (Nat.le_of_ble_eq_true rfl) ⟨Nat.zero_le _, Nat.zero_le _⟩ dX7_drift_51 (fun H locs hP hD hS => ?_)
              refine lv_istore_n (lv' := [(3, .int q12.1), (0, .ref za), (1, .int x), (2, .int x2_5)]) hx hb dX7_drift_54 rfl hl (by decide) rfl (fun ls hl => ?_)
              refine lv_aload_n hx hb dX7_drift_55 rfl (lv_at hl 1 rfl) ?_
              refine lv_aload_n hx hb dX7_drift_56 rfl (lv_at hl 1 rfl) ?_
              refine va_get (D := D) (ci := 7) (v := .ref z1) (C := RX7) (T := TX7) (N := 17) hx hb hts inT7 hown hK hP 0 rfl rfl 0 (by decide) (hts _ mT_566) (fun _ h9 => h9) rfl dX7_drift_57 ?_
              refine lv_iconst (v := 1) hx hb dX7_drift_60 (by decide) ?_
              refine va_iald (n := 367) (f := q12.2 1) hx hb hK hP 1 0 rfl rfl (ck_in (by decide)) dX7_drift_61 ?_
              obtain ⟨q14, h15, hf⟩ := bd_some hf
              refine kx_wi (As := [.int ((q12.2 1) (Int32.toNatClampNeg 1))]) (rest := []) (wc := cModel cI cZ za z1 z2 z3 z4 z5 z6 z7 z8 z9 q12.2) (wr := []) (wd := cModel cI cZ za z1 z2 z3 z4 z5 z6 z7 z8 z9 q14.2) (wn := cModel cI cZ za z1 z2 z3 z4 z5 z6 z7 z8 z9 q14.2) hx hb hml hown hts hk hP hD hS hA hl.1 s_yX7_draw v_yX7_draw (c_m_draw l D cI cZ cR za z1 z2 z3 z4 z5 z6 z7 z8 z9 q12.2 ((q12.2 1) (Int32.toNatClampNeg 1)) H.size _ _ h15) mT_829 rfl rfl ⟨Nat.le_of_ble_eq_true rfl, Nat.le_of_ble_eq_true rfl⟩ [0, 1, 2, 3, 4, 5, 6, 7, 8, 9] [] [0, 1, 2, 3, 4, 5, 6, 7, 8, 9] rfl rfl (by decide) (by decide) (by decide) (by decide) rfl (ci := 7) (q0 := 0) rfl rfl rfl (Nat.le_of_ble_eq_true rfl) ⟨Nat.zero_le _, Nat.zero_le _⟩ dX7_drift_62 (fun H locs hP hD hS => ?_)
              refine lv_istore (lv' := [(4, .int q14.1), (3, .int q12.1), (0, .ref za), (1, .int x), (2, .int x2_5)]) hx hb dX7_drift_65 hl (by decide) rfl (fun ls hl => ?_)
              refine lv_aload_n hx hb dX7_drift_67 rfl (lv_at hl 2 rfl) ?_
              refine lv_aload_n hx hb dX7_drift_68 rfl (lv_at hl 2 rfl) ?_
              refine va_get (D := D) (ci := 7) (v := .ref z1) (C := RX7) (T := TX7) (N := 17) hx hb hts inT7 hown hK hP 0 rfl rfl 0 (by decide) (hts _ mT_566) (fun _ h9 => h9) rfl dX7_drift_69 ?_
              refine lv_iconst (v := 0) hx hb dX7_drift_72 (by decide) ?_
              refine va_iald (n := 367) (f := q14.2 1) hx hb hK hP 1 0 rfl rfl (ck_in (by decide)) dX7_drift_73 ?_
              obtain ⟨q16, h17, hf⟩ := bd_some hf
              refine kx_wi (As := [.int ((q14.2 1) (Int32.toNatClampNeg 0))]) (rest := []) (wc := cModel cI cZ za z1 z2 z3 z4 z5 z6 z7 z8 z9 q14.2) (wr := []) (wd := cModel cI cZ za z1 z2 z3 z4 z5 z6 z7 z8 z9 q16.2) (wn := cModel cI cZ za z1 z2 z3 z4 z5 z6 z7 z8 z9 q16.2) hx hb hml hown hts hk hP hD hS hA hl.1 s_yX7_draw v_yX7_draw (c_m_draw l D cI cZ cR za z1 z2 z3 z4 z5 z6 z7 z8 z9 q14.2 ((q14.2 1) (Int32.toNatClampNeg 0)) H.size _ _ h17) mT_829 rfl rfl ⟨Nat.le_of_ble_eq_true rfl, Nat.le_of_ble_eq_true rfl⟩ [0, 1, 2, 3, 4, 5, 6, 7, 8, 9] [] [0, 1, 2, 3, 4, 5, 6, 7, 8, 9] rfl rfl (by decide) (by decide) (by decide) (by decide) rfl (ci := 7) (q0 := 0) rfl rfl rfl (Nat.le_of_ble_eq_true rfl) ⟨Nat.zero_le _, Nat.zero_le _⟩ dX7_drift_74 (fun H locs hP hD hS => ?_)
              refine lv_istore (lv' := [(5, .int q16.1), (4, .int q14.1), (3, .int q12.1), (0, .ref za), (1, .int x), (2, .int x2_5)]) hx hb dX7_drift_77 hl (by decide) rfl (fun ls hl => ?_)
              refine lv_iconst (v := 1) hx hb dX7_drift_79 (by decide) ?_
              refine lv_aload_n hx hb dX7_drift_80 rfl (lv_at hl 3 rfl) ?_
              refine lv_bipush (v := 8) hx hb dX7_drift_81 (by decide) ?_
              obtain ⟨q18, h19, hf⟩ := bd_some hf
              refine kx_wi (As := [.int 8]) (rest := [.int 1]) (wc := cModel cI cZ za z1 z2 z3 z4 z5 z6 z7 z8 z9 q16.2) (wr := []) (wd := cModel cI cZ za z1 z2 z3 z4 z5 z6 z7 z8 z9 q18.2) (wn := cModel cI cZ za z1 z2 z3 z4 z5 z6 z7 z8 z9 q18.2) hx hb hml hown hts hk hP hD hS hA hl.1 s_yX7_draw v_yX7_draw (c_m_draw l D cI cZ cR za z1 z2 z3 z4 z5 z6 z7 z8 z9 q16.2 8 H.size _ _ h19) mT_829 rfl rfl ⟨Nat.le_of_ble_eq_true rfl, Nat.le_of_ble_eq_true rfl⟩ [0, 1, 2, 3, 4, 5, 6, 7, 8, 9] [] [0, 1, 2, 3, 4, 5, 6, 7, 8, 9] rfl rfl (by decide) (by decide) (by decide) (by decide) rfl (ci := 7) (q0 := 0) rfl rfl rfl (Nat.le_of_ble_eq_true rfl) ⟨Nat.zero_le _, Nat.zero_le _⟩ dX7_drift_83 (fun H locs hP hD hS => ?_)
              refine lv_ishl hx hb dX7_drift_86 ?_
              refine lv_istore (lv' := [(6, .int (1 <<< (q18.1 &&& 31))), (5, .int q16.1), (4, .int q14.1), (3, .int q12.1), (0, .ref za), (1, .int x), (2, .int x2_5)]) hx hb dX7_drift_87 hl (by decide) rfl (fun ls hl => ?_)
              refine lv_iconst (v := 1) hx hb dX7_drift_89 (by decide) ?_
              refine lv_aload_n hx hb dX7_drift_90 rfl (lv_at hl 4 rfl) ?_
              refine lv_bipush (v := 8) hx hb dX7_drift_91 (by decide) ?_
              obtain ⟨q20, h21, hf⟩ := bd_some hf
              refine kx_wi (As := [.int 8]) (rest := [.int 1]) (wc := cModel cI cZ za z1 z2 z3 z4 z5 z6 z7 z8 z9 q18.2) (wr := []) (wd := cModel cI cZ za z1 z2 z3 z4 z5 z6 z7 z8 z9 q20.2) (wn := cModel cI cZ za z1 z2 z3 z4 z5 z6 z7 z8 z9 q20.2) hx hb hml hown hts hk hP hD hS hA hl.1 s_yX7_draw v_yX7_draw (c_m_draw l D cI cZ cR za z1 z2 z3 z4 z5 z6 z7 z8 z9 q18.2 8 H.size _ _ h21) mT_829 rfl rfl ⟨Nat.le_of_ble_eq_true rfl, Nat.le_of_ble_eq_true rfl⟩ [0, 1, 2, 3, 4, 5, 6, 7, 8, 9] [] [0, 1, 2, 3, 4, 5, 6, 7, 8, 9] rfl rfl (by decide) (by decide) (by decide) (by decide) rfl (ci := 7) (q0 := 0) rfl rfl rfl (Nat.le_of_ble_eq_true rfl) ⟨Nat.zero_le _, Nat.zero_le _⟩ dX7_drift_93 (fun H locs hP hD hS => ?_)
              refine lv_ishl hx hb dX7_drift_96 ?_
              refine lv_istore (lv' := [(7, .int (1 <<< (q20.1 &&& 31))), (6, .int (1 <<< (q18.1 &&& 31))), (5, .int q16.1), (4, .int q14.1), (3, .int q12.1), (0, .ref za), (1, .int x), (2, .int x2_5)]) hx hb dX7_drift_97 hl (by decide) rfl (fun ls hl => ?_)
              refine lv_aload_n hx hb dX7_drift_99 rfl (lv_at hl 5 rfl) ?_
              refine lv_iload_n hx hb dX7_drift_100 rfl (lv_at hl 4 rfl) ?_
              refine lv_iload hx hb dX7_drift_101 (lv_at hl 3 rfl) ?_
              refine lv_iload hx hb dX7_drift_103 (lv_at hl 1 rfl) ?_
              refine lv_iload hx hb dX7_drift_105 (lv_at hl 0 rfl) ?_
              refine lv_iload hx hb dX7_drift_107 (lv_at hl 2 rfl) ?_
              obtain ⟨q22, h23, hf⟩ := bd_some hf
              refine kx_wv (As := [.int q12.1, .int q14.1, .int (1 <<< (q18.1 &&& 31)), .int (1 <<< (q20.1 &&& 31)), .int q16.1]) (rest := []) (wc := cModel cI cZ za z1 z2 z3 z4 z5 z6 z7 z8 z9 q20.2) (wr := []) (wd := cModel cI cZ za z1 z2 z3 z4 z5 z6 z7 z8 z9 q22) (wn := cModel cI cZ za z1 z2 z3 z4 z5 z6 z7 z8 z9 q22) hx hb hml hown hts hk hP hD hS hA hl.1 s_yX7_comes v_yX7_comes (c_m_comes l D cI cZ cR za z1 z2 z3 z4 z5 z6 z7 z8 z9 q20.2 q12.1 q14.1 (1 <<< (q18.1 &&& 31)) (1 <<< (q20.1 &&& 31)) q16.1 H.size _ h23) mT_796 rfl rfl ⟨Nat.le_of_ble_eq_true rfl, Nat.le_of_ble_eq_true rfl⟩ [0, 1, 2, 3, 4, 5, 6, 7, 8, 9] [] [0, 1, 2, 3, 4, 5, 6, 7, 8, 9] rfl rfl (by decide) (by decide) (by decide) (by decide) rfl (ci := 7) (q0 := 0) rfl rfl rfl (Nat.le_of_ble_eq_true rfl) ⟨Nat.zero_le _, Nat.zero_le _⟩ dX7_drift_109 (fun H locs hP hD hS => ?_)
              refine lv_iinc (v := x2_5 + 1) (lv' := [(2, .int (x2_5 + 1)), (7, .int (1 <<< (q20.1 &&& 31))), (6, .int (1 <<< (q18.1 &&& 31))), (5, .int q16.1), (4, .int q14.1), (3, .int q12.1), (0, .ref za), (1, .int x)]) hx hb dX7_drift_112 hl (k := 7) rfl rfl (by decide) rfl (fun ls hl => ?_)
              refine lv_goto (tgt := 15) hx hb dX7_drift_115 (by decide) ?_
              exact ih4 (x2_5 + 1) q22 _ _ _ hf hP hD hS (lv_sub hl [6, 7, 0] rfl)
    exact lh4 10000 0 z _ _ _ hf hP hD hS (lv_sub hl [1, 2, 0] rfl)
  · have hf := ite_t c3 hf
    refine lv_ldc (v := (-1000000002)) hx hb hown (hts _ mT_722) dX7_drift_10 ?_
    exact hret _ _ _ z _ _ hf dX7_drift_12 hP hD hS
theorem s_yX7_undo : kMS yX7_undo cX7_undo 3 (some .int) 1 := ⟨mT_840, mT_59, by decide +kernel⟩
theorem v_yX7_undo : kMV yX7_undo := ⟨mT_838, mT_839⟩
def k_m_undo_36 (x2_6 : Int32) (z_7 : Ob) : Option (Int32 × Ob) := some ((z_7 1) (Int32.toNatClampNeg 2), z_7)
def lp_m_undo_36 (kk0 : Int32 → Ob → Option (Int32 × Ob)) : Nat → Int32 → Ob → Option (Int32 × Ob)
  | 0, _, _ => none
  | fu5 + 1, x2_6, z_7 => if 367 ≤ x2_6 then (kk0 x2_6 z_7) else (gd (ck ((367 * (z_7 0 2)) + x2_6) 5872) (gd (ck x2_6 367) ((lp_m_undo_36 kk0 fu5) (x2_6 + 1) (sA z_7 1 (upd (z_7 1) (Int32.toNatClampNeg x2_6) ((z_7 2) (Int32.toNatClampNeg ((367 * (z_7 0 2)) + x2_6))))))))
def f_m_undo (z : Ob) (x : Int32) : Option (Int32 × Ob) := bd (f_m_in x 1 16) (fun q1 => if q1 = 0 then (some ((-1000000002), z)) else (if x ≤ (z 0 2) then (lp_m_undo_36 k_m_undo_36 10000 0 (sI z 2 ((z 0 2) - x))) else (some ((-1000000003), z))))
set_option maxHeartbeats 4000000 in
set_option maxRecDepth 100000 in
theorem c_m_undo (l : Launch) (D : va_G) (cI cZ cR : ClassId) (za z1 z2 z3 z4 z5 z6 z7 z8 z9 : Nat) (z : Ob) (x : Int32) (sz : Nat) (r : Int32) (u : Ob) (hf : f_m_undo z x = some (r, u)) : kCi l yX7_undo cX7_undo 3 (some .int) { frames := 1, cells := 0, slots := 0, locals := 22 } [.ref za, .int x] D cI cZ cR (cModel cI cZ za z1 z2 z3 z4 z5 z6 z7 z8 z9 z) sz (cModel cI cZ za z1 z2 z3 z4 z5 z6 z7 z8 z9 u) r := by
  refine kMwi (wf := (fun u : Ob => cModel cI cZ za z1 z2 z3 z4 z5 z6 z7 z8 z9 u)) (u := u) (by decide) (Nat.le_of_ble_eq_true rfl) ?_
  intro p e s m below meth c Q A hx hb hml hown hts hk hP hD hA hS hret ls hl
  have hS0 := hS
  have hK := hk.1
  have hl : lv_has ls 3 [(0, .ref za), (1, .int x)] := hl
  rw [f_m_undo] at hf
  refine lv_iload_n hx hb dX7_undo_0 rfl (lv_at hl 1 rfl) ?_
  refine lv_iconst (v := 1) hx hb dX7_undo_1 (by decide) ?_
  refine lv_bipush (v := 16) hx hb dX7_undo_2 (by decide) ?_
  obtain ⟨q1, h2, hf⟩ := bd_some hf
  refine kx_rs (As := [.int x, .int 1, .int 16]) (rest := []) hx hb hml hown hts hk hl.1 s_yX7_in mT_720 (c_m_in l D cI cZ cR x 1 16 _ h2) mT_719 rfl rfl ⟨Nat.le_of_ble_eq_true rfl, Nat.le_of_ble_eq_true rfl⟩ rfl (Nat.le_of_ble_eq_true rfl) ⟨Nat.zero_le _, Nat.zero_le _⟩ dX7_undo_4 ?_
  refine lv_if_ne (tgt := 13) hx hb dX7_undo_7 (by decide) (fun c3 => ?_) (fun c3 => ?_)
  · have hf := ite_f c3 hf
    refine lv_iload_n hx hb dX7_undo_13 rfl (lv_at hl 1 rfl) ?_
    refine lv_aload_n hx hb dX7_undo_14 rfl (lv_at hl 0 rfl) ?_
    refine va_get (D := D) (ci := 7) (v := .int (z 0 2)) (C := RX7) (T := TX7) (N := 17) hx hb hts inT7 hown hK hP 0 rfl rfl 2 (by decide) (hts _ mT_568) (fun _ h9 => h9) rfl dX7_undo_15 ?_
    refine lv_icmp_le (tgt := 24) hx hb dX7_undo_18 (by decide) (fun c4 => ?_) (fun c4 => ?_)
    · have hf := ite_t c4 hf
      refine lv_aload_n hx hb dX7_undo_24 rfl (lv_at hl 0 rfl) ?_
      refine lv_dup hx hb dX7_undo_25 rfl ?_
      refine va_get (D := D) (ci := 7) (v := .int (z 0 2)) (C := RX7) (T := TX7) (N := 17) hx hb hts inT7 hown hK hP 0 rfl rfl 2 (by decide) (hts _ mT_568) (fun _ h9 => h9) rfl dX7_undo_26 ?_
      refine lv_iload_n hx hb dX7_undo_29 rfl (lv_at hl 1 rfl) ?_
      refine lv_isub hx hb dX7_undo_30 ?_
      refine va_put (D := D) (ci := 7) (v := .int ((z 0 2) - x)) (ty := .int) (C := RX7) (T := TX7) (N := 17) hx hb hts inT7 tyX7 tyX7_ok nmX7 hown hK hP hD hS 0 rfl rfl 2 (by decide) (hts _ mT_568) (fun _ h9 => h9) rfl (by decide +kernel) rfl rfl (Nat.le_of_ble_eq_true rfl) dX7_undo_31 (fun H locs hP hD hS => ?_)
      have hP : va_P D vwCl (cModel cI cZ za z1 z2 z3 z4 z5 z6 z7 z8 z9 (sI z 2 ((z 0 2) - x))) H := hP
      have hD : va_D A (cModel cI cZ za z1 z2 z3 z4 z5 z6 z7 z8 z9 (sI z 2 ((z 0 2) - x))) := hD
      refine lv_iconst (v := 0) hx hb dX7_undo_34 (by decide) ?_
      refine lv_istore_n (lv' := [(2, .int 0), (0, .ref za), (1, .int x)]) hx hb dX7_undo_35 rfl hl (by decide) rfl (fun ls hl => ?_)
      have kx5 : ∀ (x2_6 : Int32) (z_7 : Ob) (H : Heap) (locs : List Loc) (ls : Array Slot), k_m_undo_36 x2_6 z_7 = some (r, u) → va_P D vwCl (cModel cI cZ za z1 z2 z3 z4 z5 z6 z7 z8 z9 z_7) H → va_D A (cModel cI cZ za z1 z2 z3 z4 z5 z6 z7 z8 z9 z_7) → va_S A s.heap H locs → lv_has ls 3 [(0, .ref za), (1, .int x), (2, .int x2_6)] → W p l e ({ frames := 1, cells := 0, slots := 0, locals := 22 } : Room) s m ([.ref za, .int x] : List Value).toArray below meth c H locs 0 0 Q (F0 m 70 ls []) := by
        intro x2_6 z_7 H locs ls hf hP hD hS hl
        rw [k_m_undo_36] at hf
        refine lv_aload_n hx hb dX7_undo_70 rfl (lv_at hl 0 rfl) ?_
        refine va_get (D := D) (ci := 7) (v := .ref z1) (C := RX7) (T := TX7) (N := 17) hx hb hts inT7 hown hK hP 0 rfl rfl 0 (by decide) (hts _ mT_566) (fun _ h9 => h9) rfl dX7_undo_71 ?_
        refine lv_iconst (v := 2) hx hb dX7_undo_74 (by decide) ?_
        refine va_iald (n := 367) (f := z_7 1) hx hb hK hP 1 0 rfl rfl (ck_in (by decide)) dX7_undo_75 ?_
        exact hret _ _ _ z_7 _ _ hf dX7_undo_76 hP hD hS
      have lh5 : ∀ (fu5 : Nat) (x2_6 : Int32) (z_7 : Ob) (H : Heap) (locs : List Loc) (ls : Array Slot), lp_m_undo_36 k_m_undo_36 fu5 x2_6 z_7 = some (r, u) → va_P D vwCl (cModel cI cZ za z1 z2 z3 z4 z5 z6 z7 z8 z9 z_7) H → va_D A (cModel cI cZ za z1 z2 z3 z4 z5 z6 z7 z8 z9 z_7) → va_S A s.heap H locs → lv_has ls 3 [(0, .ref za), (1, .int x), (2, .int x2_6)] → W p l e ({ frames := 1, cells := 0, slots := 0, locals := 22 } : Room) s m ([.ref za, .int x] : List Value).toArray below meth c H locs 0 0 Q (F0 m 36 ls []) := by
        intro fu5
        induction fu5 with
        | zero => intro x2_6 z_7 H locs ls hf hP hD hS hl; exact no_none hf
        | succ fu5 ih5 =>
          intro x2_6 z_7 H locs ls hf hP hD hS hl
          rw [lp_m_undo_36] at hf
          refine lv_iload_n hx hb dX7_undo_36 rfl (lv_at hl 2 rfl) ?_
          refine lv_sipush (v := 367) hx hb dX7_undo_37 (by decide) ?_
          refine lv_icmp_ge (tgt := 70) hx hb dX7_undo_40 (by decide) (fun c8 => ?_) (fun c8 => ?_)
          · have hf := ite_t c8 hf
            exact kx5 x2_6 z_7 _ _ _ hf hP hD hS (lv_sub hl [0, 1, 2] rfl)
          · have hf := ite_f c8 hf
            refine lv_aload_n hx hb dX7_undo_43 rfl (lv_at hl 0 rfl) ?_
            refine va_get (D := D) (ci := 7) (v := .ref z1) (C := RX7) (T := TX7) (N := 17) hx hb hts inT7 hown hK hP 0 rfl rfl 0 (by decide) (hts _ mT_566) (fun _ h9 => h9) rfl dX7_undo_44 ?_
            refine lv_iload_n hx hb dX7_undo_47 rfl (lv_at hl 2 rfl) ?_
            refine lv_aload_n hx hb dX7_undo_48 rfl (lv_at hl 0 rfl) ?_
            refine va_get (D := D) (ci := 7) (v := .ref z2) (C := RX7) (T := TX7) (N := 17) hx hb hts inT7 hown hK hP 0 rfl rfl 1 (by decide) (hts _ mT_567) (fun _ h9 => h9) rfl dX7_undo_49 ?_
            refine lv_sipush (v := 367) hx hb dX7_undo_52 (by decide) ?_
            refine lv_aload_n hx hb dX7_undo_55 rfl (lv_at hl 0 rfl) ?_
            refine va_get (D := D) (ci := 7) (v := .int (z_7 0 2)) (C := RX7) (T := TX7) (N := 17) hx hb hts inT7 hown hK hP 0 rfl rfl 2 (by decide) (hts _ mT_568) (fun _ h9 => h9) rfl dX7_undo_56 ?_
            refine lv_imul hx hb dX7_undo_59 ?_
            refine lv_iload_n hx hb dX7_undo_60 rfl (lv_at hl 2 rfl) ?_
            refine lv_iadd hx hb dX7_undo_61 ?_
            obtain ⟨b9, hf⟩ := gd_some hf
            refine va_iald (n := 5872) (f := z_7 2) hx hb hK hP 2 0 rfl rfl (ck_in b9) dX7_undo_62 ?_
            obtain ⟨b10, hf⟩ := gd_some hf
            refine va_iast (n := 367) (f := z_7 1) hx hb hK hP hD hS 1 0 rfl rfl (ck_in b10) dX7_undo_63 (fun H locs hP hD hS => ?_)
            have hP : va_P D vwCl (cModel cI cZ za z1 z2 z3 z4 z5 z6 z7 z8 z9 (sA z_7 1 (upd (z_7 1) (Int32.toNatClampNeg x2_6) ((z_7 2) (Int32.toNatClampNeg ((367 * (z_7 0 2)) + x2_6)))))) H := hP
            have hD : va_D A (cModel cI cZ za z1 z2 z3 z4 z5 z6 z7 z8 z9 (sA z_7 1 (upd (z_7 1) (Int32.toNatClampNeg x2_6) ((z_7 2) (Int32.toNatClampNeg ((367 * (z_7 0 2)) + x2_6)))))) := hD
            refine lv_iinc (v := x2_6 + 1) (lv' := [(2, .int (x2_6 + 1)), (0, .ref za), (1, .int x)]) hx hb dX7_undo_64 hl (k := 2) rfl rfl (by decide) rfl (fun ls hl => ?_)
            refine lv_goto (tgt := 36) hx hb dX7_undo_67 (by decide) ?_
            exact ih5 (x2_6 + 1) (sA z_7 1 (upd (z_7 1) (Int32.toNatClampNeg x2_6) ((z_7 2) (Int32.toNatClampNeg ((367 * (z_7 0 2)) + x2_6))))) _ _ _ hf hP hD hS (lv_sub hl [1, 2, 0] rfl)
      exact lh5 10000 0 (sI z 2 ((z 0 2) - x)) _ _ _ hf hP hD hS (lv_sub hl [1, 2, 0] rfl)
    · have hf := ite_f c4 hf
      refine lv_ldc (v := (-1000000003)) hx hb hown (hts _ mT_820) dX7_undo_21 ?_
      exact hret _ _ _ z _ _ hf dX7_undo_23 hP hD hS
  · have hf := ite_t c3 hf
    refine lv_ldc (v := (-1000000002)) hx hb hown (hts _ mT_722) dX7_undo_10 ?_
    exact hret _ _ _ z _ _ hf dX7_undo_12 hP hD hS
theorem s_yX7_note : kMS yX7_note cX7_note 4 (some .int) 3 := ⟨mT_844, mT_59, by decide +kernel⟩
theorem v_yX7_note : kMV yX7_note := ⟨mT_842, mT_843⟩
def f_m_note (z : Ob) (x : Int32) (y : Int32) (v : Int32) : Option (Int32 × Ob) := bd (f_m_isPlace z x) (fun q1 => if q1 = 0 then (some ((-1000000001), z)) else (bd (f_m_isValue z y) (fun q4 => if q4 = 0 then (some ((-1000000001), z)) else (bd (f_m_isSet v) (fun q7 => if q7 = 0 then (some ((-1000000002), z)) else (if (z 0 7) = 20 then (some ((-1000000004), z)) else (gd (ck (3 * (z 0 7)) 60) (gd (ck ((3 * (z 0 7)) + 1) 60) (gd (ck ((3 * (z 0 7)) + 2) 60) (some ((z 0 7) + 1, sI (sA (sA (sA z 5 (upd (z 5) (Int32.toNatClampNeg (3 * (z 0 7))) x)) 5 (upd (upd (z 5) (Int32.toNatClampNeg (3 * (z 0 7))) x) (Int32.toNatClampNeg ((3 * (z 0 7)) + 1)) y)) 5 (upd (upd (upd (z 5) (Int32.toNatClampNeg (3 * (z 0 7))) x) (Int32.toNatClampNeg ((3 * (z 0 7)) + 1)) y) (Int32.toNatClampNeg ((3 * (z 0 7)) + 2)) v)) 7 ((z 0 7) + 1))))))))))))
set_option maxHeartbeats 4000000 in
set_option maxRecDepth 100000 in
theorem c_m_note (l : Launch) (D : va_G) (cI cZ cR : ClassId) (za z1 z2 z3 z4 z5 z6 z7 z8 z9 : Nat) (z : Ob) (x : Int32) (y : Int32) (v : Int32) (sz : Nat) (r : Int32) (u : Ob) (hf : f_m_note z x y v = some (r, u)) : kCi l yX7_note cX7_note 4 (some .int) { frames := 2, cells := 0, slots := 0, locals := 43 } [.ref za, .int x, .int y, .int v] D cI cZ cR (cModel cI cZ za z1 z2 z3 z4 z5 z6 z7 z8 z9 z) sz (cModel cI cZ za z1 z2 z3 z4 z5 z6 z7 z8 z9 u) r := by
  refine kMwi (wf := (fun u : Ob => cModel cI cZ za z1 z2 z3 z4 z5 z6 z7 z8 z9 u)) (u := u) (by decide) (Nat.le_of_ble_eq_true rfl) ?_
  intro p e s m below meth c Q A hx hb hml hown hts hk hP hD hA hS hret ls hl
  have hS0 := hS
  have hK := hk.1
  have hl : lv_has ls 4 [(0, .ref za), (1, .int x), (2, .int y), (3, .int v)] := hl
  rw [f_m_note] at hf
  refine lv_aload_n hx hb dX7_note_0 rfl (lv_at hl 0 rfl) ?_
  refine lv_iload_n hx hb dX7_note_1 rfl (lv_at hl 1 rfl) ?_
  obtain ⟨q1, h2, hf⟩ := bd_some hf
  refine kx_rv (As := [.int x]) (rest := []) hx hb hml hown hts hk hP hl.1 s_yX7_isPlace v_yX7_isPlace (c_m_isPlace l D cI cZ cR za z1 z2 z3 z4 z5 z6 z7 z8 z9 z x _ h2) mT_715 rfl rfl ⟨Nat.le_of_ble_eq_true rfl, Nat.le_of_ble_eq_true rfl⟩ (ci := 7) (q0 := 0) rfl rfl rfl (Nat.le_of_ble_eq_true rfl) ⟨Nat.zero_le _, Nat.zero_le _⟩ dX7_note_2 ?_
  refine lv_if_eq (tgt := 16) hx hb dX7_note_5 (by decide) (fun c3 => ?_) (fun c3 => ?_)
  · have hf := ite_t c3 hf
    refine lv_ldc (v := (-1000000001)) hx hb hown (hts _ mT_731) dX7_note_16 ?_
    exact hret _ _ _ z _ _ hf dX7_note_18 hP hD hS
  · have hf := ite_f c3 hf
    refine lv_aload_n hx hb dX7_note_8 rfl (lv_at hl 0 rfl) ?_
    refine lv_iload_n hx hb dX7_note_9 rfl (lv_at hl 2 rfl) ?_
    obtain ⟨q4, h5, hf⟩ := bd_some hf
    refine kx_rv (As := [.int y]) (rest := []) hx hb hml hown hts hk hP hl.1 s_yX7_isValue v_yX7_isValue (c_m_isValue l D cI cZ cR za z1 z2 z3 z4 z5 z6 z7 z8 z9 z y _ h5) mT_727 rfl rfl ⟨Nat.le_of_ble_eq_true rfl, Nat.le_of_ble_eq_true rfl⟩ (ci := 7) (q0 := 0) rfl rfl rfl (Nat.le_of_ble_eq_true rfl) ⟨Nat.zero_le _, Nat.zero_le _⟩ dX7_note_10 ?_
    refine lv_if_ne (tgt := 19) hx hb dX7_note_13 (by decide) (fun c6 => ?_) (fun c6 => ?_)
    · have hf := ite_f c6 hf
      refine lv_iload_n hx hb dX7_note_19 rfl (lv_at hl 3 rfl) ?_
      obtain ⟨q7, h8, hf⟩ := bd_some hf
      refine kx_rs (As := [.int v]) (rest := []) hx hb hml hown hts hk hl.1 s_yX7_isSet mT_789 (c_m_isSet l D cI cZ cR v _ h8) mT_788 rfl rfl ⟨Nat.le_of_ble_eq_true rfl, Nat.le_of_ble_eq_true rfl⟩ rfl (Nat.le_of_ble_eq_true rfl) ⟨Nat.zero_le _, Nat.zero_le _⟩ dX7_note_20 ?_
      refine lv_if_ne (tgt := 29) hx hb dX7_note_23 (by decide) (fun c9 => ?_) (fun c9 => ?_)
      · have hf := ite_f c9 hf
        refine lv_aload_n hx hb dX7_note_29 rfl (lv_at hl 0 rfl) ?_
        refine va_get (D := D) (ci := 7) (v := .int (z 0 7)) (C := RX7) (T := TX7) (N := 17) hx hb hts inT7 hown hK hP 0 rfl rfl 7 (by decide) (hts _ mT_573) (fun _ h9 => h9) rfl dX7_note_30 ?_
        refine lv_bipush (v := 20) hx hb dX7_note_33 (by decide) ?_
        refine lv_icmp_ne (tgt := 41) hx hb dX7_note_35 (by decide) (fun c10 => ?_) (fun c10 => ?_)
        · have hf := ite_f c10 hf
          refine lv_aload_n hx hb dX7_note_41 rfl (lv_at hl 0 rfl) ?_
          refine va_get (D := D) (ci := 7) (v := .ref z5) (C := RX7) (T := TX7) (N := 17) hx hb hts inT7 hown hK hP 0 rfl rfl 6 (by decide) (hts _ mT_572) (fun _ h9 => h9) rfl dX7_note_42 ?_
          refine lv_iconst (v := 3) hx hb dX7_note_45 (by decide) ?_
          refine lv_aload_n hx hb dX7_note_46 rfl (lv_at hl 0 rfl) ?_
          refine va_get (D := D) (ci := 7) (v := .int (z 0 7)) (C := RX7) (T := TX7) (N := 17) hx hb hts inT7 hown hK hP 0 rfl rfl 7 (by decide) (hts _ mT_573) (fun _ h9 => h9) rfl dX7_note_47 ?_
          refine lv_imul hx hb dX7_note_50 ?_
          refine lv_iload_n hx hb dX7_note_51 rfl (lv_at hl 1 rfl) ?_
          obtain ⟨b11, hf⟩ := gd_some hf
          refine va_iast (n := 60) (f := z 5) hx hb hK hP hD hS 5 0 rfl rfl (ck_in b11) dX7_note_52 (fun H locs hP hD hS => ?_)
          have hP : va_P D vwCl (cModel cI cZ za z1 z2 z3 z4 z5 z6 z7 z8 z9 (sA z 5 (upd (z 5) (Int32.toNatClampNeg (3 * (z 0 7))) x))) H := hP
          have hD : va_D A (cModel cI cZ za z1 z2 z3 z4 z5 z6 z7 z8 z9 (sA z 5 (upd (z 5) (Int32.toNatClampNeg (3 * (z 0 7))) x))) := hD
          refine lv_aload_n hx hb dX7_note_53 rfl (lv_at hl 0 rfl) ?_
          refine va_get (D := D) (ci := 7) (v := .ref z5) (C := RX7) (T := TX7) (N := 17) hx hb hts inT7 hown hK hP 0 rfl rfl 6 (by decide) (hts _ mT_572) (fun _ h9 => h9) rfl dX7_note_54 ?_
          refine lv_iconst (v := 3) hx hb dX7_note_57 (by decide) ?_
          refine lv_aload_n hx hb dX7_note_58 rfl (lv_at hl 0 rfl) ?_
          refine va_get (D := D) (ci := 7) (v := .int (z 0 7)) (C := RX7) (T := TX7) (N := 17) hx hb hts inT7 hown hK hP 0 rfl rfl 7 (by decide) (hts _ mT_573) (fun _ h9 => h9) rfl dX7_note_59 ?_
          refine lv_imul hx hb dX7_note_62 ?_
          refine lv_iconst (v := 1) hx hb dX7_note_63 (by decide) ?_
          refine lv_iadd hx hb dX7_note_64 ?_
          refine lv_iload_n hx hb dX7_note_65 rfl (lv_at hl 2 rfl) ?_
          obtain ⟨b12, hf⟩ := gd_some hf
          refine va_iast (n := 60) (f := upd (z 5) (Int32.toNatClampNeg (3 * (z 0 7))) x) hx hb hK hP hD hS 5 0 rfl rfl (ck_in b12) dX7_note_66 (fun H locs hP hD hS => ?_)
          have hP : va_P D vwCl (cModel cI cZ za z1 z2 z3 z4 z5 z6 z7 z8 z9 (sA (sA z 5 (upd (z 5) (Int32.toNatClampNeg (3 * (z 0 7))) x)) 5 (upd (upd (z 5) (Int32.toNatClampNeg (3 * (z 0 7))) x) (Int32.toNatClampNeg ((3 * (z 0 7)) + 1)) y))) H := hP
          have hD : va_D A (cModel cI cZ za z1 z2 z3 z4 z5 z6 z7 z8 z9 (sA (sA z 5 (upd (z 5) (Int32.toNatClampNeg (3 * (z 0 7))) x)) 5 (upd (upd (z 5) (Int32.toNatClampNeg (3 * (z 0 7))) x) (Int32.toNatClampNeg ((3 * (z 0 7)) + 1)) y))) := hD
          refine lv_aload_n hx hb dX7_note_67 rfl (lv_at hl 0 rfl) ?_
          refine va_get (D := D) (ci := 7) (v := .ref z5) (C := RX7) (T := TX7) (N := 17) hx hb hts inT7 hown hK hP 0 rfl rfl 6 (by decide) (hts _ mT_572) (fun _ h9 => h9) rfl dX7_note_68 ?_
          refine lv_iconst (v := 3) hx hb dX7_note_71 (by decide) ?_
          refine lv_aload_n hx hb dX7_note_72 rfl (lv_at hl 0 rfl) ?_
          refine va_get (D := D) (ci := 7) (v := .int (z 0 7)) (C := RX7) (T := TX7) (N := 17) hx hb hts inT7 hown hK hP 0 rfl rfl 7 (by decide) (hts _ mT_573) (fun _ h9 => h9) rfl dX7_note_73 ?_
          refine lv_imul hx hb dX7_note_76 ?_
          refine lv_iconst (v := 2) hx hb dX7_note_77 (by decide) ?_
          refine lv_iadd hx hb dX7_note_78 ?_
          refine lv_iload_n hx hb dX7_note_79 rfl (lv_at hl 3 rfl) ?_
          obtain ⟨b13, hf⟩ := gd_some hf
          refine va_iast (n := 60) (f := upd (upd (z 5) (Int32.toNatClampNeg (3 * (z 0 7))) x) (Int32.toNatClampNeg ((3 * (z 0 7)) + 1)) y) hx hb hK hP hD hS 5 0 rfl rfl (ck_in b13) dX7_note_80 (fun H locs hP hD hS => ?_)
          have hP : va_P D vwCl (cModel cI cZ za z1 z2 z3 z4 z5 z6 z7 z8 z9 (sA (sA (sA z 5 (upd (z 5) (Int32.toNatClampNeg (3 * (z 0 7))) x)) 5 (upd (upd (z 5) (Int32.toNatClampNeg (3 * (z 0 7))) x) (Int32.toNatClampNeg ((3 * (z 0 7)) + 1)) y)) 5 (upd (upd (upd (z 5) (Int32.toNatClampNeg (3 * (z 0 7))) x) (Int32.toNatClampNeg ((3 * (z 0 7)) + 1)) y) (Int32.toNatClampNeg ((3 * (z 0 7)) + 2)) v))) H := hP
          have hD : va_D A (cModel cI cZ za z1 z2 z3 z4 z5 z6 z7 z8 z9 (sA (sA (sA z 5 (upd (z 5) (Int32.toNatClampNeg (3 * (z 0 7))) x)) 5 (upd (upd (z 5) (Int32.toNatClampNeg (3 * (z 0 7))) x) (Int32.toNatClampNeg ((3 * (z 0 7)) + 1)) y)) 5 (upd (upd (upd (z 5) (Int32.toNatClampNeg (3 * (z 0 7))) x) (Int32.toNatClampNeg ((3 * (z 0 7)) + 1)) y) (Int32.toNatClampNeg ((3 * (z 0 7)) + 2)) v))) := hD
          refine lv_aload_n hx hb dX7_note_81 rfl (lv_at hl 0 rfl) ?_
          refine lv_dup hx hb dX7_note_82 rfl ?_
          refine va_get (D := D) (ci := 7) (v := .int (z 0 7)) (C := RX7) (T := TX7) (N := 17) hx hb hts inT7 hown hK hP 0 rfl rfl 7 (by decide) (hts _ mT_573) (fun _ h9 => h9) rfl dX7_note_83 ?_
          refine lv_iconst (v := 1) hx hb dX7_note_86 (by decide) ?_
          refine lv_iadd hx hb dX7_note_87 ?_
          refine va_put (D := D) (ci := 7) (v := .int ((z 0 7) + 1)) (ty := .int) (C := RX7) (T := TX7) (N := 17) hx hb hts inT7 tyX7 tyX7_ok nmX7 hown hK hP hD hS 0 rfl rfl 7 (by decide) (hts _ mT_573) (fun _ h9 => h9) rfl (by decide +kernel) rfl rfl (Nat.le_of_ble_eq_true rfl) dX7_note_88 (fun H locs hP hD hS => ?_)
          have hP : va_P D vwCl (cModel cI cZ za z1 z2 z3 z4 z5 z6 z7 z8 z9 (sI (sA (sA (sA z 5 (upd (z 5) (Int32.toNatClampNeg (3 * (z 0 7))) x)) 5 (upd (upd (z 5) (Int32.toNatClampNeg (3 * (z 0 7))) x) (Int32.toNatClampNeg ((3 * (z 0 7)) + 1)) y)) 5 (upd (upd (upd (z 5) (Int32.toNatClampNeg (3 * (z 0 7))) x) (Int32.toNatClampNeg ((3 * (z 0 7)) + 1)) y) (Int32.toNatClampNeg ((3 * (z 0 7)) + 2)) v)) 7 ((z 0 7) + 1))) H := hP
          have hD : va_D A (cModel cI cZ za z1 z2 z3 z4 z5 z6 z7 z8 z9 (sI (sA (sA (sA z 5 (upd (z 5) (Int32.toNatClampNeg (3 * (z 0 7))) x)) 5 (upd (upd (z 5) (Int32.toNatClampNeg (3 * (z 0 7))) x) (Int32.toNatClampNeg ((3 * (z 0 7)) + 1)) y)) 5 (upd (upd (upd (z 5) (Int32.toNatClampNeg (3 * (z 0 7))) x) (Int32.toNatClampNeg ((3 * (z 0 7)) + 1)) y) (Int32.toNatClampNeg ((3 * (z 0 7)) + 2)) v)) 7 ((z 0 7) + 1))) := hD
          refine lv_aload_n hx hb dX7_note_91 rfl (lv_at hl 0 rfl) ?_
          refine va_get (D := D) (ci := 7) (v := .int ((z 0 7) + 1)) (C := RX7) (T := TX7) (N := 17) hx hb hts inT7 hown hK hP 0 rfl rfl 7 (by decide) (hts _ mT_573) (fun _ h9 => h9) rfl dX7_note_92 ?_
          exact hret _ _ _ (sI (sA (sA (sA z 5 (upd (z 5) (Int32.toNatClampNeg (3 * (z 0 7))) x)) 5 (upd (upd (z 5) (Int32.toNatClampNeg (3 * (z 0 7))) x) (Int32.toNatClampNeg ((3 * (z 0 7)) + 1)) y)) 5 (upd (upd (upd (z 5) (Int32.toNatClampNeg (3 * (z 0 7))) x) (Int32.toNatClampNeg ((3 * (z 0 7)) + 1)) y) (Int32.toNatClampNeg ((3 * (z 0 7)) + 2)) v)) 7 ((z 0 7) + 1)) _ _ hf dX7_note_95 hP hD hS
        · have hf := ite_t c10 hf
          refine lv_ldc (v := (-1000000004)) hx hb hown (hts _ mT_795) dX7_note_38 ?_
          exact hret _ _ _ z _ _ hf dX7_note_40 hP hD hS
      · have hf := ite_t c9 hf
        refine lv_ldc (v := (-1000000002)) hx hb hown (hts _ mT_722) dX7_note_26 ?_
        exact hret _ _ _ z _ _ hf dX7_note_28 hP hD hS
    · have hf := ite_t c6 hf
      refine lv_ldc (v := (-1000000001)) hx hb hown (hts _ mT_731) dX7_note_16 ?_
      exact hret _ _ _ z _ _ hf dX7_note_18 hP hD hS
theorem s_yX7_tear : kMS yX7_tear cX7_tear 2 (some .int) 0 := ⟨mT_848, mT_59, by decide +kernel⟩
theorem v_yX7_tear : kMV yX7_tear := ⟨mT_846, mT_847⟩
def f_m_tear (z : Ob) : Option (Int32 × Ob) := some (z 0 7, sI z 7 0)
set_option maxHeartbeats 4000000 in
set_option maxRecDepth 100000 in
theorem c_m_tear (l : Launch) (D : va_G) (cI cZ cR : ClassId) (za z1 z2 z3 z4 z5 z6 z7 z8 z9 : Nat) (z : Ob) (sz : Nat) (r : Int32) (u : Ob) (hf : f_m_tear z = some (r, u)) : kCi l yX7_tear cX7_tear 2 (some .int) { frames := 0, cells := 0, slots := 0, locals := 0 } [.ref za] D cI cZ cR (cModel cI cZ za z1 z2 z3 z4 z5 z6 z7 z8 z9 z) sz (cModel cI cZ za z1 z2 z3 z4 z5 z6 z7 z8 z9 u) r := by
  refine kMwi (wf := (fun u : Ob => cModel cI cZ za z1 z2 z3 z4 z5 z6 z7 z8 z9 u)) (u := u) (by decide) (Nat.le_of_ble_eq_true rfl) ?_
  intro p e s m below meth c Q A hx hb hml hown hts hk hP hD hA hS hret ls hl
  have hS0 := hS
  have hK := hk.1
  have hl : lv_has ls 2 [(0, .ref za)] := hl
  rw [f_m_tear] at hf
  refine lv_aload_n hx hb dX7_tear_0 rfl (lv_at hl 0 rfl) ?_
  refine va_get (D := D) (ci := 7) (v := .int (z 0 7)) (C := RX7) (T := TX7) (N := 17) hx hb hts inT7 hown hK hP 0 rfl rfl 7 (by decide) (hts _ mT_573) (fun _ h9 => h9) rfl dX7_tear_1 ?_
  refine lv_istore_n (lv' := [(1, .int (z 0 7)), (0, .ref za)]) hx hb dX7_tear_4 rfl hl (by decide) rfl (fun ls hl => ?_)
  refine lv_aload_n hx hb dX7_tear_5 rfl (lv_at hl 1 rfl) ?_
  refine lv_iconst (v := 0) hx hb dX7_tear_6 (by decide) ?_
  refine va_put (D := D) (ci := 7) (v := .int 0) (ty := .int) (C := RX7) (T := TX7) (N := 17) hx hb hts inT7 tyX7 tyX7_ok nmX7 hown hK hP hD hS 0 rfl rfl 7 (by decide) (hts _ mT_573) (fun _ h9 => h9) rfl (by decide +kernel) rfl rfl (Nat.le_of_ble_eq_true rfl) dX7_tear_7 (fun H locs hP hD hS => ?_)
  have hP : va_P D vwCl (cModel cI cZ za z1 z2 z3 z4 z5 z6 z7 z8 z9 (sI z 7 0)) H := hP
  have hD : va_D A (cModel cI cZ za z1 z2 z3 z4 z5 z6 z7 z8 z9 (sI z 7 0)) := hD
  refine lv_iload_n hx hb dX7_tear_10 rfl (lv_at hl 0 rfl) ?_
  exact hret _ _ _ (sI z 7 0) _ _ hf dX7_tear_11 hP hD hS
theorem s_yX7_seed : kMS yX7_seed cX7_seed 3 (some .int) 1 := ⟨mT_852, mT_59, by decide +kernel⟩
theorem v_yX7_seed : kMV yX7_seed := ⟨mT_850, mT_851⟩
def f_m_seed (z : Ob) (x : Int32) : Option (Int32 × Ob) := if 0 ≤ x then (some (z 0 5, sI z 5 x)) else (some ((-1000000002), z))
set_option maxHeartbeats 4000000 in
set_option maxRecDepth 100000 in
theorem c_m_seed (l : Launch) (D : va_G) (cI cZ cR : ClassId) (za z1 z2 z3 z4 z5 z6 z7 z8 z9 : Nat) (z : Ob) (x : Int32) (sz : Nat) (r : Int32) (u : Ob) (hf : f_m_seed z x = some (r, u)) : kCi l yX7_seed cX7_seed 3 (some .int) { frames := 0, cells := 0, slots := 0, locals := 0 } [.ref za, .int x] D cI cZ cR (cModel cI cZ za z1 z2 z3 z4 z5 z6 z7 z8 z9 z) sz (cModel cI cZ za z1 z2 z3 z4 z5 z6 z7 z8 z9 u) r := by
  refine kMwi (wf := (fun u : Ob => cModel cI cZ za z1 z2 z3 z4 z5 z6 z7 z8 z9 u)) (u := u) (by decide) (Nat.le_of_ble_eq_true rfl) ?_
  intro p e s m below meth c Q A hx hb hml hown hts hk hP hD hA hS hret ls hl
  have hS0 := hS
  have hK := hk.1
  have hl : lv_has ls 3 [(0, .ref za), (1, .int x)] := hl
  rw [f_m_seed] at hf
  refine lv_iload_n hx hb dX7_seed_0 rfl (lv_at hl 1 rfl) ?_
  refine lv_if_ge (tgt := 7) hx hb dX7_seed_1 (by decide) (fun c1 => ?_) (fun c1 => ?_)
  · have hf := ite_t c1 hf
    refine lv_aload_n hx hb dX7_seed_7 rfl (lv_at hl 0 rfl) ?_
    refine va_get (D := D) (ci := 7) (v := .int (z 0 5)) (C := RX7) (T := TX7) (N := 17) hx hb hts inT7 hown hK hP 0 rfl rfl 5 (by decide) (hts _ mT_571) (fun _ h9 => h9) rfl dX7_seed_8 ?_
    refine lv_istore_n (lv' := [(2, .int (z 0 5)), (0, .ref za), (1, .int x)]) hx hb dX7_seed_11 rfl hl (by decide) rfl (fun ls hl => ?_)
    refine lv_aload_n hx hb dX7_seed_12 rfl (lv_at hl 1 rfl) ?_
    refine lv_iload_n hx hb dX7_seed_13 rfl (lv_at hl 2 rfl) ?_
    refine va_put (D := D) (ci := 7) (v := .int x) (ty := .int) (C := RX7) (T := TX7) (N := 17) hx hb hts inT7 tyX7 tyX7_ok nmX7 hown hK hP hD hS 0 rfl rfl 5 (by decide) (hts _ mT_571) (fun _ h9 => h9) rfl (by decide +kernel) rfl rfl (Nat.le_of_ble_eq_true rfl) dX7_seed_14 (fun H locs hP hD hS => ?_)
    have hP : va_P D vwCl (cModel cI cZ za z1 z2 z3 z4 z5 z6 z7 z8 z9 (sI z 5 x)) H := hP
    have hD : va_D A (cModel cI cZ za z1 z2 z3 z4 z5 z6 z7 z8 z9 (sI z 5 x)) := hD
    refine lv_iload_n hx hb dX7_seed_17 rfl (lv_at hl 0 rfl) ?_
    exact hret _ _ _ (sI z 5 x) _ _ hf dX7_seed_18 hP hD hS
  · have hf := ite_f c1 hf
    refine lv_ldc (v := (-1000000002)) hx hb hown (hts _ mT_722) dX7_seed_4 ?_
    exact hret _ _ _ z _ _ hf dX7_seed_6 hP hD hS
theorem s_yX7_keep : kMS yX7_keep cX7_keep 3 (some .int) 1 := ⟨mT_856, mT_59, by decide +kernel⟩
theorem v_yX7_keep : kMV yX7_keep := ⟨mT_854, mT_855⟩
def k_m_keep_14 (x : Int32) (x2_5 : Int32) (z_6 : Ob) : Option (Int32 × Ob) := gd (ck ((368 * x) + 367) 736) (gd (ck x 2) (some (1, sI (sA (sA z_6 3 (upd (z_6 3) (Int32.toNatClampNeg ((368 * x) + 367)) (z_6 0 5))) 4 (upd (z_6 4) (Int32.toNatClampNeg x) (vp_nar .boolean 1))) 2 0)))
def lp_m_keep_14 (x : Int32) (kk0 : Int32 → Ob → Option (Int32 × Ob)) : Nat → Int32 → Ob → Option (Int32 × Ob)
  | 0, _, _ => none
  | fu4 + 1, x2_5, z_6 => if 367 ≤ x2_5 then (kk0 x2_5 z_6) else (gd (ck x2_5 367) (gd (ck ((368 * x) + x2_5) 736) ((lp_m_keep_14 x kk0 fu4) (x2_5 + 1) (sA z_6 3 (upd (z_6 3) (Int32.toNatClampNeg ((368 * x) + x2_5)) ((z_6 1) (Int32.toNatClampNeg x2_5)))))))
def f_m_keep (z : Ob) (x : Int32) : Option (Int32 × Ob) := bd (f_m_in x 0 1) (fun q1 => if q1 = 0 then (some ((-1000000001), z)) else (lp_m_keep_14 x (k_m_keep_14 x) 10000 0 z))
set_option maxHeartbeats 4000000 in
set_option maxRecDepth 100000 in
theorem c_m_keep (l : Launch) (D : va_G) (cI cZ cR : ClassId) (za z1 z2 z3 z4 z5 z6 z7 z8 z9 : Nat) (z : Ob) (x : Int32) (sz : Nat) (r : Int32) (u : Ob) (hf : f_m_keep z x = some (r, u)) : kCi l yX7_keep cX7_keep 3 (some .int) { frames := 1, cells := 0, slots := 0, locals := 22 } [.ref za, .int x] D cI cZ cR (cModel cI cZ za z1 z2 z3 z4 z5 z6 z7 z8 z9 z) sz (cModel cI cZ za z1 z2 z3 z4 z5 z6 z7 z8 z9 u) r := by
  refine kMwi (wf := (fun u : Ob => cModel cI cZ za z1 z2 z3 z4 z5 z6 z7 z8 z9 u)) (u := u) (by decide) (Nat.le_of_ble_eq_true rfl) ?_
  intro p e s m below meth c Q A hx hb hml hown hts hk hP hD hA hS hret ls hl
  have hS0 := hS
  have hK := hk.1
  have hl : lv_has ls 3 [(0, .ref za), (1, .int x)] := hl
  rw [f_m_keep] at hf
  refine lv_iload_n hx hb dX7_keep_0 rfl (lv_at hl 1 rfl) ?_
  refine lv_iconst (v := 0) hx hb dX7_keep_1 (by decide) ?_
  refine lv_iconst (v := 1) hx hb dX7_keep_2 (by decide) ?_
  obtain ⟨q1, h2, hf⟩ := bd_some hf
  refine kx_rs (As := [.int x, .int 0, .int 1]) (rest := []) hx hb hml hown hts hk hl.1 s_yX7_in mT_720 (c_m_in l D cI cZ cR x 0 1 _ h2) mT_719 rfl rfl ⟨Nat.le_of_ble_eq_true rfl, Nat.le_of_ble_eq_true rfl⟩ rfl (Nat.le_of_ble_eq_true rfl) ⟨Nat.zero_le _, Nat.zero_le _⟩ dX7_keep_3 ?_
  refine lv_if_ne (tgt := 12) hx hb dX7_keep_6 (by decide) (fun c3 => ?_) (fun c3 => ?_)
  · have hf := ite_f c3 hf
    refine lv_iconst (v := 0) hx hb dX7_keep_12 (by decide) ?_
    refine lv_istore_n (lv' := [(2, .int 0), (0, .ref za), (1, .int x)]) hx hb dX7_keep_13 rfl hl (by decide) rfl (fun ls hl => ?_)
    have kx4 : ∀ (x2_5 : Int32) (z_6 : Ob) (H : Heap) (locs : List Loc) (ls : Array Slot), (k_m_keep_14 x) x2_5 z_6 = some (r, u) → va_P D vwCl (cModel cI cZ za z1 z2 z3 z4 z5 z6 z7 z8 z9 z_6) H → va_D A (cModel cI cZ za z1 z2 z3 z4 z5 z6 z7 z8 z9 z_6) → va_S A s.heap H locs → lv_has ls 3 [(0, .ref za), (1, .int x), (2, .int x2_5)] → W p l e ({ frames := 1, cells := 0, slots := 0, locals := 22 } : Room) s m ([.ref za, .int x] : List Value).toArray below meth c H locs 0 0 Q (F0 m 45 ls []) := by
      intro x2_5 z_6 H locs ls hf hP hD hS hl
      rw [k_m_keep_14] at hf
      refine lv_aload_n hx hb dX7_keep_45 rfl (lv_at hl 0 rfl) ?_
      refine va_get (D := D) (ci := 7) (v := .ref z3) (C := RX7) (T := TX7) (N := 17) hx hb hts inT7 hown hK hP 0 rfl rfl 3 (by decide) (hts _ mT_569) (fun _ h9 => h9) rfl dX7_keep_46 ?_
      refine lv_sipush (v := 368) hx hb dX7_keep_49 (by decide) ?_
      refine lv_iload_n hx hb dX7_keep_52 rfl (lv_at hl 1 rfl) ?_
      refine lv_imul hx hb dX7_keep_53 ?_
      refine lv_sipush (v := 367) hx hb dX7_keep_54 (by decide) ?_
      refine lv_iadd hx hb dX7_keep_57 ?_
      refine lv_aload_n hx hb dX7_keep_58 rfl (lv_at hl 0 rfl) ?_
      refine va_get (D := D) (ci := 7) (v := .int (z_6 0 5)) (C := RX7) (T := TX7) (N := 17) hx hb hts inT7 hown hK hP 0 rfl rfl 5 (by decide) (hts _ mT_571) (fun _ h9 => h9) rfl dX7_keep_59 ?_
      obtain ⟨b7, hf⟩ := gd_some hf
      refine va_iast (n := 736) (f := z_6 3) hx hb hK hP hD hS 3 0 rfl rfl (ck_in b7) dX7_keep_62 (fun H locs hP hD hS => ?_)
      have hP : va_P D vwCl (cModel cI cZ za z1 z2 z3 z4 z5 z6 z7 z8 z9 (sA z_6 3 (upd (z_6 3) (Int32.toNatClampNeg ((368 * x) + 367)) (z_6 0 5)))) H := hP
      have hD : va_D A (cModel cI cZ za z1 z2 z3 z4 z5 z6 z7 z8 z9 (sA z_6 3 (upd (z_6 3) (Int32.toNatClampNeg ((368 * x) + 367)) (z_6 0 5)))) := hD
      refine lv_aload_n hx hb dX7_keep_63 rfl (lv_at hl 0 rfl) ?_
      refine va_get (D := D) (ci := 7) (v := .ref z4) (C := RX7) (T := TX7) (N := 17) hx hb hts inT7 hown hK hP 0 rfl rfl 4 (by decide) (hts _ mT_570) (fun _ h9 => h9) rfl dX7_keep_64 ?_
      refine lv_iload_n hx hb dX7_keep_67 rfl (lv_at hl 1 rfl) ?_
      refine lv_iconst (v := 1) hx hb dX7_keep_68 (by decide) ?_
      obtain ⟨b8, hf⟩ := gd_some hf
      refine va_zast (n := 2) (f := z_6 4) hx hb hK hP hD hS 4 1 rfl rfl (ck_in b8) dX7_keep_69 (fun H locs hP hD hS => ?_)
      have hP : va_P D vwCl (cModel cI cZ za z1 z2 z3 z4 z5 z6 z7 z8 z9 (sA (sA z_6 3 (upd (z_6 3) (Int32.toNatClampNeg ((368 * x) + 367)) (z_6 0 5))) 4 (upd (z_6 4) (Int32.toNatClampNeg x) (vp_nar .boolean 1)))) H := hP
      have hD : va_D A (cModel cI cZ za z1 z2 z3 z4 z5 z6 z7 z8 z9 (sA (sA z_6 3 (upd (z_6 3) (Int32.toNatClampNeg ((368 * x) + 367)) (z_6 0 5))) 4 (upd (z_6 4) (Int32.toNatClampNeg x) (vp_nar .boolean 1)))) := hD
      refine lv_aload_n hx hb dX7_keep_70 rfl (lv_at hl 0 rfl) ?_
      refine lv_iconst (v := 0) hx hb dX7_keep_71 (by decide) ?_
      refine va_put (D := D) (ci := 7) (v := .int 0) (ty := .int) (C := RX7) (T := TX7) (N := 17) hx hb hts inT7 tyX7 tyX7_ok nmX7 hown hK hP hD hS 0 rfl rfl 2 (by decide) (hts _ mT_568) (fun _ h9 => h9) rfl (by decide +kernel) rfl rfl (Nat.le_of_ble_eq_true rfl) dX7_keep_72 (fun H locs hP hD hS => ?_)
      have hP : va_P D vwCl (cModel cI cZ za z1 z2 z3 z4 z5 z6 z7 z8 z9 (sI (sA (sA z_6 3 (upd (z_6 3) (Int32.toNatClampNeg ((368 * x) + 367)) (z_6 0 5))) 4 (upd (z_6 4) (Int32.toNatClampNeg x) (vp_nar .boolean 1))) 2 0)) H := hP
      have hD : va_D A (cModel cI cZ za z1 z2 z3 z4 z5 z6 z7 z8 z9 (sI (sA (sA z_6 3 (upd (z_6 3) (Int32.toNatClampNeg ((368 * x) + 367)) (z_6 0 5))) 4 (upd (z_6 4) (Int32.toNatClampNeg x) (vp_nar .boolean 1))) 2 0)) := hD
      refine lv_iconst (v := 1) hx hb dX7_keep_75 (by decide) ?_
      exact hret _ _ _ (sI (sA (sA z_6 3 (upd (z_6 3) (Int32.toNatClampNeg ((368 * x) + 367)) (z_6 0 5))) 4 (upd (z_6 4) (Int32.toNatClampNeg x) (vp_nar .boolean 1))) 2 0) _ _ hf dX7_keep_76 hP hD hS
    have lh4 : ∀ (fu4 : Nat) (x2_5 : Int32) (z_6 : Ob) (H : Heap) (locs : List Loc) (ls : Array Slot), lp_m_keep_14 x (k_m_keep_14 x) fu4 x2_5 z_6 = some (r, u) → va_P D vwCl (cModel cI cZ za z1 z2 z3 z4 z5 z6 z7 z8 z9 z_6) H → va_D A (cModel cI cZ za z1 z2 z3 z4 z5 z6 z7 z8 z9 z_6) → va_S A s.heap H locs → lv_has ls 3 [(0, .ref za), (1, .int x), (2, .int x2_5)] → W p l e ({ frames := 1, cells := 0, slots := 0, locals := 22 } : Room) s m ([.ref za, .int x] : List Value).toArray below meth c H locs 0 0 Q (F0 m 14 ls []) := by
      intro fu4
      induction fu4 with
      | zero => intro x2_5 z_6 H locs ls hf hP hD hS hl; exact no_none hf
      | succ fu4 ih4 =>
        intro x2_5 z_6 H locs ls hf hP hD hS hl
        rw [lp_m_keep_14] at hf
        refine lv_iload_n hx hb dX7_keep_14 rfl (lv_at hl 2 rfl) ?_
        refine lv_sipush (v := 367) hx hb dX7_keep_15 (by decide) ?_
        refine lv_icmp_ge (tgt := 45) hx hb dX7_keep_18 (by decide) (fun c9 => ?_) (fun c9 => ?_)
        · have hf := ite_t c9 hf
          exact kx4 x2_5 z_6 _ _ _ hf hP hD hS (lv_sub hl [0, 1, 2] rfl)
        · have hf := ite_f c9 hf
          refine lv_aload_n hx hb dX7_keep_21 rfl (lv_at hl 0 rfl) ?_
          refine va_get (D := D) (ci := 7) (v := .ref z3) (C := RX7) (T := TX7) (N := 17) hx hb hts inT7 hown hK hP 0 rfl rfl 3 (by decide) (hts _ mT_569) (fun _ h9 => h9) rfl dX7_keep_22 ?_
          refine lv_sipush (v := 368) hx hb dX7_keep_25 (by decide) ?_
          refine lv_iload_n hx hb dX7_keep_28 rfl (lv_at hl 1 rfl) ?_
          refine lv_imul hx hb dX7_keep_29 ?_
          refine lv_iload_n hx hb dX7_keep_30 rfl (lv_at hl 2 rfl) ?_
          refine lv_iadd hx hb dX7_keep_31 ?_
          refine lv_aload_n hx hb dX7_keep_32 rfl (lv_at hl 0 rfl) ?_
          refine va_get (D := D) (ci := 7) (v := .ref z1) (C := RX7) (T := TX7) (N := 17) hx hb hts inT7 hown hK hP 0 rfl rfl 0 (by decide) (hts _ mT_566) (fun _ h9 => h9) rfl dX7_keep_33 ?_
          refine lv_iload_n hx hb dX7_keep_36 rfl (lv_at hl 2 rfl) ?_
          obtain ⟨b10, hf⟩ := gd_some hf
          refine va_iald (n := 367) (f := z_6 1) hx hb hK hP 1 0 rfl rfl (ck_in b10) dX7_keep_37 ?_
          obtain ⟨b11, hf⟩ := gd_some hf
          refine va_iast (n := 736) (f := z_6 3) hx hb hK hP hD hS 3 0 rfl rfl (ck_in b11) dX7_keep_38 (fun H locs hP hD hS => ?_)
          have hP : va_P D vwCl (cModel cI cZ za z1 z2 z3 z4 z5 z6 z7 z8 z9 (sA z_6 3 (upd (z_6 3) (Int32.toNatClampNeg ((368 * x) + x2_5)) ((z_6 1) (Int32.toNatClampNeg x2_5))))) H := hP
          have hD : va_D A (cModel cI cZ za z1 z2 z3 z4 z5 z6 z7 z8 z9 (sA z_6 3 (upd (z_6 3) (Int32.toNatClampNeg ((368 * x) + x2_5)) ((z_6 1) (Int32.toNatClampNeg x2_5))))) := hD
          refine lv_iinc (v := x2_5 + 1) (lv' := [(2, .int (x2_5 + 1)), (0, .ref za), (1, .int x)]) hx hb dX7_keep_39 hl (k := 2) rfl rfl (by decide) rfl (fun ls hl => ?_)
          refine lv_goto (tgt := 14) hx hb dX7_keep_42 (by decide) ?_
          exact ih4 (x2_5 + 1) (sA z_6 3 (upd (z_6 3) (Int32.toNatClampNeg ((368 * x) + x2_5)) ((z_6 1) (Int32.toNatClampNeg x2_5)))) _ _ _ hf hP hD hS (lv_sub hl [1, 2, 0] rfl)
    exact lh4 10000 0 z _ _ _ hf hP hD hS (lv_sub hl [1, 2, 0] rfl)
  · have hf := ite_t c3 hf
    refine lv_ldc (v := (-1000000001)) hx hb hown (hts _ mT_731) dX7_keep_9 ?_
    exact hret _ _ _ z _ _ hf dX7_keep_11 hP hD hS
theorem s_yX7_goBack : kMS yX7_goBack cX7_goBack 3 (some .int) 1 := ⟨mT_860, mT_59, by decide +kernel⟩
theorem v_yX7_goBack : kMV yX7_goBack := ⟨mT_858, mT_859⟩
def k_m_goBack_26 (x : Int32) (x2_7 : Int32) (z_8 : Ob) : Option (Int32 × Ob) := gd (ck ((368 * x) + 367) 736) (some (1, sI (sI z_8 5 ((z_8 3) (Int32.toNatClampNeg ((368 * x) + 367)))) 2 0))
def lp_m_goBack_26 (x : Int32) (kk0 : Int32 → Ob → Option (Int32 × Ob)) : Nat → Int32 → Ob → Option (Int32 × Ob)
  | 0, _, _ => none
  | fu6 + 1, x2_7, z_8 => if 367 ≤ x2_7 then (kk0 x2_7 z_8) else (gd (ck ((368 * x) + x2_7) 736) (gd (ck x2_7 367) ((lp_m_goBack_26 x kk0 fu6) (x2_7 + 1) (sA z_8 1 (upd (z_8 1) (Int32.toNatClampNeg x2_7) ((z_8 3) (Int32.toNatClampNeg ((368 * x) + x2_7))))))))
def f_m_goBack (z : Ob) (x : Int32) : Option (Int32 × Ob) := bd (f_m_in x 0 1) (fun q1 => if q1 = 0 then (some ((-1000000001), z)) else (gd (ck x 2) (if ((z 4) (Int32.toNatClampNeg x)) = 0 then (some ((-1000000003), z)) else (lp_m_goBack_26 x (k_m_goBack_26 x) 10000 0 z))))
set_option maxHeartbeats 4000000 in
set_option maxRecDepth 100000 in
theorem c_m_goBack (l : Launch) (D : va_G) (cI cZ cR : ClassId) (za z1 z2 z3 z4 z5 z6 z7 z8 z9 : Nat) (z : Ob) (x : Int32) (sz : Nat) (r : Int32) (u : Ob) (hf : f_m_goBack z x = some (r, u)) : kCi l yX7_goBack cX7_goBack 3 (some .int) { frames := 1, cells := 0, slots := 0, locals := 22 } [.ref za, .int x] D cI cZ cR (cModel cI cZ za z1 z2 z3 z4 z5 z6 z7 z8 z9 z) sz (cModel cI cZ za z1 z2 z3 z4 z5 z6 z7 z8 z9 u) r := by
  refine kMwi (wf := (fun u : Ob => cModel cI cZ za z1 z2 z3 z4 z5 z6 z7 z8 z9 u)) (u := u) (by decide) (Nat.le_of_ble_eq_true rfl) ?_
  intro p e s m below meth c Q A hx hb hml hown hts hk hP hD hA hS hret ls hl
  have hS0 := hS
  have hK := hk.1
  have hl : lv_has ls 3 [(0, .ref za), (1, .int x)] := hl
  rw [f_m_goBack] at hf
  refine lv_iload_n hx hb dX7_goBack_0 rfl (lv_at hl 1 rfl) ?_
  refine lv_iconst (v := 0) hx hb dX7_goBack_1 (by decide) ?_
  refine lv_iconst (v := 1) hx hb dX7_goBack_2 (by decide) ?_
  obtain ⟨q1, h2, hf⟩ := bd_some hf
  refine kx_rs (As := [.int x, .int 0, .int 1]) (rest := []) hx hb hml hown hts hk hl.1 s_yX7_in mT_720 (c_m_in l D cI cZ cR x 0 1 _ h2) mT_719 rfl rfl ⟨Nat.le_of_ble_eq_true rfl, Nat.le_of_ble_eq_true rfl⟩ rfl (Nat.le_of_ble_eq_true rfl) ⟨Nat.zero_le _, Nat.zero_le _⟩ dX7_goBack_3 ?_
  refine lv_if_ne (tgt := 12) hx hb dX7_goBack_6 (by decide) (fun c3 => ?_) (fun c3 => ?_)
  · have hf := ite_f c3 hf
    refine lv_aload_n hx hb dX7_goBack_12 rfl (lv_at hl 0 rfl) ?_
    refine va_get (D := D) (ci := 7) (v := .ref z4) (C := RX7) (T := TX7) (N := 17) hx hb hts inT7 hown hK hP 0 rfl rfl 4 (by decide) (hts _ mT_570) (fun _ h9 => h9) rfl dX7_goBack_13 ?_
    refine lv_iload_n hx hb dX7_goBack_16 rfl (lv_at hl 1 rfl) ?_
    obtain ⟨b4, hf⟩ := gd_some hf
    refine va_zald (n := 2) (f := z 4) hx hb hK hP 4 1 rfl rfl (ck_in b4) dX7_goBack_17 ?_
    refine lv_if_ne (tgt := 24) hx hb dX7_goBack_18 (by decide) (fun c5 => ?_) (fun c5 => ?_)
    · have hf := ite_f c5 hf
      refine lv_iconst (v := 0) hx hb dX7_goBack_24 (by decide) ?_
      refine lv_istore_n (lv' := [(2, .int 0), (0, .ref za), (1, .int x)]) hx hb dX7_goBack_25 rfl hl (by decide) rfl (fun ls hl => ?_)
      have kx6 : ∀ (x2_7 : Int32) (z_8 : Ob) (H : Heap) (locs : List Loc) (ls : Array Slot), (k_m_goBack_26 x) x2_7 z_8 = some (r, u) → va_P D vwCl (cModel cI cZ za z1 z2 z3 z4 z5 z6 z7 z8 z9 z_8) H → va_D A (cModel cI cZ za z1 z2 z3 z4 z5 z6 z7 z8 z9 z_8) → va_S A s.heap H locs → lv_has ls 3 [(0, .ref za), (1, .int x), (2, .int x2_7)] → W p l e ({ frames := 1, cells := 0, slots := 0, locals := 22 } : Room) s m ([.ref za, .int x] : List Value).toArray below meth c H locs 0 0 Q (F0 m 57 ls []) := by
        intro x2_7 z_8 H locs ls hf hP hD hS hl
        rw [k_m_goBack_26] at hf
        refine lv_aload_n hx hb dX7_goBack_57 rfl (lv_at hl 0 rfl) ?_
        refine lv_aload_n hx hb dX7_goBack_58 rfl (lv_at hl 0 rfl) ?_
        refine va_get (D := D) (ci := 7) (v := .ref z3) (C := RX7) (T := TX7) (N := 17) hx hb hts inT7 hown hK hP 0 rfl rfl 3 (by decide) (hts _ mT_569) (fun _ h9 => h9) rfl dX7_goBack_59 ?_
        refine lv_sipush (v := 368) hx hb dX7_goBack_62 (by decide) ?_
        refine lv_iload_n hx hb dX7_goBack_65 rfl (lv_at hl 1 rfl) ?_
        refine lv_imul hx hb dX7_goBack_66 ?_
        refine lv_sipush (v := 367) hx hb dX7_goBack_67 (by decide) ?_
        refine lv_iadd hx hb dX7_goBack_70 ?_
        obtain ⟨b9, hf⟩ := gd_some hf
        refine va_iald (n := 736) (f := z_8 3) hx hb hK hP 3 0 rfl rfl (ck_in b9) dX7_goBack_71 ?_
        refine va_put (D := D) (ci := 7) (v := .int ((z_8 3) (Int32.toNatClampNeg ((368 * x) + 367)))) (ty := .int) (C := RX7) (T := TX7) (N := 17) hx hb hts inT7 tyX7 tyX7_ok nmX7 hown hK hP hD hS 0 rfl rfl 5 (by decide) (hts _ mT_571) (fun _ h9 => h9) rfl (by decide +kernel) rfl rfl (Nat.le_of_ble_eq_true rfl) dX7_goBack_72 (fun H locs hP hD hS => ?_)
        have hP : va_P D vwCl (cModel cI cZ za z1 z2 z3 z4 z5 z6 z7 z8 z9 (sI z_8 5 ((z_8 3) (Int32.toNatClampNeg ((368 * x) + 367))))) H := hP
        have hD : va_D A (cModel cI cZ za z1 z2 z3 z4 z5 z6 z7 z8 z9 (sI z_8 5 ((z_8 3) (Int32.toNatClampNeg ((368 * x) + 367))))) := hD
        refine lv_aload_n hx hb dX7_goBack_75 rfl (lv_at hl 0 rfl) ?_
        refine lv_iconst (v := 0) hx hb dX7_goBack_76 (by decide) ?_
        refine va_put (D := D) (ci := 7) (v := .int 0) (ty := .int) (C := RX7) (T := TX7) (N := 17) hx hb hts inT7 tyX7 tyX7_ok nmX7 hown hK hP hD hS 0 rfl rfl 2 (by decide) (hts _ mT_568) (fun _ h9 => h9) rfl (by decide +kernel) rfl rfl (Nat.le_of_ble_eq_true rfl) dX7_goBack_77 (fun H locs hP hD hS => ?_)
        have hP : va_P D vwCl (cModel cI cZ za z1 z2 z3 z4 z5 z6 z7 z8 z9 (sI (sI z_8 5 ((z_8 3) (Int32.toNatClampNeg ((368 * x) + 367)))) 2 0)) H := hP
        have hD : va_D A (cModel cI cZ za z1 z2 z3 z4 z5 z6 z7 z8 z9 (sI (sI z_8 5 ((z_8 3) (Int32.toNatClampNeg ((368 * x) + 367)))) 2 0)) := hD
        refine lv_iconst (v := 1) hx hb dX7_goBack_80 (by decide) ?_
        exact hret _ _ _ (sI (sI z_8 5 ((z_8 3) (Int32.toNatClampNeg ((368 * x) + 367)))) 2 0) _ _ hf dX7_goBack_81 hP hD hS
      have lh6 : ∀ (fu6 : Nat) (x2_7 : Int32) (z_8 : Ob) (H : Heap) (locs : List Loc) (ls : Array Slot), lp_m_goBack_26 x (k_m_goBack_26 x) fu6 x2_7 z_8 = some (r, u) → va_P D vwCl (cModel cI cZ za z1 z2 z3 z4 z5 z6 z7 z8 z9 z_8) H → va_D A (cModel cI cZ za z1 z2 z3 z4 z5 z6 z7 z8 z9 z_8) → va_S A s.heap H locs → lv_has ls 3 [(0, .ref za), (1, .int x), (2, .int x2_7)] → W p l e ({ frames := 1, cells := 0, slots := 0, locals := 22 } : Room) s m ([.ref za, .int x] : List Value).toArray below meth c H locs 0 0 Q (F0 m 26 ls []) := by
        intro fu6
        induction fu6 with
        | zero => intro x2_7 z_8 H locs ls hf hP hD hS hl; exact no_none hf
        | succ fu6 ih6 =>
          intro x2_7 z_8 H locs ls hf hP hD hS hl
          rw [lp_m_goBack_26] at hf
          refine lv_iload_n hx hb dX7_goBack_26 rfl (lv_at hl 2 rfl) ?_
          refine lv_sipush (v := 367) hx hb dX7_goBack_27 (by decide) ?_
          refine lv_icmp_ge (tgt := 57) hx hb dX7_goBack_30 (by decide) (fun c10 => ?_) (fun c10 => ?_)
          · have hf := ite_t c10 hf
            exact kx6 x2_7 z_8 _ _ _ hf hP hD hS (lv_sub hl [0, 1, 2] rfl)
          · have hf := ite_f c10 hf
            refine lv_aload_n hx hb dX7_goBack_33 rfl (lv_at hl 0 rfl) ?_
            refine va_get (D := D) (ci := 7) (v := .ref z1) (C := RX7) (T := TX7) (N := 17) hx hb hts inT7 hown hK hP 0 rfl rfl 0 (by decide) (hts _ mT_566) (fun _ h9 => h9) rfl dX7_goBack_34 ?_
            refine lv_iload_n hx hb dX7_goBack_37 rfl (lv_at hl 2 rfl) ?_
            refine lv_aload_n hx hb dX7_goBack_38 rfl (lv_at hl 0 rfl) ?_
            refine va_get (D := D) (ci := 7) (v := .ref z3) (C := RX7) (T := TX7) (N := 17) hx hb hts inT7 hown hK hP 0 rfl rfl 3 (by decide) (hts _ mT_569) (fun _ h9 => h9) rfl dX7_goBack_39 ?_
            refine lv_sipush (v := 368) hx hb dX7_goBack_42 (by decide) ?_
            refine lv_iload_n hx hb dX7_goBack_45 rfl (lv_at hl 1 rfl) ?_
            refine lv_imul hx hb dX7_goBack_46 ?_
            refine lv_iload_n hx hb dX7_goBack_47 rfl (lv_at hl 2 rfl) ?_
            refine lv_iadd hx hb dX7_goBack_48 ?_
            obtain ⟨b11, hf⟩ := gd_some hf
            refine va_iald (n := 736) (f := z_8 3) hx hb hK hP 3 0 rfl rfl (ck_in b11) dX7_goBack_49 ?_
            obtain ⟨b12, hf⟩ := gd_some hf
            refine va_iast (n := 367) (f := z_8 1) hx hb hK hP hD hS 1 0 rfl rfl (ck_in b12) dX7_goBack_50 (fun H locs hP hD hS => ?_)
            have hP : va_P D vwCl (cModel cI cZ za z1 z2 z3 z4 z5 z6 z7 z8 z9 (sA z_8 1 (upd (z_8 1) (Int32.toNatClampNeg x2_7) ((z_8 3) (Int32.toNatClampNeg ((368 * x) + x2_7)))))) H := hP
            have hD : va_D A (cModel cI cZ za z1 z2 z3 z4 z5 z6 z7 z8 z9 (sA z_8 1 (upd (z_8 1) (Int32.toNatClampNeg x2_7) ((z_8 3) (Int32.toNatClampNeg ((368 * x) + x2_7)))))) := hD
            refine lv_iinc (v := x2_7 + 1) (lv' := [(2, .int (x2_7 + 1)), (0, .ref za), (1, .int x)]) hx hb dX7_goBack_51 hl (k := 2) rfl rfl (by decide) rfl (fun ls hl => ?_)
            refine lv_goto (tgt := 26) hx hb dX7_goBack_54 (by decide) ?_
            exact ih6 (x2_7 + 1) (sA z_8 1 (upd (z_8 1) (Int32.toNatClampNeg x2_7) ((z_8 3) (Int32.toNatClampNeg ((368 * x) + x2_7))))) _ _ _ hf hP hD hS (lv_sub hl [1, 2, 0] rfl)
      exact lh6 10000 0 z _ _ _ hf hP hD hS (lv_sub hl [1, 2, 0] rfl)
    · have hf := ite_t c5 hf
      refine lv_ldc (v := (-1000000003)) hx hb hown (hts _ mT_820) dX7_goBack_21 ?_
      exact hret _ _ _ z _ _ hf dX7_goBack_23 hP hD hS
  · have hf := ite_t c3 hf
    refine lv_ldc (v := (-1000000001)) hx hb hown (hts _ mT_731) dX7_goBack_9 ?_
    exact hret _ _ _ z _ _ hf dX7_goBack_11 hP hD hS
