/-! a way told; deeds on the web -/
section DD
variable {f pt i0 v0 i1 v1 bk : Ob} {a z : NO} {rg : Nat → Ob}
theorem wayAt_s (s : SW a (z 1)) (f kn tr : Ob) (x y : Int32) : ∃ r kn' tr' z', f_x_wayAt f (nO a) kn tr x y = some (r, kn', tr') ∧ f_m_wayAt (nO z) x y = some (r, nO z') ∧ SmQ z z' := by
  have hW := s.bd.2.2.1
  unfold f_x_wayAt f_m_wayAt
  rw [bd_s (f_hasWay_s s.bd), bd_s (m_way s x)]
  by_cases hx : hv (a 0 2) x
  · obtain ⟨w, hw, rfl⟩ := hx
    have hh : hv (a 0 2) (nI w) := ⟨w, hw, rfl⟩
    have eq := s.eqv.2.2.2.2.1 w hw
    rw [if_neg (b01_n hh), if_neg (b01_n hh)]
    simp only [gd_t (ck_nI (show w < 20 by omega) (by decide)), cl (show w < 2 ^ 31 by omega)]
    by_cases q : y = 0
    · subst q
      rw [if_pos rfl, show f_m_in 0 0 8 = some 1 from by decide, bd_s rfl, if_neg (by decide), if_neg (by decide), bd_s (m_of_fr (by omega)), ← eq.1]
      exact ⟨_, _, _, z, rfl, rfl, SmQ.rf z⟩
    rw [if_neg q]
    by_cases q : y = 1
    · subst q
      rw [if_pos rfl, show f_m_in 1 0 8 = some 1 from by decide, bd_s rfl, if_neg (by decide), if_neg (by decide), bd_s (m_of_to (by omega)), ← eq.2.1]
      exact ⟨_, _, _, z, rfl, rfl, SmQ.rf z⟩
    rw [if_neg q]
    by_cases q : y = 2
    · subst q
      rw [if_pos rfl, show f_m_in 2 0 8 = some 1 from by decide, bd_s rfl, if_neg (by decide), if_neg (by decide), bd_s (m_of_gv (by omega)), ← eq.2.2.1]
      exact ⟨_, _, _, z, rfl, rfl, SmQ.rf z⟩
    rw [if_neg q]
    by_cases q : y = 3
    · subst q
      rw [if_pos rfl, show f_m_in 3 0 8 = some 1 from by decide, bd_s rfl, if_neg (by decide), if_neg (by decide), bd_s (m_of_tk (by omega)), ← eq.2.2.2.1]
      exact ⟨_, _, _, z, rfl, rfl, SmQ.rf z⟩
    rw [if_neg q]
    by_cases q : y = 4
    · subst q
      rw [if_pos rfl, show f_m_in 4 0 8 = some 1 from by decide, bd_s rfl, if_neg (by decide), if_neg (by decide), bd_s (m_of_gt (by omega)), ← eq.2.2.2.2.1]
      exact ⟨_, _, _, z, rfl, rfl, SmQ.rf z⟩
    rw [if_neg q]
    by_cases q : y = 5
    · subst q
      rw [if_pos rfl, show f_m_in 5 0 8 = some 1 from by decide, bd_s (v := 1) rfl, if_neg (show ¬ (1 : Int32) = 0 by decide), if_pos (show (5 : Int32) ≤ 5 by decide), if_pos rfl, bd_s (f_keepsOrder_s s.bd (by omega)), bd_s (m_keepsOrder_s s.bs (by omega)), b01_c (ko_c s.eqv s.gd hw).symm]
      by_cases c : ko a w
      · rw [if_neg (b01_n c), if_neg (b01_n c)]
        exact ⟨_, _, _, z, rfl, rfl, SmQ.rf z⟩
      · rw [if_pos (b01_f c), if_pos (b01_f c)]
        exact ⟨_, _, _, z, rfl, rfl, SmQ.rf z⟩
    rw [if_neg q]
    by_cases q6 : y = 6
    · subst q6
      rw [if_pos rfl, show f_m_in 6 0 8 = some 1 from by decide, bd_s (v := 1) rfl, if_neg (show ¬ (1 : Int32) = 0 by decide), if_pos (show (5 : Int32) ≤ 6 by decide), if_neg (show ¬ (6 : Int32) = 5 by decide), if_pos (show (6 : Int32) ≤ 6 by decide), bd_s (m_well s)]
      by_cases c : WL a
      · obtain ⟨kn', k1, k2⟩ := fk_y s c f kn
        obtain ⟨tr', t1⟩ := ow_x s f kn' tr (nI w) k2
        obtain ⟨z', u1, u2⟩ := wo_m s c (nI w)
        rw [if_neg (b01_n c), bd_s k1]
        try dsimp only
        rw [if_neg (show ¬ (1 : Int32) = 0 by decide), bd_s t1, bd_s u1]
        exact ⟨_, _, _, z', rfl, rfl, u2⟩
      · rw [if_pos (b01_f c), bd_s (fk_n s c f kn)]
        exact ⟨_, _, _, z, rfl, rfl, SmQ.rf z⟩
    rw [if_neg q6]
    have br : WL a → ∀ kn, ∃ kn' z1 z2, f_x_findKnown f (nO a) kn = some (1, kn') ∧ f_brought (nO a) (kn' 1) (nI w) = some (nI ((bw a w ((fS a 0 (-1)).1 (a 4 w))).1 * 256 + (bw a w ((fS a 0 (-1)).1 (a 4 w))).2)) ∧ f_m_works 6 (nO z) 0 (-1) = some (sT (fS a 0 (-1)) (fT a 0 (-1)), nO z1) ∧ f_m_of (nO z1) (nI w) 0 = some (nI (a 4 w)) ∧ f_m_brings (nO z1) (nI w) (nO z1 6 (a 4 w)) (nO z1 6 (10 + a 4 w)) = some (nO z2) ∧ z2 0 11 = (bw a w ((fS a 0 (-1)).1 (a 4 w))).1 ∧ z2 0 12 = (bw a w ((fS a 0 (-1)).1 (a 4 w))).2 ∧ SmQ z z2 ∧ 0 ≤ sT (fS a 0 (-1)) (fT a 0 (-1)) := by
      intro c kn
      obtain ⟨kn', k1, k2⟩ := fk_y s c f kn
      obtain ⟨z1, u1, u2, u3⟩ := works_c s (jj := 6) (Or.inl rfl) (ch := 0) (by decide) (-1)
      have e := fS_end s c (ch := 0) (by decide) (-1)
      have e1 : z1 1 = z 1 := u2.1 1 (by decide) (by decide) (by decide)
      have h4 := s.bd.fr w
      have h4P := (s.gd.lv w hw).1
      have hlt := fS_lt s 0 (-1) (a 4 w)
      have fm := u3 (a 4 w) h4
      have hbr := m_brings_s (z := z1) (by rw [e1]; exact s.bs) (w := w) (v := (fS a 0 (-1)).1 (a 4 w) / 256) (s := (fS a 0 (-1)).1 (a 4 w) % 256) (by omega) (by omega) (by omega)
      rw [show (fS a 0 (-1)).1 (a 4 w) / 256 * 256 + (fS a 0 (-1)).1 (a 4 w) % 256 = (fS a 0 (-1)).1 (a 4 w) by omega, e1, ← bw_c s.eqv s.gd hw (fS_M s 0 (-1) h4P)] at hbr
      refine ⟨kn', z1, rN z1 0 (nU (nU (z1 0) 11 (bw a w ((fS a 0 (-1)).1 (a 4 w))).1) 12 (bw a w ((fS a 0 (-1)).1 (a 4 w))).2), k1, f_brought_s s.bd (by omega) (k2 _ h4P) hlt, u1, ?_, ?_, ?_, ?_, (SmW.q (Or.inl rfl) u2).tr ⟨fun i h0 _ _ _ _ => rN_n h0, fun k a1 a2 _ _ _ => by rw [rN_s, nU_n a2, nU_n a1], fun q => RB_c q rfl⟩, by rw [e.1]; exact nI_pos' (by omega)⟩
      · rw [m_of_fr (by omega), e1, ← eq.1]
      · rw [show nO z1 6 (a 4 w) = nI ((fS a 0 (-1)).1 (a 4 w) / 256) from congrArg nI fm.1, show nO z1 6 (10 + a 4 w) = nI ((fS a 0 (-1)).1 (a 4 w) % 256) from congrArg nI fm.2]
        exact hbr
      · rw [rN_s, nU_n (show (11 : Nat) ≠ 12 by decide), nU_s]
      · rw [rN_s, nU_s]
    have hm : ∀ y, (y = 7 ∨ y = 8) → f_m_wayAt (nO z) (nI w) y = f_m_broughtBy (nO z) (nI w) y := by
      intro y hy
      unfold f_m_wayAt
      rw [bd_s (m_way s (nI w)), if_neg (b01_n hh)]
      rcases hy with rfl | rfl
      · rw [show f_m_in 7 0 8 = some 1 from by decide, bd_s (v := 1) rfl, if_neg (show ¬ (1 : Int32) = 0 by decide), if_pos (show (5 : Int32) ≤ 7 by decide), if_neg (show ¬ (7 : Int32) = 5 by decide), if_neg (show ¬ (7 : Int32) ≤ 6 by decide)]
        cases f_m_broughtBy (nO z) (nI w) 7 with
        | none => rfl
        | some v => rfl
      · rw [show f_m_in 8 0 8 = some 1 from by decide, bd_s (v := 1) rfl, if_neg (show ¬ (1 : Int32) = 0 by decide), if_pos (show (5 : Int32) ≤ 8 by decide), if_neg (show ¬ (8 : Int32) = 5 by decide), if_neg (show ¬ (8 : Int32) ≤ 6 by decide)]
        cases f_m_broughtBy (nO z) (nI w) 8 with
        | none => rfl
        | some v => rfl
    have hb : ∀ (y : Int32), WL a → ∃ kn' z1 z2, f_x_findKnown f (nO a) kn = some (1, kn') ∧ f_brought (nO a) (kn' 1) (nI w) = some (nI ((bw a w ((fS a 0 (-1)).1 (a 4 w))).1 * 256 + (bw a w ((fS a 0 (-1)).1 (a 4 w))).2)) ∧ SmQ z z2 ∧ f_m_broughtBy (nO z) (nI w) y = (if y = 7 then some (nI (bw a w ((fS a 0 (-1)).1 (a 4 w))).1, nO z2) else some (nI (bw a w ((fS a 0 (-1)).1 (a 4 w))).2, nO z2)) ∧ z1 = z := by
      intro y c
      obtain ⟨kn', z1, z2, b1, b2, b3, b4, b5, b6, b7, b8, b9⟩ := br c kn
      have h4 := s.bd.fr w
      refine ⟨kn', z, z2, b1, b2, b8, ?_, rfl⟩
      unfold f_m_broughtBy
      rw [bd_s (m_well s), if_neg (b01_n c), bd_s b3]
      try dsimp only
      rw [if_pos b9, bd_s b4, gd_t (ck_nI (by omega) (by decide)), bd_s b4, ix10, gd_t (ck_nI (by omega) (by decide)), cl (by omega), cl (by omega), bd_s b5, show nO z2 0 11 = nI (bw a w ((fS a 0 (-1)).1 (a 4 w))).1 from congrArg nI b6, show nO z2 0 12 = nI (bw a w ((fS a 0 (-1)).1 (a 4 w))).2 from congrArg nI b7]
    have hbn : ∀ (y : Int32), ¬ WL a → f_m_broughtBy (nO z) (nI w) y = some (-1, nO z) := by
      intro y c
      unfold f_m_broughtBy
      rw [bd_s (m_well s), if_pos (b01_f c)]
    have l1 := bw_1 s.bd w ((fS a 0 (-1)).1 (a 4 w))
    have l2 := bw_2 s.bd w ((fS a 0 (-1)).1 (a 4 w))
    by_cases q7 : y = 7
    · have hm7 := hm y (Or.inl q7)
      unfold f_m_wayAt at hm7
      rw [bd_s (m_way s (nI w)), if_neg (b01_n hh)] at hm7
      rw [if_pos q7, hm7]
      by_cases c : WL a
      · obtain ⟨kn', z1, z2, b1, b2, b3, b4, -⟩ := hb y c
        rw [bd_s b1, b4]
        try dsimp only
        rw [if_neg (show ¬ (1 : Int32) = 0 by decide), bd_s b2, bd_s (f_valueOf_s (by omega)), if_pos q7]
        exact ⟨_, _, _, z2, rfl, by congr 3; omega, b3⟩
      · rw [bd_s (fk_n s c f kn), hbn y c]
        exact ⟨_, _, _, z, rfl, rfl, SmQ.rf z⟩
    by_cases q8 : y = 8
    · have hm8 := hm y (Or.inr q8)
      unfold f_m_wayAt at hm8
      rw [bd_s (m_way s (nI w)), if_neg (b01_n hh)] at hm8
      rw [if_neg q7, if_pos q8, hm8]
      by_cases c : WL a
      · obtain ⟨kn', z1, z2, b1, b2, b3, b4, -⟩ := hb y c
        rw [bd_s b1, b4]
        try dsimp only
        rw [if_neg (show ¬ (1 : Int32) = 0 by decide), bd_s b2, bd_s (f_setOf_s (by omega)), if_neg q7]
        exact ⟨_, _, _, z2, rfl, by congr 3; omega, b3⟩
      · rw [bd_s (fk_n s c f kn), hbn y c]
        exact ⟨_, _, _, z, rfl, rfl, SmQ.rf z⟩
    have hno : ¬ hv 9 y := by
      rintro ⟨j, hj, rfl⟩
      have e : j = 0 ∨ j = 1 ∨ j = 2 ∨ j = 3 ∨ j = 4 ∨ j = 5 ∨ j = 6 ∨ j = 7 ∨ j = 8 := by omega
      rcases e with rfl | rfl | rfl | rfl | rfl | rfl | rfl | rfl | rfl
      · exact absurd rfl (by assumption)
      · exact absurd rfl (by assumption)
      · exact absurd rfl (by assumption)
      · exact absurd rfl (by assumption)
      · exact absurd rfl (by assumption)
      · exact absurd rfl (by assumption)
      · exact q6 rfl
      · exact q7 rfl
      · exact q8 rfl
    rw [if_neg q7, if_neg q8, show f_m_in y 0 8 = some (b01 (hv 9 y)) from in_s (n := 8) (by decide), bd_s rfl, if_pos (b01_f hno)]
    exact ⟨_, _, _, z, rfl, rfl, SmQ.rf z⟩
  · rw [if_pos (b01_f hx), if_pos (b01_f hx)]
    exact ⟨_, _, _, z, rfl, rfl, SmQ.rf z⟩
end DD
