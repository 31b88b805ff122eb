/-! the reference: those that wait; one is taken -/
def Qm (z : NO) (l : List Nat) : Prop := z 0 16 = l.length ∧ l.length ≤ 10 ∧ ∀ i, i < l.length → z 9 i = l.getD i 0
theorem m_waits_s {z : NO} {l : List Nat} {p : Nat} (h : Qm z l) (hl : ∀ x ∈ l, x < 10) (hp : p < 10) : f_m_waits (nO z) (nI p) = some (b01 (p ∈ l)) := by
  unfold f_m_waits
  obtain ⟨h1, h2, h3⟩ := h
  rcases lp_fst (F := fun fu i => lp_m_waits_2 (nO z) (nI p) k_m_waits_2 fu i) l.length (fun i => l.getD i 0 = p) (fun _ => some 1) (some 0)
    (by
      intro fu i hi
      have hx := hl _ (gD hi)
      try dsimp only
      rw [lp_m_waits_2, show nO z 0 16 = nI l.length from congrArg nI h1, if_neg (nle hi (by omega)), gd_t (ck_nI (by omega) (by decide)), cl (by omega), show nO z 9 i = nI (l.getD i 0) from congrArg nI (h3 i hi), nI_1]
      simp only [nI_eq (show l.getD i 0 < 2 ^ 31 by omega) (show p < 2 ^ 31 by omega)]
      by_cases c : l.getD i 0 = p
      · exact Or.inr ⟨c, if_pos c⟩
      · exact Or.inl ⟨c, if_neg c⟩)
    (by
      intro fu
      try dsimp only
      rw [lp_m_waits_2, show nO z 0 16 = nI l.length from congrArg nI h1, if_pos (nlr (by omega))]
      rfl) 10000 (by omega) with ⟨j, g1, g2, g3, g4⟩ | ⟨g1, g2⟩
  · rw [b01_t (c := p ∈ l) (gD_mem.mpr ⟨j, g1, g2⟩)]; exact g4
  · rw [b01_f (c := p ∈ l) (fun q => by obtain ⟨i, q1, q2⟩ := gD_mem.mp q; exact g1 i q1 q2)]; exact g2
/-- the object stands but for the row r and the number n0 -/
theorem nO_of {wk : Ob} {z : NO} {r n0 v : Nat} {g : Nat → Int32} (hr : r ≠ 0) (h1 : ∀ i, i ≠ r → wk i = sI (nO z) n0 (nI v) i) (h2 : ∃ g' : Nat → Nat, ∀ i, wk r i = nI (g' i)) : ∃ z', wk = nO z' ∧ (∀ i, i ≠ 0 → i ≠ r → z' i = z i) ∧ z' 0 = nU (z 0) n0 v := by
  obtain ⟨g', hg⟩ := h2
  refine ⟨rN (rN z 0 (nU (z 0) n0 v)) r g', ?_, fun i a b => by rw [rN_n b, rN_n a], by rw [rN_n (Ne.symm hr), rN_s]⟩
  funext i k
  by_cases c : i = r
  · subst c
    rw [hg]
    show _ = nI (rN _ i g' i k)
    rw [rN_s]
  · rw [h1 i c, sIu]
    show nI (rN z 0 _ i k) = nI (rN (rN z 0 _) r g' i k)
    rw [rN_n c]
theorem m_shift_s {z : NO} {l : List Nat} {at0 : Nat} (kk : Int32 → Ob → Option (Int32 × Ob)) (h : Qm z l) (ha : at0 < l.length) :
    ∃ z', lp_m_taken_77 kk 10000 (nI at0) (sI (nO z) 16 (nI (l.length - 1))) = kk (nI (l.length - 1)) (nO z') ∧ Qm z' (l.eraseIdx at0) ∧ (∀ i, i ≠ 0 → i ≠ 9 → z' i = z i) ∧ z' 0 = nU (z 0) 16 (l.length - 1) := by
  obtain ⟨h1, h2, h3⟩ := h
  have hz : ∀ (fu : Nat) (x : Nat) (w : NO), w 0 16 = l.length - 1 → x < l.length - 1 → lp_m_taken_77 kk (fu + 1) (nI x) (nO w) = lp_m_taken_77 kk fu (nI (x + 1)) (nO (rN w 9 (nU (w 9) x (w 9 (x + 1))))) := by
    intro fu x w hw hx
    rw [lp_m_taken_77, show nO w 0 16 = nI (l.length - 1) from congrArg nI hw, if_neg (nle hx (by omega)), nI_1, gd_t (ck_nI (by omega) (by decide)), gd_t (ck_nI (by omega) (by decide)), cl (by omega), cl (by omega), show nO w 9 (x + 1) = nI (w 9 (x + 1)) from rfl, sAu]
  obtain ⟨s, ⟨g0, z', rfl, g1, g2, g3⟩, g4⟩ := lp_inv (F := fun fu i (s : Ob) => lp_m_taken_77 kk fu i s) (N := l.length - 1) (inv := fun i s => at0 ≤ i ∧ ∃ z', s = nO z' ∧ (∀ j, j ≠ 0 → j ≠ 9 → z' j = z j) ∧ z' 0 = nU (z 0) 16 (l.length - 1) ∧ ∀ j, j < l.length → z' 9 j = if at0 ≤ j ∧ j < i then l.getD (j + 1) 0 else l.getD j 0) (ke := fun s => kk (nI (l.length - 1)) s)
    (by
      rintro fu i s hi ⟨e0, z', rfl, e1, e2, e3⟩
      refine ⟨_, ⟨by omega, _, rfl, fun j a b => ?_, ?_, fun j hj => ?_⟩, hz fu i z' (by rw [e2, nU_s]) hi⟩
      · rw [rN_n b]; exact e1 j a b
      · rw [rN_n (by decide)]; exact e2
      · rw [rN_s]
        by_cases c : j = i
        · subst c
          rw [nU_s, e3 (j + 1) (by omega), if_neg (by omega), if_pos ⟨e0, by omega⟩]
        · rw [nU_n c, e3 j hj]
          by_cases c3 : at0 ≤ j ∧ j < i
          · rw [if_pos c3, if_pos ⟨c3.1, by omega⟩]
          · rw [if_neg c3, if_neg (by omega)])
    (by
      rintro fu s ⟨e0, z', rfl, e1, e2, e3⟩
      try dsimp only
      rw [lp_m_taken_77, show nO z' 0 16 = nI (l.length - 1) from congrArg nI (by rw [e2, nU_s]), if_pos (nlr (by omega))]) 10000 at0 (sI (nO z) 16 (nI (l.length - 1)))
    ⟨Nat.le_refl _, _, sIu z 16 (l.length - 1), fun j a b => rN_n a, rN_s, fun j hj => by rw [rN_n (by decide), if_neg (by omega)]; exact h3 j hj⟩ (by omega) (by omega)
  refine ⟨z', g4, ⟨?_, ?_, fun i hi => ?_⟩, g1, g2⟩
  · rw [g2, nU_s, List.length_eraseIdx_of_lt ha]
  · rw [List.length_eraseIdx_of_lt ha]; omega
  · rw [List.length_eraseIdx_of_lt ha] at hi
    rw [g3 i (by omega), gD_er]
    by_cases c : i < at0
    · rw [if_pos c, if_neg (by omega)]
    · rw [if_neg c, if_pos ⟨by omega, hi⟩]
theorem m_taken_s {z : NO} {l : List Nat} {ch : Nat} (h : Qm z l) (hl : ∀ x ∈ l, x < 10) (h0 : 0 < l.length) (hc : ch < 3) :
    ∃ z', f_m_taken (nO z) (nI ch) = some (nI (l.getD (atS ch l) 0), nO z') ∧ Qm z' (l.eraseIdx (atS ch l)) ∧ (∀ i, i ≠ 0 → i ≠ 9 → z' i = z i) ∧ (∀ k, k ≠ 16 → z' 0 k = z 0 k) := by
  have h' := h
  obtain ⟨h1, h2, h3⟩ := h
  have ha := atS_lt (ch := ch) h0
  have e1 : nO z 0 16 - 1 = nI (l.length - 1) := by
    rw [show nO z 0 16 = nI l.length from congrArg nI h1, show l.length = l.length - 1 + 1 by omega, nI_pred]
    simp
  have hk : ∀ (at0 : Nat) (x : Int32), at0 < l.length → ∃ z', k_m_taken_18 (nO z) (nI at0) x = some (nI (l.getD at0 0), nO z') ∧ Qm z' (l.eraseIdx at0) ∧ (∀ i, i ≠ 0 → i ≠ 9 → z' i = z i) ∧ (∀ k, k ≠ 16 → z' 0 k = z 0 k) := by
    intro at0 x hat
    obtain ⟨z', g1, g2, g3, g4⟩ := m_shift_s (k_m_taken_77 (nO z) (nI at0)) h' hat
    refine ⟨z', ?_, g2, g3, fun k hk => by rw [g4, nU_n hk]⟩
    rw [k_m_taken_18, gd_t (ck_nI (by omega) (by decide)), e1, g1, k_m_taken_77, cl (by omega), show nO z 9 at0 = nI (l.getD at0 0) from congrArg nI (h3 at0 hat)]
  unfold f_m_taken
  rw [show (2 : Int32) = nI 2 from rfl]
  simp only [nI_eq (show ch < 2 ^ 31 by omega) (show 2 < 2 ^ 31 by decide)]
  have one : ∀ (at0 : Nat), ¬ ch = 0 → lp_m_taken_18 (nO z) (nI ch) (k_m_taken_18 (nO z)) 10000 (nI at0) 0 = k_m_taken_18 (nO z) (nI at0) 0 := by
    intro at0 q
    rw [show (10000 : Nat) = 9999 + 1 from rfl, lp_m_taken_18, show nO z 0 16 = nI l.length from congrArg nI h1, if_neg (fun r => nI_nle h0 (by omega) r), show (0 : Int32) = nI 0 from rfl]
    simp only [nI_eq (show ch < 2 ^ 31 by omega) (show 0 < 2 ^ 31 by decide), if_neg q]
  by_cases q2 : ch = 2
  · have ea : atS ch l = l.length - 1 := by unfold atS; rw [if_neg (by omega), if_neg (by omega)]
    rw [if_pos q2, e1, one _ (by omega), ea]
    exact hk _ _ (by omega)
  · rw [if_neg q2]
    by_cases q1 : ch = 1
    · have ea : atS ch l = 0 := by unfold atS; rw [if_neg (by omega), if_pos q1]
      rw [ea]
      have := one 0 (by omega)
      refine Exists.elim (hk 0 0 h0) (fun z' g => ⟨z', Eq.trans this g.1, g.2⟩)
    · have q0 : ch = 0 := by omega
      have ea : atS ch l = lwi l l.length := if_pos q0
      obtain ⟨s, r1, r2⟩ := lp_inv (F := fun fu i (s : Int32) => lp_m_taken_18 (nO z) (nI ch) (k_m_taken_18 (nO z)) fu s i) (N := l.length) (inv := fun i s => s = nI (lwi l i)) (ke := fun s => k_m_taken_18 (nO z) s (nI l.length))
        (by
          rintro fu i s hi rfl
          have hai : lwi l i < l.length := by
            rcases Nat.eq_zero_or_pos i with g | g
            · subst g; exact h0
            · have := lwi_lt l i g; omega
          have hx := hl _ (gD hi)
          have hy := hl _ (gD hai)
          try dsimp only
          refine ⟨_, rfl, ?_⟩
          rw [lp_m_taken_18, show nO z 0 16 = nI l.length from congrArg nI h1, if_neg (nle hi (by omega)), if_pos (show nI ch = 0 by rw [q0]; rfl), gd_t (ck_nI (by omega) (by decide)), gd_t (ck_nI (by omega) (by decide)), cl (by omega), cl (by omega), show nO z 9 i = nI (l.getD i 0) from congrArg nI (h3 i hi), show nO z 9 (lwi l i) = nI (l.getD (lwi l i) 0) from congrArg nI (h3 _ hai), nI_1]
          simp only [nI_leI (show l.getD (lwi l i) 0 < 2 ^ 31 by omega) (show l.getD i 0 < 2 ^ 31 by omega)]
          by_cases c : l.getD (lwi l i) 0 ≤ l.getD i 0
          · rw [if_pos c, show lwi l (i + 1) = lwi l i from if_pos c]
          · rw [if_neg c, show lwi l (i + 1) = i from if_neg c])
        (by
          rintro fu s rfl
          try dsimp only
          rw [lp_m_taken_18, show nO z 0 16 = nI l.length from congrArg nI h1, if_pos (nlr (by omega))]) 10000 0 0 rfl (by omega) (by omega)
      subst r1
      rw [ea]
      refine Exists.elim (hk (lwi l l.length) (nI l.length) (by rw [← ea]; exact ha)) (fun z' g => ⟨z', Eq.trans r2 g.1, g.2⟩)
