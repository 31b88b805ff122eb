/-! whether it is exact; the first that is wrong -/
def BK (bk : Ob) (z : NO) : Prop := bk 0 0 = nI (z 0 7) ∧ z 0 7 ≤ 20 ∧ ∀ i, i < z 0 7 → z 5 (3 * i) < 10 ∧ z 5 (3 * i + 1) < 8 ∧ z 5 (3 * i + 2) < 256 ∧ bk 1 i = nI (z 5 (3 * i)) ∧ bk 2 i = nI (z 5 (3 * i + 1) * 256 + z 5 (3 * i + 2))
theorem ix3 (i : Nat) : 3 * nI i = nI (3 * i) := by rw [show (3 : Int32) = nI 3 from rfl, pk_mul]
theorem ad2 (u : Nat) : nI u + 2 = nI (u + 2) := by rw [show (2 : Int32) = nI 2 from rfl, nI_add]
/-- exact -/
def EX (a : NO) : Prop := WL a ∧ (∀ p, p < a 0 1 → ¬ bad a p) ∧ ∀ p, p < a 0 1 → rbs a (a 0 1) p = (fS a 0 (-1)).1 p
section EXS
variable {a : NO} {st : Nat → Nat}
theorem ex_x (h : SW a st) (f kn jd : Ob) : ∃ kn' jd', f_x_isExact f (nO a) kn jd = some (b01 (EX a), kn', jd') := by
  unfold f_x_isExact
  have hP := h.bd.2.1
  by_cases hw : WL a
  · obtain ⟨kn', k1, k2⟩ := fk_y h hw f kn
    obtain ⟨r, jd', r1, r2, r3⟩ := f_refusedAt_s h jd
    refine ⟨kn', jd', ?_⟩
    rw [bd_s k1]
    try dsimp only
    rw [if_neg (by decide), bd_s r1]
    try dsimp only
    by_cases c : r = -1
    · rw [if_pos c]
      have hno := (r2.m1 (by omega)).mp c
      rcases lp_all (F := fun fu i => lp_x_isExact_26 kn' jd' (nO a) (k_x_isExact_26 kn' jd') fu i) (a 0 1) (fun p => rbs a (a 0 1) p = (fS a 0 (-1)).1 p) (some (0, kn', jd')) (some (1, kn', jd'))
        (by
          intro fu i hi
          have b1 := rbs_lt h.bd (a 0 1) i
          have b2 := fS_lt h 0 (-1) i
          try dsimp only
          rw [lp_x_isExact_26, if_neg (show ¬ nO a 0 1 ≤ nI i from nle hi (by omega)), gd_t (ck_nI (by omega) (by decide)), gd_t (ck_nI (by omega) (by decide)), cl (by omega), nI_1, r3 i hi, k2 i hi]
          simp only [nI_eq (show rbs a (a 0 1) i < 2 ^ 31 by omega) (show (fS a 0 (-1)).1 i < 2 ^ 31 by omega)]
          by_cases d : rbs a (a 0 1) i = (fS a 0 (-1)).1 i
          · exact Or.inl ⟨d, if_pos d⟩
          · exact Or.inr ⟨d, if_neg d⟩)
        (by
          intro fu
          try dsimp only
          rw [lp_x_isExact_26, if_pos (show nO a 0 1 ≤ nI (a 0 1) from nlr (by omega))]
          rfl) 10000 (by omega) with ⟨g1, g2⟩ | ⟨g1, g2⟩
      · rw [b01_t (c := EX a) ⟨hw, hno, g1⟩]; exact g2
      · rw [b01_f (c := EX a) (fun q => g1 q.2.2)]; exact g2
    · rw [if_neg c, b01_f (c := EX a) (fun q => c ((r2.m1 (by omega)).mpr q.2.1))]
  · refine ⟨kn, jd, ?_⟩
    rw [bd_s (fk_n h hw f kn)]
    try dsimp only
    rw [if_pos rfl, b01_f (c := EX a) (fun q => hw q.1)]
theorem ex_m {z : NO} (h : SW a (z 1)) (hr : RB z) : ∃ z', f_m_isExact (nO z) = some (b01 (EX a), nO z') ∧ SmQ z z' := by
  unfold f_m_isExact
  have hP := h.bd.2.1
  rw [bd_s (m_well h)]
  by_cases hw : WL a
  · rw [if_neg (by rw [b01_t hw]; decide)]
    obtain ⟨r, z1, r1, r2, r3, r4⟩ := m_refused_s h hr
    rw [bd_s r1]
    try dsimp only
    by_cases c : r = -1
    · rw [if_pos c]
      have hno := (r2.m1 (by omega)).mp c
      have e1 : z1 1 = z 1 := r3.1 1 (by decide) (by decide) (by decide) (by decide) (by decide)
      obtain ⟨z2, k1, k2, k3⟩ := works_c (z := z1) (a := a) (by rw [e1]; exact h) (jj := 6) (Or.inl rfl) (ch := 0) (by decide) (-1)
      have e2 : z2 1 = z 1 := (k2.1 1 (by decide) (by decide) (by decide)).trans e1
      have e8 : z2 8 = z1 8 := k2.1 8 (by decide) (by decide) (by decide)
      have hend := fS_end h hw (ch := 0) (by decide) (-1)
      rw [show f_m_works 6 (nO z1) 0 (-1) = some (sT (fS a 0 (-1)) (fT a 0 (-1)), nO z2) from k1, bd_s rfl]
      try dsimp only
      rw [if_neg (show ¬ (sT (fS a 0 (-1)) (fT a 0 (-1))) < 0 by rw [hend.1]; exact nI_pos (by omega))]
      refine ⟨z2, ?_, r3.tr (SmW.q (Or.inl rfl) k2)⟩
      obtain ⟨s, g1, g2⟩ := lp_inv (F := fun fu i (s : Int32) => lp_m_isExact_38 (nO z2) (k_m_isExact_38 (nO z2)) fu s i) (N := a 0 1) (inv := fun i s => s = b01 (∀ p, p < i → rbs a (a 0 1) p = (fS a 0 (-1)).1 p)) (ke := fun s => gd (bz s) (some (s, nO z2)))
        (by
          rintro fu i s hi rfl
          have b1 := rbs_lt h.bd (a 0 1) i
          have b2 := fS_lt h 0 (-1) i
          have q1 := k3 i (by omega)
          have q2 := r4.2 i hi
          rw [← e8] at q2
          try dsimp only
          refine ⟨_, rfl, ?_⟩
          rw [lp_m_isExact_38, c1, if_neg (show ¬ nO z2 1 1 ≤ nI i by rw [show nO z2 1 1 = nI (a 0 1) from congrArg nI (by rw [e2, h.e1])]; exact nle hi (by omega)), nI_1]
          by_cases d : ∀ p, p < i → rbs a (a 0 1) p = (fS a 0 (-1)).1 p
          · rw [if_neg (by rw [b01_t d]; decide), gd_t (ck_nI (by omega) (by decide)), gd_t (ck_nI (by omega) (by decide)), ix10, gd_t (ck_nI (by omega) (by decide)), gd_t (ck_nI (by omega) (by decide)), cl (by omega), cl (by omega)]
            show (if nI (z2 6 i) = nI (z2 8 i) then (if nI (z2 6 (10 + i)) = nI (z2 8 (10 + i)) then _ else _) else _) = _
            simp only [nI_eq (show z2 6 i < 2 ^ 31 by omega) (show z2 8 i < 2 ^ 31 by omega), nI_eq (show z2 6 (10 + i) < 2 ^ 31 by omega) (show z2 8 (10 + i) < 2 ^ 31 by omega)]
            by_cases e : rbs a (a 0 1) i = (fS a 0 (-1)).1 i
            · rw [if_pos (by omega), if_pos (by omega), b01_t (fun p hp => ?_)]
              by_cases ep : p = i
              · rw [ep]; exact e
              · exact d p (by omega)
            · rw [b01_f (c := ∀ p, p < i + 1 → rbs a (a 0 1) p = (fS a 0 (-1)).1 p) (fun q => e (q i (by omega)))]
              by_cases d1 : z2 6 i = z2 8 i
              · rw [if_pos d1, if_neg (by omega)]
              · rw [if_neg d1]
          · rw [if_pos (by rw [b01_f d]), b01_f (c := ∀ p, p < i + 1 → rbs a (a 0 1) p = (fS a 0 (-1)).1 p) (fun q => d (fun p hp => q p (by omega)))])
        (by
          rintro fu s -
          try dsimp only
          rw [lp_m_isExact_38, c1, if_pos (show nO z2 1 1 ≤ nI (a 0 1) by rw [show nO z2 1 1 = nI (a 0 1) from congrArg nI (by rw [e2, h.e1])]; exact nlr (by omega))]
          rfl) 10000 0 1 (by rw [b01_t (fun p hp => by omega)]) (by omega) (by omega)
      subst g1
      refine Eq.trans g2 ?_
      have hiff : (∀ p, p < a 0 1 → rbs a (a 0 1) p = (fS a 0 (-1)).1 p) ↔ EX a := ⟨fun q => ⟨hw, hno, q⟩, fun q => q.2.2⟩
      rw [gd_t b01_bz, b01_c hiff]
    · rw [if_neg c]
      exact ⟨z1, by rw [b01_f (c := EX a) (fun q => c ((r2.m1 (by omega)).mpr q.2.1))], r3⟩
  · rw [if_pos (by rw [b01_f hw])]
    exact ⟨z, by rw [b01_f (c := EX a) (fun q => hw q.1)], SmQ.rf z⟩
/-- the i-th entry is wrong -/
def wr (a : NO) (z : NO) (i : Nat) : Prop := ¬ WL a ∨ a 0 1 ≤ z 5 (3 * i) ∨ ¬ (fS a 0 (-1)).1 (z 5 (3 * i)) = z 5 (3 * i + 1) * 256 + z 5 (3 * i + 2)
theorem wr_x {z : NO} (h : SW a st) {bk : Ob} (hk : BK bk z) (f kn : Ob) : ∃ r kn', f_x_firstWrongEntry f (nO a) kn bk = some (r, kn') ∧ FX (z 0 7) (wr a z) r := by
  unfold f_x_firstWrongEntry
  obtain ⟨h1, h2, h3⟩ := hk
  have hP := h.bd.2.1
  rw [h1, show (0 : Int32) = nI 0 from rfl]
  simp only [nI_eq (show z 0 7 < 2 ^ 31 by omega) (show 0 < 2 ^ 31 by decide)]
  by_cases c0 : z 0 7 = 0
  · rw [if_pos c0]
    exact ⟨-1, kn, rfl, Or.inr ⟨fun i hi => by omega, rfl⟩⟩
  rw [if_neg c0]
  by_cases hw : WL a
  · obtain ⟨kn', k1, k2⟩ := fk_y h hw f kn
    rw [bd_s k1]
    try dsimp only
    rw [if_neg (by decide)]
    unfold f_firstUnlike
    rcases lp_fst (F := fun fu i => lp_firstUnlike_2 bk (kn' 1) (nO a 0 1) k_firstUnlike_2 fu i) (z 0 7) (wr a z) (fun j => some (nI j)) (some (-1))
      (by
        intro fu i hi
        obtain ⟨b0, b1, b2, b3, b4⟩ := h3 i hi
        have b5 := fS_lt h 0 (-1) (z 5 (3 * i))
        try dsimp only
        rw [lp_firstUnlike_2, h1, if_neg (nle hi (by omega)), gd_t (ck_nI (by omega) (by decide)), cl (by omega), nI_1, b3, b4, show nO a 0 1 = nI (a 0 1) from rfl]
        simp only [nI_leI (show a 0 1 < 2 ^ 31 by omega) (show z 5 (3 * i) < 2 ^ 31 by omega)]
        by_cases c : a 0 1 ≤ z 5 (3 * i)
        · exact Or.inr ⟨Or.inr (Or.inl c), if_pos c⟩
        · rw [if_neg c, gd_t (ck_nI (by omega) (by decide)), gd_t (ck_nI (by omega) (by decide)), gd_t (ck_nI (by omega) (by decide)), cl (by omega), k2 _ (by omega)]
          simp only [nI_eq (show (fS a 0 (-1)).1 (z 5 (3 * i)) < 2 ^ 31 by omega) (show z 5 (3 * i + 1) * 256 + z 5 (3 * i + 2) < 2 ^ 31 by omega)]
          by_cases d : (fS a 0 (-1)).1 (z 5 (3 * i)) = z 5 (3 * i + 1) * 256 + z 5 (3 * i + 2)
          · exact Or.inl ⟨fun q => by
              rcases q with q | q | q
              · exact q hw
              · exact c q
              · exact q d, if_pos d⟩
          · exact Or.inr ⟨Or.inr (Or.inr d), if_neg d⟩)
      (by
        intro fu
        try dsimp only
        rw [lp_firstUnlike_2, h1, if_pos (nlr (by omega))]
        rfl) 10000 (by omega) with ⟨j, g1, g2, g3, g4⟩ | ⟨g1, g2⟩
    · exact ⟨nI j, kn', by rw [show lp_firstUnlike_2 bk (kn' 1) (nO a 0 1) k_firstUnlike_2 10000 0 = some (nI j) from g4, bd_s rfl], Or.inl ⟨j, g1, g2, g3, rfl⟩⟩
    · exact ⟨-1, kn', by rw [show lp_firstUnlike_2 bk (kn' 1) (nO a 0 1) k_firstUnlike_2 10000 0 = some (-1) from g2, bd_s rfl], Or.inr ⟨g1, rfl⟩⟩
  · rw [bd_s (fk_n h hw f kn)]
    try dsimp only
    exact ⟨nI 0, kn, if_pos rfl, Or.inl ⟨0, by omega, Or.inl hw, fun i hi => by omega, rfl⟩⟩
theorem wr_m {z : NO} (h : SW a (z 1)) {bk : Ob} (hk : BK bk z) : ∃ r z', f_m_wrong (nO z) = some (r, nO z') ∧ FX (z 0 7) (wr a z) r ∧ SmQ z z' := by
  unfold f_m_wrong
  obtain ⟨h1, h2, h3⟩ := hk
  have hP := h.bd.2.1
  rw [bd_s (m_well h)]
  by_cases hw : WL a
  · obtain ⟨z2, k1, k2, k3⟩ := works_c h (jj := 6) (Or.inl rfl) (ch := 0) (by decide) (-1)
    have e2 : z2 1 = z 1 := k2.1 1 (by decide) (by decide) (by decide)
    have e5 : z2 5 = z 5 := k2.1 5 (by decide) (by decide) (by decide)
    have e7 : z2 0 7 = z 0 7 := k2.2 7 (by decide) (by decide) (by decide) (by decide) (by decide)
    have hend := fS_end h hw (ch := 0) (by decide) (-1)
    rw [if_neg (by rw [b01_t hw]; decide), show f_m_works 6 (nO z) 0 (-1) = some (sT (fS a 0 (-1)) (fT a 0 (-1)), nO z2) from k1, bd_s rfl]
    try dsimp only
    rw [if_neg (show ¬ (sT (fS a 0 (-1)) (fT a 0 (-1))) < 0 by rw [hend.1]; exact nI_pos (by omega))]
    rcases lp_fst (F := fun fu i => lp_m_wrong_28_v1 (nO z2) (k_m_wrong_28 (nO z2)) fu i) (z 0 7) (wr a z) (fun j => some (nI j, nO z2)) (some (-1, nO z2))
      (by
        intro fu i hi
        obtain ⟨b0, b1, b2, b3, b4⟩ := h3 i hi
        have b5 := fS_lt h 0 (-1) (z 5 (3 * i))
        have q := k3 (z 5 (3 * i)) b0
        have hp : f_m_isPlace (nO z2) (nI (z 5 (3 * i))) = some (b01 (z 5 (3 * i) < a 0 1)) := by
          rw [m_isPlace_s (by rw [e2]; exact h.bs), e2, show wb (z 1) 0 1 = a 0 1 from h.e1, b01_c (hv_nI (by omega) (by omega))]
        try dsimp only
        rw [lp_m_wrong_28_v1, show nO z2 0 7 = nI (z 0 7) from congrArg nI e7, if_neg (nle hi (by omega)), ix3, nI_1, ad2, gd_t (ck_nI (by omega) (by decide)), cl (by omega), cl (by omega), cl (by omega), nI_1, show nO z2 5 (3 * i) = nI (z 5 (3 * i)) from congrArg nI (by rw [e5]), show nO z2 5 (3 * i + 1) = nI (z 5 (3 * i + 1)) from congrArg nI (by rw [e5]), show nO z2 5 (3 * i + 2) = nI (z 5 (3 * i + 2)) from congrArg nI (by rw [e5]), bd_s hp]
        by_cases c : a 0 1 ≤ z 5 (3 * i)
        · rw [if_pos (by rw [b01_f (by omega)])]
          exact Or.inr ⟨Or.inr (Or.inl c), rfl⟩
        · rw [if_neg (by rw [b01_t (by omega)]; decide), ix10, gd_t (ck_nI (by omega) (by decide)), gd_t (ck_nI (by omega) (by decide)), gd_t (ck_nI (by omega) (by decide)), gd_t (ck_nI (by omega) (by decide)), cl (by omega), cl (by omega)]
          show (_ ∧ (if nI (z2 6 (z 5 (3 * i))) = nI (z 5 (3 * i + 1)) then (if nI (z2 6 (10 + z 5 (3 * i))) = nI (z 5 (3 * i + 2)) then _ else _) else _) = _) ∨ (_ ∧ (if nI (z2 6 (z 5 (3 * i))) = nI (z 5 (3 * i + 1)) then (if nI (z2 6 (10 + z 5 (3 * i))) = nI (z 5 (3 * i + 2)) then _ else _) else _) = _)
          simp only [nI_eq (show z2 6 (z 5 (3 * i)) < 2 ^ 31 by omega) (show z 5 (3 * i + 1) < 2 ^ 31 by omega), nI_eq (show z2 6 (10 + z 5 (3 * i)) < 2 ^ 31 by omega) (show z 5 (3 * i + 2) < 2 ^ 31 by omega)]
          by_cases d : (fS a 0 (-1)).1 (z 5 (3 * i)) = z 5 (3 * i + 1) * 256 + z 5 (3 * i + 2)
          · refine Or.inl ⟨fun q => ?_, ?_⟩
            · rcases q with q | q | q
              · exact q hw
              · exact c q
              · exact q d
            · rw [if_pos (by omega), if_pos (by omega)]
          · refine Or.inr ⟨Or.inr (Or.inr d), ?_⟩
            by_cases d1 : z2 6 (z 5 (3 * i)) = z 5 (3 * i + 1)
            · rw [if_pos d1, if_neg (by omega)]
            · rw [if_neg d1])
      (by
        intro fu
        try dsimp only
        rw [lp_m_wrong_28_v1, show nO z2 0 7 = nI (z 0 7) from congrArg nI e7, if_pos (nlr (by omega))]
        rfl) 10000 (by omega) with ⟨j, g1, g2, g3, g4⟩ | ⟨g1, g2⟩
    · exact ⟨nI j, z2, g4, Or.inl ⟨j, g1, g2, g3, rfl⟩, SmW.q (Or.inl rfl) k2⟩
    · exact ⟨-1, z2, g2, Or.inr ⟨g1, rfl⟩, SmW.q (Or.inl rfl) k2⟩
  · rw [if_pos (by rw [b01_f hw]), show (10000 : Nat) = 9999 + 1 from rfl, lp_m_wrong_28, show nO z 0 7 = nI (z 0 7) from rfl, show (0 : Int32) = nI 0 from rfl]
    simp only [nI_leI (show z 0 7 < 2 ^ 31 by omega) (show 0 < 2 ^ 31 by decide)]
    by_cases c : z 0 7 ≤ 0
    · rw [if_pos c]
      exact ⟨-1, z, rfl, Or.inr ⟨fun i hi => by omega, rfl⟩, SmQ.rf z⟩
    · rw [if_neg c, ix3, gd_t (ck_nI (by decide) (by decide))]
      exact ⟨nI 0, z, rfl, Or.inl ⟨0, by omega, Or.inl hw, fun i hi => by omega, rfl⟩, SmQ.rf z⟩
end EXS
