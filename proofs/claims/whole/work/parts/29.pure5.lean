theorem m_broken_9 {z : NO} (hb : BdS (z 1)) {n : Nat} (hn : n < 5) (fu : Nat) : lp_m_broken_9 (nO z) k_m_broken_9 (fu + 1) (nI n) = @ite _ (∀ x, x < z 1 0 → ∀ y, y < z 1 0 → ∀ u, u < z 1 0 → hl (wb (z 1)) n x y u) (Classical.propDecidable _) (lp_m_broken_9 (nO z) k_m_broken_9 fu (nI (n + 1))) (some (nI n)) := by
  rw [lp_m_broken_9, show (5 : Int32) = nI 5 from rfl, if_neg (nle hn (by decide))]
  rcases m_broken_16 hb hn (k_m_broken_16 (nI n) (lp_m_broken_9 (nO z) k_m_broken_9 fu)) with ⟨h1, h2⟩ | ⟨h1, h2⟩
  · rw [h2, if_pos h1, k_m_broken_16, nI_1]
  · rw [h2, if_neg h1]
theorem m_broken_s {z : NO} (hb : BdS (z 1)) (hM : 0 < z 1 0) : f_m_broken (nO z) = some (bl (wb (z 1))) := by
  unfold f_m_broken
  have e1 : (∀ x, x < z 1 0 → ∀ y, y < z 1 0 → ∀ u, u < z 1 0 → hl (wb (z 1)) 1 x y u) ↔ L1 (wb (z 1)) := ⟨fun h x hx => h x hx 0 hM 0 hM, fun h x hx y hy u hu => h x hx⟩
  have e2 : (∀ x, x < z 1 0 → ∀ y, y < z 1 0 → ∀ u, u < z 1 0 → hl (wb (z 1)) 2 x y u) ↔ L2 (wb (z 1)) := ⟨fun h x hx y hy => h x hx y hy 0 hM, fun h x hx y hy u hu => h x hx y hy⟩
  have e3 : (∀ x, x < z 1 0 → ∀ y, y < z 1 0 → ∀ u, u < z 1 0 → hl (wb (z 1)) 3 x y u) ↔ L3 (wb (z 1)) := ⟨fun h x hx y hy u hu => h x hx y hy u hu, fun h x hx y hy u hu => h x hx y hy u hu⟩
  have e4 : (∀ x, x < z 1 0 → ∀ y, y < z 1 0 → ∀ u, u < z 1 0 → hl (wb (z 1)) 4 x y u) ↔ L4 (wb (z 1)) := ⟨fun h x hx => h x hx 0 hM 0 hM, fun h x hx y hy u hu => h x hx⟩
  have r1 := m_broken_9 hb (n := 1) (by decide) 9999
  have r2 := m_broken_9 hb (n := 2) (by decide) 9998
  have r3 := m_broken_9 hb (n := 3) (by decide) 9997
  have r4 := m_broken_9 hb (n := 4) (by decide) 9996
  have r5 : lp_m_broken_9 (nO z) k_m_broken_9 9996 (nI 5) = some 0 := by
    rw [show 9996 = 9995 + 1 from rfl, lp_m_broken_9, show (5 : Int32) = nI 5 from rfl, if_pos (nlr (by decide))]
    rfl
  unfold bl
  refine Eq.trans r1 ?_
  by_cases h1 : L1 (wb (z 1))
  · rw [if_pos (e1.mpr h1), if_pos h1]
    refine Eq.trans r2 ?_
    by_cases h2 : L2 (wb (z 1))
    · rw [if_pos (e2.mpr h2), if_pos h2]
      refine Eq.trans r3 ?_
      by_cases h3 : L3 (wb (z 1))
      · rw [if_pos (e3.mpr h3), if_pos h3]
        refine Eq.trans r4 ?_
        by_cases h4 : L4 (wb (z 1))
        · rw [if_pos (e4.mpr h4), if_pos h4]
          exact r5
        · rw [if_neg (fun q => h4 (e4.mp q)), if_neg h4]
          rfl
      · rw [if_neg (fun q => h3 (e3.mp q)), if_neg h3]
        rfl
    · rw [if_neg (fun q => h2 (e2.mp q)), if_neg h2]
      rfl
  · rw [if_neg (fun q => h1 (e1.mp q)), if_neg h1]
    rfl
theorem m_keepsOrder_s {z : NO} (hb : BdS (z 1)) {w : Nat} (hw : w < 20) : f_m_keepsOrder (nO z) (nI w) = some (b01 (ko (wb (z 1)) w)) := by
  unfold f_m_keepsOrder
  have hM := hb.1
  have hB := Bd_wb hb
  have hin : ∀ (x : Nat) (kk : Int32 → Option Int32), x < z 1 0 → ((∀ y, y < z 1 0 → jn (wb (z 1)) x y = y → jn (wb (z 1)) (wb (z 1) 6 (w * 8 + x)) (wb (z 1) 6 (w * 8 + y)) = wb (z 1) 6 (w * 8 + y)) ∧ lp_m_keepsOrder_14 (nO z) (nI w) (nI x) kk 10000 0 = kk (nI (z 1 0))) ∨ ((¬ ∀ y, y < z 1 0 → jn (wb (z 1)) x y = y → jn (wb (z 1)) (wb (z 1) 6 (w * 8 + x)) (wb (z 1) 6 (w * 8 + y)) = wb (z 1) 6 (w * 8 + y)) ∧ lp_m_keepsOrder_14 (nO z) (nI w) (nI x) kk 10000 0 = some 0) := by
    intro x kk hx
    exact lp_all (F := fun fu i => lp_m_keepsOrder_14 (nO z) (nI w) (nI x) kk fu i) (z 1 0) (fun y => jn (wb (z 1)) x y = y → jn (wb (z 1)) (wb (z 1) 6 (w * 8 + x)) (wb (z 1) 6 (w * 8 + y)) = wb (z 1) 6 (w * 8 + y)) (some 0) (kk (nI (z 1 0)))
      (by
        intro fu i hi
        have g1 := hB.mp (w * 8 + x)
        have g2 := hB.mp (w * 8 + i)
        try dsimp only
        rw [lp_m_keepsOrder_14, c0, if_neg (show ¬ nO z 1 0 ≤ nI i from nle hi (by omega)), bd_s (m_isBelow_s hb (by omega) (by omega)), nI_1]
        by_cases q1 : jn (wb (z 1)) x i = i
        · rw [if_neg (by rw [b01_t q1]; decide), bd_s (m_of_mp hw (by omega)), bd_s (m_of_mp hw (by omega)), bd_s (m_isBelow_s hb g1 g2)]
          by_cases q2 : jn (wb (z 1)) (wb (z 1) 6 (w * 8 + x)) (wb (z 1) 6 (w * 8 + i)) = wb (z 1) 6 (w * 8 + i)
          · exact Or.inl ⟨fun _ => q2, if_neg (by rw [b01_t q2]; decide)⟩
          · exact Or.inr ⟨fun q => q2 (q q1), if_pos (by rw [b01_f q2])⟩
        · exact Or.inl ⟨fun q => absurd q q1, if_pos (by rw [b01_f q1])⟩)
      (by
        intro fu
        try dsimp only
        rw [lp_m_keepsOrder_14, c0, if_pos (show nO z 1 0 ≤ nI (z 1 0) from nlr (by omega))]) 10000 (by omega)
  rcases lp_all (F := fun fu i => lp_m_keepsOrder_2 (nO z) (nI w) k_m_keepsOrder_2 fu i) (z 1 0) (fun x => ∀ y, y < z 1 0 → jn (wb (z 1)) x y = y → jn (wb (z 1)) (wb (z 1) 6 (w * 8 + x)) (wb (z 1) 6 (w * 8 + y)) = wb (z 1) 6 (w * 8 + y)) (some 0) (some 1)
    (by
      intro fu i hi
      try dsimp only
      rw [lp_m_keepsOrder_2, c0, if_neg (show ¬ nO z 1 0 ≤ nI i from nle hi (by omega))]
      rcases hin i (k_m_keepsOrder_14 (nI i) (lp_m_keepsOrder_2 (nO z) (nI w) k_m_keepsOrder_2 fu)) hi with ⟨c, e⟩ | ⟨c, e⟩
      · refine Or.inl ⟨c, e.trans ?_⟩
        rw [k_m_keepsOrder_14, nI_1]
      · exact Or.inr ⟨c, e⟩)
    (by
      intro fu
      try dsimp only
      rw [lp_m_keepsOrder_2, c0, if_pos (show nO z 1 0 ≤ nI (z 1 0) from nlr (by omega))]
      rfl) 10000 (by omega) with ⟨h1, h2⟩ | ⟨h1, h2⟩
  · rw [b01_t (c := ko (wb (z 1)) w) h1]; exact h2
  · rw [b01_f (c := ko (wb (z 1)) w) h1]; exact h2
theorem m_first_s {z : NO} (hb : BdS (z 1)) : ∃ r, f_m_firstUnordered (nO z) = some r ∧ FX (wb (z 1) 0 2) (fun w => ¬ ko (wb (z 1)) w) r := by
  unfold f_m_firstUnordered
  have hN := hb.2.2.1
  rcases lp_fst (F := fun fu i => lp_m_firstUnordered_2 (nO z) k_m_firstUnordered_2 fu i) (z 1 2) (fun w => ¬ ko (wb (z 1)) w) (fun j => some (nI j)) (some (-1))
    (by
      intro fu i hi
      try dsimp only
      rw [lp_m_firstUnordered_2, c2, if_neg (show ¬ nO z 1 2 ≤ nI i from nle hi (by omega)), bd_s (m_keepsOrder_s hb (by omega)), nI_1]
      by_cases c : ko (wb (z 1)) i
      · exact Or.inl ⟨fun q => q c, if_neg (by rw [b01_t c]; decide)⟩
      · exact Or.inr ⟨c, if_pos (by rw [b01_f c])⟩)
    (by
      intro fu
      try dsimp only
      rw [lp_m_firstUnordered_2, c2, if_pos (show nO z 1 2 ≤ nI (z 1 2) from nlr (by omega))]
      rfl) 10000 (by omega) with ⟨j, h1, h2, h3, h4⟩ | ⟨h1, h2⟩
  · exact ⟨_, h4, Or.inl ⟨j, h1, h2, h3, rfl⟩⟩
  · exact ⟨_, h2, Or.inr ⟨h1, rfl⟩⟩
theorem m_isWell_s {z : NO} (hb : BdS (z 1)) (hM : 0 < z 1 0) : f_m_isWell (nO z) = some (b01 (WL (wb (z 1)))) := by
  unfold f_m_isWell
  rw [bd_s (m_broken_s hb hM)]
  by_cases h : bl (wb (z 1)) = 0
  · rw [if_pos h]
    obtain ⟨r, h1, h2⟩ := m_first_s hb
    rw [bd_s h1]
    by_cases c : r = -1
    · rw [if_pos c, b01_t ⟨h, fun w hw => Classical.byContradiction ((h2.m1 hb.2.2.1).mp c w hw)⟩]
    · rw [if_neg c, b01_f (fun q => c ((h2.m1 hb.2.2.1).mpr (fun i hi g => g (q.2 i hi))))]
  · rw [if_neg h, b01_f (fun q => h q.1)]
/-- the set of kept places when p places have been gone through -/
noncomputable def kr (b : NO) : Nat → Nat
  | 0 => 0
  | p + 1 => @ite _ (kp b p) (Classical.propDecidable _) (kr b p ||| 2 ^ p) (kr b p)
theorem kr_bit (b : NO) (i : Nat) : ∀ n, (kr b n).testBit i = true ↔ i < n ∧ kp b i
  | 0 => by
    constructor
    · intro h
      simp [kr] at h
    · intro h
      omega
  | n + 1 => by
    have ih := kr_bit b i n
    unfold kr
    by_cases c : kp b n
    · rw [if_pos c, Nat.testBit_or, Bool.or_eq_true, ih, Nat.testBit_two_pow, decide_eq_true_eq]
      constructor
      · rintro (h | h)
        · exact ⟨by omega, h.2⟩
        · exact ⟨by omega, by rw [← h]; exact c⟩
      · intro h
        rcases Nat.lt_or_ge i n with g | g
        · exact Or.inl ⟨g, h.2⟩
        · exact Or.inr (by omega)
    · rw [if_neg c, ih]
      constructor
      · intro h
        exact ⟨by omega, h.2⟩
      · intro h
        refine ⟨?_, h.2⟩
        rcases Nat.lt_or_ge i n with g | g
        · exact g
        · have : i = n := by omega
          subst this
          exact absurd h.2 c
theorem m_kept_s {z : NO} (hb : BdS (z 1)) : f_m_kept (nO z) = some (nI (kr (wb (z 1)) (z 1 1))) := by
  unfold f_m_kept
  have hP := hb.2.1
  obtain ⟨s, h1, h2⟩ := lp_inv (F := fun fu i (s : Int32) => lp_m_kept_4 (nO z) k_m_kept_4 fu s i) (N := z 1 1) (inv := fun i s => s = nI (kr (wb (z 1)) i)) (ke := fun s => some s)
    (by
      intro fu i s hi hs
      subst hs
      try dsimp only
      refine ⟨_, rfl, ?_⟩
      rw [lp_m_kept_4, c1, if_neg (show ¬ nO z 1 1 ≤ nI i from nle hi (by omega)), bd_s (m_isKept_s hb (by omega)), nI_1, pw_nI i (by omega), show (0 : Int32) = nI 0 from rfl, nx_or, nx_or]
      by_cases c : kp (wb (z 1)) i
      · rw [if_neg (by rw [b01_t c]; decide), show kr (wb (z 1)) (i + 1) = kr (wb (z 1)) i ||| 2 ^ i from if_pos c]
      · rw [if_pos (by rw [b01_f c]; rfl), show kr (wb (z 1)) (i + 1) = kr (wb (z 1)) i from if_neg c, Nat.or_zero])
    (by
      intro fu s hs
      try dsimp only
      rw [lp_m_kept_4, c1, if_pos (show nO z 1 1 ≤ nI (z 1 1) from nlr (by omega))]
      rfl) 10000 0 0 rfl (by omega) (by omega)
  subst h1
  exact h2
