/-! laws of a table, ways that keep the order -/
theorem lp_fst {R : Type} (F : Nat → Int32 → Option R) (N : Nat) (bad : Nat → Prop) (res : Nat → Option R) (ke : Option R)
    (hstep : ∀ fu i, i < N → (¬ bad i ∧ F (fu + 1) (nI i) = F fu (nI (i + 1))) ∨ (bad i ∧ F (fu + 1) (nI i) = res i))
    (hend : ∀ fu, F (fu + 1) (nI N) = ke) (fu : Nat) (hf : N < fu) :
    (∃ j, j < N ∧ bad j ∧ (∀ i, i < j → ¬ bad i) ∧ F fu (nI 0) = res j) ∨ ((∀ i, i < N → ¬ bad i) ∧ F fu (nI 0) = ke) := by
  have key := lp_ex (F := fun fu i (_ : Unit) => F fu i) (N := N) (inv := fun i _ => ∀ j, j < i → ¬ bad j) (Ex := fun r => ∃ j, j < N ∧ bad j ∧ (∀ i, i < j → ¬ bad i) ∧ r = res j) (ke := fun _ => ke)
    (by
      intro fu i _ hi hv
      rcases hstep fu i hi with ⟨h1, h2⟩ | ⟨h1, h2⟩
      · refine Or.inr ⟨(), fun j hj => ?_, h2⟩
        rcases Nat.lt_or_ge j i with g | g
        · exact hv j g
        · have : j = i := by omega
          subst this
          exact h1
      · exact Or.inl ⟨_, ⟨i, hi, h1, hv, rfl⟩, h2⟩)
    (fun fu _ _ => hend fu) fu 0 () (fun j hj => by omega) (by omega) (by omega)
  rcases key with ⟨r, ⟨j, h1, h2, h3, h4⟩, h5⟩ | ⟨_, h1, h2⟩
  · exact Or.inl ⟨j, h1, h2, h3, h5.trans h4⟩
  · exact Or.inr ⟨h1, h2⟩
theorem lp_all {R : Type} (F : Nat → Int32 → Option R) (N : Nat) (ok : Nat → Prop) (bad ke : Option R)
    (hstep : ∀ fu i, i < N → (ok i ∧ F (fu + 1) (nI i) = F fu (nI (i + 1))) ∨ (¬ ok i ∧ F (fu + 1) (nI i) = bad))
    (hend : ∀ fu, F (fu + 1) (nI N) = ke) (fu : Nat) (hf : N < fu) :
    ((∀ i, i < N → ok i) ∧ F fu (nI 0) = ke) ∨ ((¬ ∀ i, i < N → ok i) ∧ F fu (nI 0) = bad) := by
  rcases lp_fst F N (fun i => ¬ ok i) (fun _ => bad) ke (fun fu i hi => by
    rcases hstep fu i hi with ⟨h1, h2⟩ | ⟨h1, h2⟩
    · exact Or.inl ⟨fun q => q h1, h2⟩
    · exact Or.inr ⟨h1, h2⟩) hend fu hf with ⟨j, h1, h2, h3, h4⟩ | ⟨h1, h2⟩
  · exact Or.inr ⟨fun q => h2 (q j h1), h4⟩
  · exact Or.inl ⟨fun i hi => Classical.byContradiction (h1 i hi), h2⟩
theorem nle {a i : Nat} (h : i < a) (ha : a < 2 ^ 31) : ¬ nI a ≤ nI i := nI_ge h ha
theorem nlr {a : Nat} (ha : a < 2 ^ 31) : nI a ≤ nI a := nI_le (Nat.le_refl _) ha
def L1 (a : NO) : Prop := ∀ x, x < a 0 0 → jn a x x = x
def L2 (a : NO) : Prop := ∀ x, x < a 0 0 → ∀ y, y < a 0 0 → jn a x y = jn a y x
def L3 (a : NO) : Prop := ∀ x, x < a 0 0 → ∀ y, y < a 0 0 → ∀ z, z < a 0 0 → jn a (jn a x y) z = jn a x (jn a y z)
def L4 (a : NO) : Prop := ∀ x, x < a 0 0 → jn a 0 x = x
theorem f_L1 {a : NO} (hb : Bd a) : f_joinsWithItself (nO a) = some (b01 (L1 a)) := by
  unfold f_joinsWithItself
  have hM := hb.1
  rcases lp_all (F := fun fu i => lp_joinsWithItself_2 (nO a) k_joinsWithItself_2 fu i) (a 0 0) (fun x => jn a x x = x) (some 0) (some 1)
    (by
      intro fu i hi
      have hj := jn_lt hb i i
      try dsimp only
      rw [lp_joinsWithItself_2, if_neg (show ¬ nO a 0 0 ≤ nI i from nle hi (by omega)), bd_s (f_join_s (by omega) (by omega)), nI_1]
      simp only [nI_eq (show jn a i i < 2 ^ 31 by omega) (show i < 2 ^ 31 by omega)]
      by_cases c : jn a i i = i
      · exact Or.inl ⟨c, if_pos c⟩
      · exact Or.inr ⟨c, if_neg c⟩)
    (by
      intro fu
      try dsimp only
      rw [lp_joinsWithItself_2, if_pos (show nO a 0 0 ≤ nI (a 0 0) from nlr (by omega))]
      rfl) 10000 (by omega) with ⟨h1, h2⟩ | ⟨h1, h2⟩
  · rw [b01_t (c := L1 a) h1]; exact h2
  · rw [b01_f (c := L1 a) h1]; exact h2
theorem f_L4 {a : NO} (hb : Bd a) : f_joinsZeroAsNothing (nO a) = some (b01 (L4 a)) := by
  unfold f_joinsZeroAsNothing
  have hM := hb.1
  rcases lp_all (F := fun fu i => lp_joinsZeroAsNothing_2 (nO a) k_joinsZeroAsNothing_2 fu i) (a 0 0) (fun x => jn a 0 x = x) (some 0) (some 1)
    (by
      intro fu i hi
      have hj := jn_lt hb 0 i
      try dsimp only
      rw [lp_joinsZeroAsNothing_2, if_neg (show ¬ nO a 0 0 ≤ nI i from nle hi (by omega)), bd_s (show f_join (nO a) 0 (nI i) = some (nI (jn a 0 i)) from f_join_s (x := 0) (by omega) (by omega)), nI_1]
      simp only [nI_eq (show jn a 0 i < 2 ^ 31 by omega) (show i < 2 ^ 31 by omega)]
      by_cases c : jn a 0 i = i
      · exact Or.inl ⟨c, if_pos c⟩
      · exact Or.inr ⟨c, if_neg c⟩)
    (by
      intro fu
      try dsimp only
      rw [lp_joinsZeroAsNothing_2, if_pos (show nO a 0 0 ≤ nI (a 0 0) from nlr (by omega))]
      rfl) 10000 (by omega) with ⟨h1, h2⟩ | ⟨h1, h2⟩
  · rw [b01_t (c := L4 a) h1]; exact h2
  · rw [b01_f (c := L4 a) h1]; exact h2
theorem f_L2 {a : NO} (hb : Bd a) : f_joinsBothWaysAlike (nO a) = some (b01 (L2 a)) := by
  unfold f_joinsBothWaysAlike
  have hM := hb.1
  have hin : ∀ (x : Nat) (kk : Int32 → Option Int32), x < a 0 0 → ((∀ y, y < x → jn a x y = jn a y x) ∧ lp_joinsBothWaysAlike_12 (nO a) (nI x) kk 10000 0 = kk (nI x)) ∨ ((¬ ∀ y, y < x → jn a x y = jn a y x) ∧ lp_joinsBothWaysAlike_12 (nO a) (nI x) kk 10000 0 = some 0) := by
    intro x kk hx
    exact lp_all (F := fun fu i => lp_joinsBothWaysAlike_12 (nO a) (nI x) kk fu i) x (fun y => jn a x y = jn a y x) (some 0) (kk (nI x))
      (by
        intro fu i hi
        have h1 := jn_lt hb x i
        have h2 := jn_lt hb i x
        try dsimp only
        rw [lp_joinsBothWaysAlike_12, if_neg (nle hi (by omega)), bd_s (f_join_s (by omega) (by omega)), bd_s (f_join_s (by omega) (by omega)), nI_1]
        simp only [nI_eq (show jn a x i < 2 ^ 31 by omega) (show jn a i x < 2 ^ 31 by omega)]
        by_cases c : jn a x i = jn a i x
        · exact Or.inl ⟨c, if_pos c⟩
        · exact Or.inr ⟨c, if_neg c⟩)
      (by
        intro fu
        try dsimp only
        rw [lp_joinsBothWaysAlike_12, if_pos (nlr (by omega))]) 10000 (by omega)
  rcases lp_all (F := fun fu i => lp_joinsBothWaysAlike_2 (nO a) k_joinsBothWaysAlike_2 fu i) (a 0 0) (fun x => ∀ y, y < x → jn a x y = jn a y x) (some 0) (some 1)
    (by
      intro fu i hi
      try dsimp only
      rw [lp_joinsBothWaysAlike_2, if_neg (show ¬ nO a 0 0 ≤ nI i from nle hi (by omega))]
      rcases hin i (k_joinsBothWaysAlike_12 (nI i) (lp_joinsBothWaysAlike_2 (nO a) k_joinsBothWaysAlike_2 fu)) hi with ⟨c, e⟩ | ⟨c, e⟩
      · refine Or.inl ⟨c, e.trans ?_⟩
        rw [k_joinsBothWaysAlike_12, nI_1]
      · exact Or.inr ⟨c, e⟩)
    (by
      intro fu
      try dsimp only
      rw [lp_joinsBothWaysAlike_2, if_pos (show nO a 0 0 ≤ nI (a 0 0) from nlr (by omega))]
      rfl) 10000 (by omega) with ⟨h1, h2⟩ | ⟨h1, h2⟩
  · rw [b01_t (c := L2 a) (fun x hx y hy => by
      rcases Nat.lt_trichotomy x y with g | g | g
      · exact (h1 y hy x g).symm
      · subst g; rfl
      · exact h1 x hx y g)]
    exact h2
  · rw [b01_f (c := L2 a) (fun q => h1 (fun x hx y hy => q x hx y (by omega)))]
    exact h2
theorem f_L3 {a : NO} (hb : Bd a) : f_joinsInAnyGroupsAlike (nO a) = some (b01 (L3 a)) := by
  unfold f_joinsInAnyGroupsAlike
  have hM := hb.1
  have h3 : ∀ (x y : Nat) (kk : Int32 → Option Int32), x < a 0 0 → y < a 0 0 → ((∀ z, z < a 0 0 → jn a (jn a x y) z = jn a x (jn a y z)) ∧ lp_joinsInAnyGroupsAlike_30 (nO a) (nI x) (nI y) (nI (jn a x y)) kk 10000 0 = kk (nI (a 0 0))) ∨ ((¬ ∀ z, z < a 0 0 → jn a (jn a x y) z = jn a x (jn a y z)) ∧ lp_joinsInAnyGroupsAlike_30 (nO a) (nI x) (nI y) (nI (jn a x y)) kk 10000 0 = some 0) := by
    intro x y kk hx hy
    exact lp_all (F := fun fu i => lp_joinsInAnyGroupsAlike_30 (nO a) (nI x) (nI y) (nI (jn a x y)) kk fu i) (a 0 0) (fun z => jn a (jn a x y) z = jn a x (jn a y z)) (some 0) (kk (nI (a 0 0)))
      (by
        intro fu i hi
        have g1 := jn_lt hb x y
        have g2 := jn_lt hb y i
        have g3 := jn_lt hb (jn a x y) i
        have g4 := jn_lt hb x (jn a y i)
        try dsimp only
        rw [lp_joinsInAnyGroupsAlike_30, if_neg (show ¬ nO a 0 0 ≤ nI i from nle hi (by omega)), bd_s (f_join_s g1 (by omega)), bd_s (f_join_s (by omega) (by omega)), bd_s (f_join_s (by omega) g2), nI_1]
        simp only [nI_eq (show jn a (jn a x y) i < 2 ^ 31 by omega) (show jn a x (jn a y i) < 2 ^ 31 by omega)]
        by_cases c : jn a (jn a x y) i = jn a x (jn a y i)
        · exact Or.inl ⟨c, if_pos c⟩
        · exact Or.inr ⟨c, if_neg c⟩)
      (by
        intro fu
        try dsimp only
        rw [lp_joinsInAnyGroupsAlike_30, if_pos (show nO a 0 0 ≤ nI (a 0 0) from nlr (by omega))]) 10000 (by omega)
  have h2 : ∀ (x : Nat) (kk : Int32 → Option Int32), x < a 0 0 → ((∀ y, y < a 0 0 → ∀ z, z < a 0 0 → jn a (jn a x y) z = jn a x (jn a y z)) ∧ lp_joinsInAnyGroupsAlike_12 (nO a) (nI x) kk 10000 0 = kk (nI (a 0 0))) ∨ ((¬ ∀ y, y < a 0 0 → ∀ z, z < a 0 0 → jn a (jn a x y) z = jn a x (jn a y z)) ∧ lp_joinsInAnyGroupsAlike_12 (nO a) (nI x) kk 10000 0 = some 0) := by
    intro x kk hx
    exact lp_all (F := fun fu i => lp_joinsInAnyGroupsAlike_12 (nO a) (nI x) kk fu i) (a 0 0) (fun y => ∀ z, z < a 0 0 → jn a (jn a x y) z = jn a x (jn a y z)) (some 0) (kk (nI (a 0 0)))
      (by
        intro fu i hi
        try dsimp only
        rw [lp_joinsInAnyGroupsAlike_12, if_neg (show ¬ nO a 0 0 ≤ nI i from nle hi (by omega)), bd_s (f_join_s (by omega) (by omega))]
        rcases h3 x i (k_joinsInAnyGroupsAlike_30 (nI i) (lp_joinsInAnyGroupsAlike_12 (nO a) (nI x) kk fu)) hx hi with ⟨c, e⟩ | ⟨c, e⟩
        · refine Or.inl ⟨c, e.trans ?_⟩
          rw [k_joinsInAnyGroupsAlike_30, nI_1]
        · exact Or.inr ⟨c, e⟩)
      (by
        intro fu
        try dsimp only
        rw [lp_joinsInAnyGroupsAlike_12, if_pos (show nO a 0 0 ≤ nI (a 0 0) from nlr (by omega))]) 10000 (by omega)
  rcases lp_all (F := fun fu i => lp_joinsInAnyGroupsAlike_2 (nO a) k_joinsInAnyGroupsAlike_2 fu i) (a 0 0) (fun x => ∀ y, y < a 0 0 → ∀ z, z < a 0 0 → jn a (jn a x y) z = jn a x (jn a y z)) (some 0) (some 1)
    (by
      intro fu i hi
      try dsimp only
      rw [lp_joinsInAnyGroupsAlike_2, if_neg (show ¬ nO a 0 0 ≤ nI i from nle hi (by omega))]
      rcases h2 i (k_joinsInAnyGroupsAlike_12 (nI i) (lp_joinsInAnyGroupsAlike_2 (nO a) k_joinsInAnyGroupsAlike_2 fu)) hi with ⟨c, e⟩ | ⟨c, e⟩
      · refine Or.inl ⟨c, e.trans ?_⟩
        rw [k_joinsInAnyGroupsAlike_12, nI_1]
      · exact Or.inr ⟨c, e⟩)
    (by
      intro fu
      try dsimp only
      rw [lp_joinsInAnyGroupsAlike_2, if_pos (show nO a 0 0 ≤ nI (a 0 0) from nlr (by omega))]
      rfl) 10000 (by omega) with ⟨h1, h2⟩ | ⟨h1, h2⟩
  · rw [b01_t (c := L3 a) h1]; exact h2
  · rw [b01_f (c := L3 a) h1]; exact h2
/-- the least law that does not hold -/
noncomputable def bl (a : NO) : Int32 := @ite _ (L1 a) (Classical.propDecidable _) (@ite _ (L2 a) (Classical.propDecidable _) (@ite _ (L3 a) (Classical.propDecidable _) (@ite _ (L4 a) (Classical.propDecidable _) 0 4) 3) 2) 1
theorem f_brokenLaw_s {a : NO} (hb : Bd a) : f_brokenLaw (nO a) = some (bl a) := by
  unfold f_brokenLaw bl
  rw [bd_s (f_L1 hb)]
  by_cases h1 : L1 a
  · rw [if_neg (by rw [b01_t h1]; decide), bd_s (f_L2 hb), if_pos h1]
    by_cases h2 : L2 a
    · rw [if_neg (by rw [b01_t h2]; decide), bd_s (f_L3 hb), if_pos h2]
      by_cases h3 : L3 a
      · rw [if_neg (by rw [b01_t h3]; decide), bd_s (f_L4 hb), if_pos h3]
        by_cases h4 : L4 a
        · rw [if_neg (by rw [b01_t h4]; decide), if_pos h4]
        · rw [if_pos (by rw [b01_f h4]), if_neg h4]
      · rw [if_pos (by rw [b01_f h3]), if_neg h3]
    · rw [if_pos (by rw [b01_f h2]), if_neg h2]
  · rw [if_pos (by rw [b01_f h1]), if_neg h1]
theorem bl_0 {a : NO} : bl a = 0 ↔ L1 a ∧ L2 a ∧ L3 a ∧ L4 a := by
  unfold bl
  by_cases h1 : L1 a
  · rw [if_pos h1]
    by_cases h2 : L2 a
    · rw [if_pos h2]
      by_cases h3 : L3 a
      · rw [if_pos h3]
        by_cases h4 : L4 a
        · rw [if_pos h4]; exact ⟨fun _ => ⟨h1, h2, h3, h4⟩, fun _ => rfl⟩
        · rw [if_neg h4]; exact ⟨fun q => absurd q (by decide), fun q => absurd q.2.2.2 h4⟩
      · rw [if_neg h3]; exact ⟨fun q => absurd q (by decide), fun q => absurd q.2.2.1 h3⟩
    · rw [if_neg h2]; exact ⟨fun q => absurd q (by decide), fun q => absurd q.2.1 h2⟩
  · rw [if_neg h1]; exact ⟨fun q => absurd q (by decide), fun q => absurd q.1 h1⟩
def ko (a : NO) (w : Nat) : Prop := ∀ x, x < a 0 0 → ∀ y, y < a 0 0 → jn a x y = y → jn a (a 6 (w * 8 + x)) (a 6 (w * 8 + y)) = a 6 (w * 8 + y)
theorem f_keepsOrder_s {a : NO} (hb : Bd a) {w : Nat} (hw : w < 20) : f_keepsOrder (nO a) (nI w) = some (b01 (ko a w)) := by
  unfold f_keepsOrder
  have hM := hb.1
  have hin : ∀ (x : Nat) (kk : Int32 → Option Int32), x < a 0 0 → ((∀ y, y < a 0 0 → jn a x y = y → jn a (a 6 (w * 8 + x)) (a 6 (w * 8 + y)) = a 6 (w * 8 + y)) ∧ lp_keepsOrder_18 (nO a) (nI w) (nI x) kk 10000 0 = kk (nI (a 0 0))) ∨ ((¬ ∀ y, y < a 0 0 → jn a x y = y → jn a (a 6 (w * 8 + x)) (a 6 (w * 8 + y)) = a 6 (w * 8 + y)) ∧ lp_keepsOrder_18 (nO a) (nI w) (nI x) kk 10000 0 = some 0) := by
    intro x kk hx
    exact lp_all (F := fun fu i => lp_keepsOrder_18 (nO a) (nI w) (nI x) kk fu i) (a 0 0) (fun y => jn a x y = y → jn a (a 6 (w * 8 + x)) (a 6 (w * 8 + y)) = a 6 (w * 8 + y)) (some 0) (kk (nI (a 0 0)))
      (by
        intro fu i hi
        have g1 := hb.mp (w * 8 + x)
        have g2 := hb.mp (w * 8 + i)
        try dsimp only
        rw [lp_keepsOrder_18, if_neg (show ¬ nO a 0 0 ≤ nI i from nle hi (by omega)), bd_s (f_isBelow_s hb (by omega) (by omega)), nI_1]
        by_cases c1 : jn a x i = i
        · rw [if_neg (by rw [b01_t c1]; decide), ix8, ix8, gd_t (ck_nI (by omega) (by decide)), gd_t (ck_nI (by omega) (by decide)), cl (by omega), cl (by omega)]
          rw [show nO a 6 (w * 8 + x) = nI (a 6 (w * 8 + x)) from rfl, show nO a 6 (w * 8 + i) = nI (a 6 (w * 8 + i)) from rfl, bd_s (f_isBelow_s hb g1 g2)]
          by_cases c2 : jn a (a 6 (w * 8 + x)) (a 6 (w * 8 + i)) = a 6 (w * 8 + i)
          · exact Or.inl ⟨fun _ => c2, if_neg (by rw [b01_t c2]; decide)⟩
          · exact Or.inr ⟨fun q => c2 (q c1), if_pos (by rw [b01_f c2])⟩
        · exact Or.inl ⟨fun q => absurd q c1, if_pos (by rw [b01_f c1])⟩)
      (by
        intro fu
        try dsimp only
        rw [lp_keepsOrder_18, if_pos (show nO a 0 0 ≤ nI (a 0 0) from nlr (by omega))]) 10000 (by omega)
  rcases lp_all (F := fun fu i => lp_keepsOrder_7 (nO a) (nI w) k_keepsOrder_7 fu i) (a 0 0) (fun x => ∀ y, y < a 0 0 → jn a x y = y → jn a (a 6 (w * 8 + x)) (a 6 (w * 8 + y)) = a 6 (w * 8 + y)) (some 0) (some 1)
    (by
      intro fu i hi
      try dsimp only
      rw [lp_keepsOrder_7, if_neg (show ¬ nO a 0 0 ≤ nI i from nle hi (by omega))]
      rcases hin i (k_keepsOrder_18 (nI i) (lp_keepsOrder_7 (nO a) (nI w) k_keepsOrder_7 fu)) hi with ⟨c, e⟩ | ⟨c, e⟩
      · refine Or.inl ⟨c, e.trans ?_⟩
        rw [k_keepsOrder_18, nI_1]
      · exact Or.inr ⟨c, e⟩)
    (by
      intro fu
      try dsimp only
      rw [lp_keepsOrder_7, if_pos (show nO a 0 0 ≤ nI (a 0 0) from nlr (by omega))]
      rfl) 10000 (by omega) with ⟨h1, h2⟩ | ⟨h1, h2⟩
  · rw [b01_t (c := ko a w) h1]; exact h2
  · rw [b01_f (c := ko a w) h1]; exact h2
/-- the first of n that is bad, or -1 -/
def FX (n : Nat) (bad : Nat → Prop) (r : Int32) : Prop := (∃ j, j < n ∧ bad j ∧ (∀ i, i < j → ¬ bad i) ∧ r = nI j) ∨ ((∀ i, i < n → ¬ bad i) ∧ r = -1)
theorem FX.eq {n : Nat} {bad bad' : Nat → Prop} {r r' : Int32} (h : FX n bad r) (h' : FX n bad' r') (hc : ∀ i, i < n → (bad i ↔ bad' i)) : r = r' := by
  rcases h with ⟨j, h1, h2, h3, h4⟩ | ⟨h1, h2⟩ <;> rcases h' with ⟨k, g1, g2, g3, g4⟩ | ⟨g1, g2⟩
  · rcases Nat.lt_trichotomy j k with q | q | q
    · exact absurd ((hc j h1).mp h2) (g3 j q)
    · rw [h4, g4, q]
    · exact absurd ((hc k g1).mpr g2) (h3 k q)
  · exact absurd ((hc j h1).mp h2) (g1 j h1)
  · exact absurd ((hc k g1).mpr g2) (h1 k g1)
  · rw [h2, g2]
theorem FX.m1 {n : Nat} {bad : Nat → Prop} {r : Int32} (h : FX n bad r) (hn : n ≤ 20) : r = -1 ↔ ∀ i, i < n → ¬ bad i := by
  rcases h with ⟨j, h1, h2, h3, h4⟩ | ⟨h1, h2⟩
  · constructor
    · intro q
      rw [h4] at q
      have : ¬ nI j < 0 := nI_pos (by omega)
      rw [q] at this
      exact absurd (by decide) this
    · intro q
      exact absurd h2 (q j h1)
  · exact ⟨fun _ => h1, fun _ => h2⟩
theorem f_firstOut_s {a : NO} (hb : Bd a) : ∃ r, f_firstOutOfOrder (nO a) = some r ∧ FX (a 0 2) (fun w => ¬ ko a w) r := by
  unfold f_firstOutOfOrder
  have hN := hb.2.2.1
  rcases lp_fst (F := fun fu i => lp_firstOutOfOrder_2 (nO a) k_firstOutOfOrder_2 fu i) (a 0 2) (fun w => ¬ ko a w) (fun j => some (nI j)) (some (-1))
    (by
      intro fu i hi
      try dsimp only
      rw [lp_firstOutOfOrder_2, if_neg (show ¬ nO a 0 2 ≤ nI i from nle hi (by omega)), bd_s (f_keepsOrder_s hb (by omega)), nI_1]
      by_cases c : ko a i
      · exact Or.inl ⟨fun q => q c, if_neg (by rw [b01_t c]; decide)⟩
      · exact Or.inr ⟨c, if_pos (by rw [b01_f c])⟩)
    (by
      intro fu
      try dsimp only
      rw [lp_firstOutOfOrder_2, if_pos (show nO a 0 2 ≤ nI (a 0 2) from nlr (by omega))]
      rfl) 10000 (by omega) with ⟨j, h1, h2, h3, h4⟩ | ⟨h1, h2⟩
  · exact ⟨_, h4, Or.inl ⟨j, h1, h2, h3, rfl⟩⟩
  · exact ⟨_, h2, Or.inr ⟨h1, rfl⟩⟩
def WL (a : NO) : Prop := bl a = 0 ∧ ∀ w, w < a 0 2 → ko a w
theorem f_isWell_s {a : NO} (hb : Bd a) : f_isWell (nO a) = some (b01 (WL a)) := by
  unfold f_isWell
  rw [bd_s (f_brokenLaw_s hb)]
  by_cases h : bl a = 0
  · rw [if_pos h]
    obtain ⟨r, h1, h2⟩ := f_firstOut_s hb
    rw [bd_s h1]
    by_cases c : r = -1
    · rw [if_pos c, b01_t ⟨h, fun w hw => Classical.byContradiction ((h2.m1 hb.2.2.1).mp c w hw)⟩]
    · rw [if_neg c, b01_f (fun q => c ((h2.m1 hb.2.2.1).mpr (fun i hi g => g (q.2 i hi))))]
  · rw [if_neg h, b01_f (fun q => h q.1)]
