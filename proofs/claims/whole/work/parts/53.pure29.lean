/-! every script: the law's loop comes to 1 -/
theorem ad3 (u : Nat) : nI u + 3 = nI (u + 3) := by rw [show (3 : Int32) = nI 3 from rfl, nI_add]
theorem ad4 (u : Nat) : nI u + 4 = nI (u + 4) := by rw [show (4 : Int32) = nI 4 from rfl, nI_add]
theorem stop_i {L i : Nat} (hL : L ≤ 2048) (hi : i ≤ 4000) : (Int32.ofNat L) - 4 < nI i ↔ L < i + 4 := by
  rw [Int32.lt_iff_toInt_lt, show ((Int32.ofNat L) - 4).toInt = (L : Int) - 4 from pk_sub_toInt (a := L) (b := 4) (by omega) (by decide), nI_toInt (by omega)]
  omega
theorem law_l {L : Nat} {xs : Nat → Int32} (hL : L ≤ 2048) : ∀ (m fu i : Nat) (f : Ob) (a : NO) (pt i0 v0 i1 v1 bk kn tr jd : Ob) (z : NO) (rg : Nat → Ob), L ≤ i + 4 * m → m < fu → i ≤ 3000 → Sm f a pt i0 v0 i1 v1 bk z rg →
    lp_law_18 L xs k_law_18 fu (nI i) f (nO a) pt i0 v0 i1 v1 bk kn tr jd (nO z) rg = some 1 := by
  intro m
  induction m with
  | zero =>
    intro fu i f a pt i0 v0 i1 v1 bk kn tr jd z rg h1 h2 h3 h
    obtain ⟨fu, rfl⟩ : ∃ k, fu = k + 1 := ⟨fu - 1, by omega⟩
    rw [lp_law_18, if_pos ((stop_i hL (by omega)).mpr (by omega))]
    rfl
  | succ m ih =>
    intro fu i f a pt i0 v0 i1 v1 bk kn tr jd z rg h1 h2 h3 h
    obtain ⟨fu, rfl⟩ : ∃ k, fu = k + 1 := ⟨fu - 1, by omega⟩
    by_cases st : L < i + 4
    · rw [lp_law_18, if_pos ((stop_i hL (by omega)).mpr st)]
      rfl
    rw [lp_law_18, if_neg (fun q => st ((stop_i hL (by omega)).mp q))]
    simp only [nI_1, ad2, ad3, ad4, gd_t (ck_nI (show i < L by omega) (by omega)), gd_t (ck_nI (show i + 1 < L by omega) (by omega)), gd_t (ck_nI (show i + 2 < L by omega) (by omega)), gd_t (ck_nI (show i + 3 < L by omega) (by omega)), cl (show i < 2 ^ 31 by omega), cl (show i + 1 < 2 ^ 31 by omega), cl (show i + 2 < 2 ^ 31 by omega), cl (show i + 3 < 2 ^ 31 by omega)]
    generalize hc : xs i &&& 31 = c
    have go : ∀ (f : Ob) (a : NO) (pt i0 v0 i1 v1 bk kn tr jd : Ob) (z : NO) (rg : Nat → Ob), Sm f a pt i0 v0 i1 v1 bk z rg → lp_law_18 L xs k_law_18 fu (nI (i + 4)) f (nO a) pt i0 v0 i1 v1 bk kn tr jd (nO z) rg = some 1 := fun f a pt i0 v0 i1 v1 bk kn tr jd z rg h => ih fu (i + 4) f a pt i0 v0 i1 v1 bk kn tr jd z rg (by omega) (by omega) (by omega) h
    by_cases q : c = 0
    · obtain ⟨r, kn', tr', jd', z', t1, t2, t3⟩ := told_s h kn tr jd (xs (i + 1))
      rw [if_pos q, bd_s t1, bd_s t2]
      try dsimp only
      rw [if_pos rfl]
      exact go f a pt i0 v0 i1 v1 bk kn' tr' jd' z' rg (h.q t3)
    rw [if_neg q]
    by_cases q : c = 1
    · obtain ⟨r, t1, t2⟩ := joined_s h.sw f (xs (i + 1)) (xs (i + 2))
      rw [if_pos q, bd_s t1, bd_s t2]
      try dsimp only
      rw [if_pos rfl]
      exact go f a pt i0 v0 i1 v1 bk kn tr jd z rg h
    rw [if_neg q]
    by_cases q : c = 2
    · obtain ⟨r, t1, t2⟩ := below_s h.sw f (xs (i + 1)) (xs (i + 2))
      rw [if_pos q, bd_s t1, bd_s t2]
      try dsimp only
      rw [if_pos rfl]
      exact go f a pt i0 v0 i1 v1 bk kn tr jd z rg h
    rw [if_neg q]
    by_cases q : c = 3
    · obtain ⟨r, kn', jd', z', t1, t2, t3⟩ := place_s h kn jd (xs (i + 1)) (xs (i + 2))
      rw [if_pos q, bd_s t1, bd_s t2]
      try dsimp only
      rw [if_pos rfl]
      exact go f a pt i0 v0 i1 v1 bk kn' tr jd' z' rg (h.q t3)
    rw [if_neg q]
    by_cases q : c = 4
    · obtain ⟨r, kn', tr', z', t1, t2, t3⟩ := wayAt_s h.sw f kn tr (xs (i + 1)) (xs (i + 2))
      rw [if_pos q, bd_s t1, bd_s t2]
      try dsimp only
      rw [if_pos rfl]
      exact go f a pt i0 v0 i1 v1 bk kn' tr' jd z' rg (h.q t3)
    rw [if_neg q]
    by_cases q : c = 5
    · obtain ⟨r, t1, t2⟩ := mapped_s h.sw f (xs (i + 1)) (xs (i + 2))
      rw [if_pos q, bd_s t1, bd_s t2]
      try dsimp only
      rw [if_pos rfl]
      exact go f a pt i0 v0 i1 v1 bk kn tr jd z rg h
    rw [if_neg q]
    by_cases q : c = 6
    · obtain ⟨r, tr', z', t1, t2, t3⟩ := steps_s h.sw f tr (xs (i + 1))
      rw [if_pos q, bd_s t1, bd_s t2]
      try dsimp only
      rw [if_pos rfl]
      exact go f a pt i0 v0 i1 v1 bk kn tr' jd z' rg (h.q t3)
    rw [if_neg q]
    by_cases q : c = 7
    · obtain ⟨r, tr', z', t1, t2, t3⟩ := worked_s h.sw f tr (xs (i + 1)) (xs (i + 2))
      rw [if_pos q, bd_s t1, bd_s t2]
      try dsimp only
      rw [if_pos rfl]
      exact go f a pt i0 v0 i1 v1 bk kn tr' jd z' rg (h.q t3)
    rw [if_neg q]
    by_cases q : c = 8
    · obtain ⟨r, a', pt', rg', z', t1, t2, t3⟩ := build_s h (xs (i + 1)) (xs (i + 2)) (xs (i + 3))
      rw [if_pos q, bd_s t1, bd_s t2]
      try dsimp only
      rw [if_pos rfl]
      exact go f a' pt' i0 v0 i1 v1 bk kn tr jd z' rg' t3
    rw [if_neg q]
    by_cases q : c = 9
    · obtain ⟨r, a', pt', rg', z', t1, t2, t3⟩ := cell_s h (xs (i + 1)) (xs (i + 2)) (xs (i + 3))
      rw [if_pos q, bd_s t1, bd_s t2]
      try dsimp only
      rw [if_pos rfl]
      exact go f a' pt' i0 v0 i1 v1 bk kn tr jd z' rg' t3
    rw [if_neg q]
    by_cases q : c = 10
    · obtain ⟨r, a', pt', rg', z', t1, t2, t3⟩ := start_s h (xs (i + 1)) (xs (i + 2)) (xs (i + 3))
      rw [if_pos q, bd_s t1, bd_s t2]
      try dsimp only
      rw [if_pos rfl]
      exact go f a' pt' i0 v0 i1 v1 bk kn tr jd z' rg' t3
    rw [if_neg q]
    by_cases q : c = 11
    · obtain ⟨r, a', pt', rg', z', t1, t2, t3⟩ := way_s h (xs (i + 1)) (xs (i + 2))
      rw [if_pos q, bd_s t1, bd_s t2]
      try dsimp only
      rw [if_pos rfl]
      exact go f a' pt' i0 v0 i1 v1 bk kn tr jd z' rg' t3
    rw [if_neg q]
    by_cases q : c = 12
    · obtain ⟨r, a', pt', rg', z', t1, t2, t3⟩ := drop_s h (xs (i + 1))
      rw [if_pos q, bd_s t1, bd_s t2]
      try dsimp only
      rw [if_pos rfl]
      exact go f a' pt' i0 v0 i1 v1 bk kn tr jd z' rg' t3
    rw [if_neg q]
    by_cases q : c = 13
    · obtain ⟨r, a', pt', rg', z', t1, t2, t3⟩ := map_s h (xs (i + 1)) (xs (i + 2)) (xs (i + 3))
      rw [if_pos q, bd_s t1, bd_s t2]
      try dsimp only
      rw [if_pos rfl]
      exact go f a' pt' i0 v0 i1 v1 bk kn tr jd z' rg' t3
    rw [if_neg q]
    by_cases q : c = 14
    · obtain ⟨r, a', pt', rg', z', t1, t2, t3⟩ := marks_s h (xs (i + 1)) (xs (i + 2)) (xs (i + 3))
      rw [if_pos q, bd_s t1, bd_s t2]
      try dsimp only
      rw [if_pos rfl]
      exact go f a' pt' i0 v0 i1 v1 bk kn tr jd z' rg' t3
    rw [if_neg q]
    by_cases q : c = 15
    · obtain ⟨r, a', pt', rg', z', t1, t2, t3⟩ := gate_s h (xs (i + 1)) (xs (i + 2))
      rw [if_pos q, bd_s t1, bd_s t2]
      try dsimp only
      rw [if_pos rfl]
      exact go f a' pt' i0 v0 i1 v1 bk kn tr jd z' rg' t3
    rw [if_neg q]
    by_cases q : c = 16
    · obtain ⟨r, a', pt', jd', rg', z', t1, t2, t3⟩ := write_s h jd (xs (i + 1)) (xs (i + 2)) (xs (i + 3))
      rw [if_pos q, bd_s t1, bd_s t2]
      try dsimp only
      rw [if_pos rfl]
      exact go f a' pt' i0 v0 i1 v1 bk kn tr jd' z' rg' t3
    rw [if_neg q]
    by_cases q : c = 17
    · obtain ⟨r, a', pt', kn', rg', z', t1, t2, t3⟩ := copy_s h kn
      rw [if_pos q, bd_s t1, bd_s t2]
      try dsimp only
      rw [if_pos rfl]
      exact go f a' pt' i0 v0 i1 v1 bk kn' tr jd z' rg' t3
    rw [if_neg q]
    by_cases q : c = 18
    · obtain ⟨r, f', a', pt', rg', z', t1, t2, t3⟩ := drift_s h (xs (i + 1))
      rw [if_pos q, bd_s t1, bd_s t2]
      try dsimp only
      rw [if_pos rfl]
      exact go f' a' pt' i0 v0 i1 v1 bk kn tr jd z' rg' t3
    rw [if_neg q]
    by_cases q : c = 19
    · obtain ⟨r, a', pt', z', t1, t2, t3⟩ := undo_s h (xs (i + 1))
      rw [if_pos q, bd_s t1, bd_s t2]
      try dsimp only
      rw [if_pos rfl]
      exact go f a' pt' i0 v0 i1 v1 bk kn tr jd z' rg t3
    rw [if_neg q]
    by_cases q : c = 20
    · obtain ⟨r, bk', z', t1, t2, t3⟩ := note_s h (xs (i + 1)) (xs (i + 2)) (xs (i + 3))
      rw [if_pos q, bd_s t1, bd_s t2]
      try dsimp only
      rw [if_pos rfl]
      exact go f a pt i0 v0 i1 v1 bk' kn tr jd z' rg t3
    rw [if_neg q]
    by_cases q : c = 21
    · obtain ⟨r, bk', z', t1, t2, t3⟩ := tear_s h
      rw [if_pos q, bd_s t1, bd_s t2]
      try dsimp only
      rw [if_pos rfl]
      exact go f a pt i0 v0 i1 v1 bk' kn tr jd z' rg t3
    rw [if_neg q]
    by_cases q : c = 22
    · obtain ⟨r, f', z', t1, t2, t3⟩ := seed_s h (xs (i + 1))
      rw [if_pos q, bd_s t1, bd_s t2]
      try dsimp only
      rw [if_pos rfl]
      exact go f' a pt i0 v0 i1 v1 bk kn tr jd z' rg t3
    rw [if_neg q]
    by_cases q : c = 23
    · obtain ⟨r, pt', i0', v0', i1', v1', z', t1, t2, t3⟩ := keep_s h (xs (i + 1))
      rw [if_pos q, bd_s t1, bd_s t2]
      try dsimp only
      rw [if_pos rfl]
      exact go f a pt' i0' v0' i1' v1' bk kn tr jd z' rg t3
    rw [if_neg q]
    by_cases q : c = 24
    · obtain ⟨r, f', a', pt', z', t1, t2, t3⟩ := goBack_s h (xs (i + 1))
      rw [if_pos q, bd_s t1, bd_s t2]
      try dsimp only
      rw [if_pos rfl]
      exact go f' a' pt' i0 v0 i1 v1 bk kn tr jd z' rg t3
    rw [if_neg q]
    exact go f a pt i0 v0 i1 v1 bk kn tr jd z rg h
/-- at the beginning both sides are alike -/
theorem law_all {L : Nat} {xs : Nat → Int32} (hL : L ≤ 2048) : ∃ w0 z0, f_becomeNew O0 0 4 4 = some w0 ∧ f_m_builds O0 0 4 4 = some z0 ∧ f_law L xs O0 w0 O0 O0 O0 O0 O0 O0 O0 O0 O0 z0 (fun _ => O0) = some 1 := by
  have hb : Bd (fun _ _ => 0) := ⟨by decide, by decide, by decide, fun k => ⟨(by decide : 0 < 8), (by decide : 0 < 2048), (by decide : 0 < 2048), (by decide : 0 < 10), (by decide : 0 < 10), (by decide : 0 < 8), (by decide : 0 < 256), (by decide : 0 < 256), (by decide : 0 < 8)⟩⟩
  obtain ⟨a, b1, b2⟩ := f_becomeNew_s hb (o := 0) (y := 4) (P := 4) (by decide) (by decide) (by decide) (by decide)
  obtain ⟨z, d1, d2, d3⟩ := m_builds_s (z := fun _ _ => 0) (o := 0) (y := 4) (P := 4) (by decide) (by decide) (by decide) (by decide)
  have e : ∀ q, q ≠ 1 → ∀ k, z q k = 0 := fun q hq k => by rw [d2 q hq]
  refine ⟨nO a, nO z, b1, d1, ?_⟩
  unfold f_law
  have im : ∀ x, IM O0 O0 x z := fun x => ⟨fun _ _ => 0, rfl, hb, by rw [e 4 (by decide)]; rfl, by rw [e 4 (by decide)]; omega, fun q => absurd (e 4 (by decide) x) q⟩
  refine law_l hL 512 10000 0 O0 a O0 O0 O0 O0 O0 O0 O0 O0 O0 z (fun _ => O0) (by omega) (by decide) (by decide) ⟨SW_c b2 d3, ⟨by rw [e 0 (by decide)]; rfl, by rw [e 0 (by decide)]; decide⟩, ⟨0, fun _ _ _ => 0, by decide, rfl, by rw [e 0 (by decide)]; rfl, by rw [e 0 (by decide)]; omega, fun i => ⟨rfl, hb⟩, fun i hi => by rw [e 0 (by decide)] at hi; omega⟩, im 0, im 1, ⟨by rw [e 0 (by decide)]; rfl, by rw [e 0 (by decide)]; omega, fun i hi => by rw [e 0 (by decide)] at hi; omega⟩, fun p hp => by rw [e 8 (by decide), e 8 (by decide)]; decide⟩
