/-! copies, draws, what is undone, the book, images -/
section DF
variable {f pt i0 v0 i1 v1 bk : Ob} {a z : NO} {rg : Nat → Ob}
theorem copy_l {kn : Ob} {P : Nat} {hh : Nat → Nat} (hP : P ≤ 10) (hk : ∀ q, q < P → kn 1 q = nI (hh q)) (hl : ∀ q, hh q < 2048) : ∀ (m p : Nat) (c : Int32) (a z : NO) (fu fu' : Nat), p + m = P → m < fu → m < fu' → a 0 1 = P → Sm f a pt i0 v0 i1 v1 bk z rg → Fm (z 6) hh → (∀ q, q < P → hh q / 256 < a 0 0) →
    ∃ r a' z', lp_x_copy_25 kn (k_x_copy_25 pt kn rg) fu c (nI p) (nO a) = some (r, nO a', pt, kn, rg) ∧ lp_m_copy_31 k_m_copy_31 fu' c (nI p) (nO z) = some (r, nO z') ∧ Sm f a' pt i0 v0 i1 v1 bk z' rg := by
  intro m
  induction m with
  | zero =>
    intro p c a z fu fu' hp h1 h2 ha h hF hM
    obtain ⟨fu, rfl⟩ : ∃ k, fu = k + 1 := ⟨fu - 1, by omega⟩
    obtain ⟨fu', rfl⟩ : ∃ k, fu' = k + 1 := ⟨fu' - 1, by omega⟩
    have e : p = P := by omega
    subst e
    refine ⟨c, a, z, ?_, ?_, h⟩
    · rw [lp_x_copy_25, if_pos (show nO a 0 1 ≤ nI p by rw [show nO a 0 1 = nI p from congrArg nI ha]; exact nlr (by omega)), k_x_copy_25]
    · rw [lp_m_copy_31, c1, if_pos (show nO z 1 1 ≤ nI p by rw [show nO z 1 1 = nI p from congrArg nI (h.sw.e1.trans ha)]; exact nlr (by omega)), k_m_copy_31]
  | succ m ih =>
    intro p c a z fu fu' hp h1 h2 ha h hF hM
    obtain ⟨fu, rfl⟩ : ∃ k, fu = k + 1 := ⟨fu - 1, by omega⟩
    obtain ⟨fu', rfl⟩ : ∃ k, fu' = k + 1 := ⟨fu' - 1, by omega⟩
    have s := h.sw
    have hpP : p < P := by omega
    rw [lp_x_copy_25, if_neg (show ¬ nO a 0 1 ≤ nI p by rw [show nO a 0 1 = nI P from congrArg nI ha]; exact nle hpP (by omega)), bd_s (f_isKept_s s.bd (by omega)), lp_m_copy_31, c1, if_neg (show ¬ nO z 1 1 ≤ nI p by rw [show nO z 1 1 = nI P from congrArg nI (s.e1.trans ha)]; exact nle hpP (by omega)), bd_s (m_kep s (by omega)), nI_1]
    by_cases k : kp a p
    · have fm := hF p (by omega)
      have S' := SW_write (p := p) (v := hh p / 256) (s := hh p % 256) s (by omega) (hM p hpP) (Nat.mod_lt _ (by decide))
      rw [show hh p / 256 * 256 + hh p % 256 = hh p by omega] at S'
      rw [if_neg (b01_n k), if_neg (b01_n k), gd_t (ck_nI (by omega) (by decide)), gd_t (ck_nI (by omega) (by decide)), ix87, ix97, ix10, gd_t (ck_nI (by omega) (by decide)), gd_t (ck_nI (by omega) (by decide)), gd_t (ck_nI (by omega) (by decide)), gd_t (ck_nI (by omega) (by decide)), cl (by omega), cl (by omega), cl (by omega), cl (by omega), hk p hpP, sAu, show nO z 6 p = nI (hh p / 256) from congrArg nI fm.1, show nO z 6 (10 + p) = nI (hh p % 256) from congrArg nI fm.2, sA_sA, upd_nO, upd_fn, sA_nO]
      exact ih (p + 1) (c + 1) _ _ fu fu' (by omega) (by omega) (by omega) ha (h.w S') hF hM
    · rw [if_pos (b01_f k), if_pos (b01_f k)]
      exact ih (p + 1) c a z fu fu' (by omega) (by omega) (by omega) ha h hF hM
theorem copy_s (h : Sm f a pt i0 v0 i1 v1 bk z rg) (kn : Ob) : ∃ r a' pt' kn' rg' z', f_x_copy f (nO a) pt kn rg = some (r, nO a', pt', kn', rg') ∧ f_m_copy (nO z) = some (r, nO z') ∧ Sm f a' pt' i0 v0 i1 v1 bk z' rg' := by
  have s := h.sw
  have hP := s.bd.2.1
  unfold f_x_copy f_m_copy
  rw [bd_s (m_well s)]
  by_cases w : WL a
  · obtain ⟨kn', k1, k2⟩ := fk_y s w f kn
    obtain ⟨z1, u1, u2, u3⟩ := works_c s (jj := 6) (Or.inl rfl) (ch := 0) (by decide) (-1)
    have e := fS_end s w (ch := 0) (by decide) (-1)
    have h1 := h.q (SmW.q (Or.inl rfl) u2)
    obtain ⟨pt', rg', z2, r1, r2, r3, r6, -, r4⟩ := h1.rem
    have hF : Fm (z2 6) (fS a 0 (-1)).1 := by rw [r6]; exact u3
    obtain ⟨r, a', z3, l1, l2, l3⟩ := copy_l (kn := kn') (P := a 0 1) hP k2 (fun q => fS_lt s 0 (-1) q) (a 0 1) 0 0 a z2 10000 10000 (by omega) (by omega) (by omega) rfl r4 hF (fun q hq => fS_M s 0 (-1) hq)
    rw [if_neg (b01_n w), bd_s k1, show f_m_works 6 (nO z) 0 (-1) = some (sT (fS a 0 (-1)) (fT a 0 (-1)), nO z1) from u1, bd_s (v := (sT (fS a 0 (-1)) (fT a 0 (-1)), nO z1)) rfl]
    try dsimp only
    rw [if_neg (show ¬ (1 : Int32) = 0 by decide), bd_s r1, if_pos (show 0 ≤ sT (fS a 0 (-1)) (fT a 0 (-1)) by rw [e.1]; exact nI_pos' (by omega)), bd_s r2]
    exact ⟨r, a', pt', kn', rg', z3, l1, l2, l3⟩
  · rw [if_pos (b01_f w), bd_s (fk_n s w f kn)]
    exact ⟨_, _, _, _, _, z, rfl, rfl, h⟩
theorem nU_nU (g : Nat → Nat) (k v w : Nat) : nU (nU g k v) k w = nU g k w := by
  funext j
  unfold nU
  by_cases c : j = k
  · rw [if_pos c, if_pos c]
  · rw [if_neg c, if_neg c, if_neg c]
theorem aw_put (a : NO) (i j g t h : Nat) : sA (sA (sA (nO (aw a i j 0 0 0)) 9 (upd (nO (aw a i j 0 0 0) 9) (a 0 2) (nI h))) 7 (upd (nO (aw a i j 0 0 0) 7) (a 0 2) (nI g))) 8 (upd (nO (aw a i j 0 0 0) 8) (a 0 2) (nI t)) = nO (aw a i j g t h) := by
  rw [upd_nO, upd_nO, upd_nO, sA_nO, sA_nO, sA_nO]
  congr 1
  funext r
  by_cases q8 : r = 8
  · rw [q8, rN_s]; exact nU_nU (a 8) _ _ _
  rw [rN_n q8]
  by_cases q7 : r = 7
  · rw [q7, rN_s]; exact nU_nU (a 7) _ _ _
  rw [rN_n q7]
  by_cases q9 : r = 9
  · rw [q9, rN_s]; exact nU_nU (a 9) _ _ _
  rw [rN_n q9]
  unfold aw
  by_cases q0 : r = 0
  · rw [if_pos q0, if_pos q0]
  rw [if_neg q0, if_neg q0]
  by_cases q4 : r = 4
  · rw [if_pos q4, if_pos q4]
  rw [if_neg q4, if_neg q4]
  by_cases q5 : r = 5
  · rw [if_pos q5, if_pos q5]
  rw [if_neg q5, if_neg q5]
  by_cases q6 : r = 6
  · rw [if_pos q6, if_pos q6]
  rw [if_neg q6, if_neg q6, if_neg q7, if_neg q7, if_neg q8, if_neg q8, if_neg q9, if_neg q9]
theorem draw_b (h : Sm f a pt i0 v0 i1 v1 bk z rg) {n : Nat} (h0 : 0 < n) (hn : n < 2 ^ 31) : ∃ d f' z', d < n ∧ f_x_draw f (nI n) = some (nI d, f') ∧ f_m_draw (nO z) (nI n) = some (nI d, nO z') ∧ z' 1 = z 1 ∧ Sm f' a pt i0 v0 i1 v1 bk z' rg := by
  obtain ⟨e0, l0⟩ := h.2.1
  obtain ⟨f', d1, e1⟩ := draw_x e0 l0 h0 hn
  exact ⟨_, f', _, Nat.mod_lt _ h0, d1, draw_m l0 h0 hn, rN_n (by decide), h.sd e1 (nx_lt _)⟩
/-- a drawn way comes -/
theorem drawn_s (h : Sm f a pt i0 v0 i1 v1 bk z rg) (hP0 : 0 < a 0 1) (hW : a 0 2 < 20) (kk : Ob → Option (Int32 × Ob)) : ∃ f' a' z', f_x_addDrawnWay f (nO a) = some (f', nO a') ∧ bd (f_m_draw (nO z) ((nO z 1) (Int32.toNatClampNeg 1))) (fun q51 => bd (f_m_draw q51.2 ((q51.2 1) (Int32.toNatClampNeg 1))) (fun q62 => bd (f_m_draw q62.2 ((q62.2 1) (Int32.toNatClampNeg 0))) (fun q74 => bd (f_m_draw q74.2 8) (fun q83 => bd (f_m_draw q83.2 8) (fun q93 => bd (f_m_comes q93.2 q51.1 q62.1 (1 <<< (q83.1 &&& 31)) (1 <<< (q93.1 &&& 31)) q74.1) kk))))) = kk (nO z') ∧ Sm f' a' pt i0 v0 i1 v1 bk z' rg := by
  have s := h.sw
  have hM := s.bd.1
  have hP := s.bd.2.1
  have hM0 := s.m0
  obtain ⟨i, f1, z1, li, d1, g1, b1, h1⟩ := draw_b h hP0 (by omega)
  obtain ⟨j, f2, z2, lj, d2, g2, b2, h2⟩ := draw_b h1 hP0 (by omega)
  obtain ⟨hgt, f3, z3, lh, d3, g3, b3, h3⟩ := draw_b h2 hM0 (by omega)
  obtain ⟨g, f4, z4, lg, d4, g4, b4, h4⟩ := draw_b h3 (n := 8) (by decide) (by decide)
  obtain ⟨t, f5, z5, lt, d5, g5, b5', h5⟩ := draw_b h4 (n := 8) (by decide) (by decide)
  have b5 : z5 1 = z 1 := by rw [b5', b4, b3, b2, b1]
  rw [show nI 8 = 8 from rfl] at d4 g4 d5 g5
  have pg : 2 ^ g < 256 := Nat.lt_of_lt_of_le (Nat.pow_lt_pow_right (by decide) lg) (by decide)
  have ptt : 2 ^ t < 256 := Nat.lt_of_lt_of_le (Nat.pow_lt_pow_right (by decide) lt) (by decide)
  have S' := SW_way (i := i) (j := j) (g := 2 ^ g) (t := 2 ^ t) (h := hgt) h5.sw hW li lj pg ptt lh
  refine ⟨f5, aw a i j (2 ^ g) (2 ^ t) hgt, rN z5 1 (sw (z5 1) i j (2 ^ g) (2 ^ t) hgt), ?_, ?_, h5.w S'⟩
  · unfold f_x_addDrawnWay
    rw [show nO a 0 1 = nI (a 0 1) from rfl, bd_s d1]
    try dsimp only
    rw [bd_s d2]
    try dsimp only
    rw [bd_s (f_addWay_s i j hW)]
    try dsimp only
    rw [show nO (aw a i j 0 0 0) 0 0 = nI (a 0 0) from rfl, bd_s d3]
    try dsimp only
    rw [gd_t (ck_nI hW (by decide)), bd_s d4]
    try dsimp only
    rw [gd_t (ck_nI hW (by decide)), bd_s d5]
    try dsimp only
    rw [gd_t (ck_nI hW (by decide)), cl (by omega), pw_nI g (by omega), pw_nI t (by omega), aw_put]
  · rw [c1, c0, show nO z 1 1 = nI (a 0 1) from congrArg nI s.e1, bd_s g1]
    try dsimp only
    rw [show nO z1 1 1 = nI (a 0 1) from congrArg nI (by rw [b1]; exact s.e1), bd_s g2]
    try dsimp only
    rw [show nO z2 1 0 = nI (a 0 0) from congrArg nI (by rw [b2, b1]; exact s.e0), bd_s g3]
    try dsimp only
    rw [bd_s g4]
    try dsimp only
    rw [bd_s g5]
    try dsimp only
    rw [pw_nI g (by omega), pw_nI t (by omega), bd_s (m_comes_s i j (2 ^ g) (2 ^ t) hgt (by rw [b5, s.e2]; exact hW))]
theorem drift_l {n : Nat} (hn : n ≤ 16) : ∀ (m i : Nat) (f : Ob) (a : NO) (pt : Ob) (z : NO) (rg : Nat → Ob) (fu fu' : Nat), i + m = n → m < fu → m < fu' → Sm f a pt i0 v0 i1 v1 bk z rg →
    ∃ r f' a' pt' rg' z', lp_x_drift_16 (nI n) k_x_drift_16 fu (nI i) f (nO a) pt rg = some (r, f', nO a', pt', rg') ∧ lp_m_drift_15 (nI n) k_m_drift_15 fu' (nI i) (nO z) = some (r, nO z') ∧ Sm f' a' pt' i0 v0 i1 v1 bk z' rg' := by
  intro m
  have stop : ∀ (i : Nat) (f : Ob) (a : NO) (pt : Ob) (z : NO) (rg : Nat → Ob), Sm f a pt i0 v0 i1 v1 bk z rg → k_x_drift_16 (nI i) f (nO a) pt rg = some (nI (a 0 2), f, nO a, pt, rg) ∧ k_m_drift_15 (nI i) (nO z) = some (nI (a 0 2), nO z) := by
    intro i f a pt z rg h
    refine ⟨rfl, ?_⟩
    rw [k_m_drift_15, c2, show nO z 1 2 = nI (a 0 2) from congrArg nI h.sw.e2]
  induction m with
  | zero =>
    intro i f a pt z rg fu fu' hi h1 h2 h
    obtain ⟨fu, rfl⟩ : ∃ k, fu = k + 1 := ⟨fu - 1, by omega⟩
    obtain ⟨fu', rfl⟩ : ∃ k, fu' = k + 1 := ⟨fu' - 1, by omega⟩
    have e : i = n := by omega
    subst e
    obtain ⟨t1, t2⟩ := stop i f a pt z rg h
    rw [lp_x_drift_16, if_pos (nlr (by omega)), lp_m_drift_15, if_pos (nlr (by omega)), t1, t2]
    exact ⟨_, _, _, _, _, _, rfl, rfl, h⟩
  | succ m ih =>
    intro i f a pt z rg fu fu' hi h1 h2 h
    obtain ⟨fu, rfl⟩ : ∃ k, fu = k + 1 := ⟨fu - 1, by omega⟩
    obtain ⟨fu', rfl⟩ : ∃ k, fu' = k + 1 := ⟨fu' - 1, by omega⟩
    have s := h.sw
    have hP := s.bd.2.1
    have hW := s.bd.2.2.1
    obtain ⟨t1, t2⟩ := stop i f a pt z rg h
    have e0 : nI (a 0 1) ≤ 0 ↔ a 0 1 ≤ 0 := nI_leI (b := 0) (by omega) (by decide)
    have e20 : (20 : Int32) ≤ nI (a 0 2) ↔ 20 ≤ a 0 2 := nI_leI (a := 20) (by decide) (by omega)
    rw [lp_x_drift_16, if_neg (nle (by omega) (by omega)), lp_m_drift_15, if_neg (nle (by omega) (by omega)), c1, c2, show nO a 0 1 = nI (a 0 1) from rfl, show nO z 1 1 = nI (a 0 1) from congrArg nI s.e1, show nO a 0 2 = nI (a 0 2) from rfl, show nO z 1 2 = nI (a 0 2) from congrArg nI s.e2]
    by_cases q1 : a 0 1 ≤ 0
    · rw [if_pos (e0.mpr q1), if_pos (e0.mpr q1), t1, t2]
      exact ⟨_, _, _, _, _, _, rfl, rfl, h⟩
    rw [if_neg (fun q => q1 (e0.mp q)), if_neg (fun q => q1 (e0.mp q))]
    by_cases q2 : 20 ≤ a 0 2
    · rw [if_pos (e20.mpr q2), if_pos (e20.mpr q2), t1, t2]
      exact ⟨_, _, _, _, _, _, rfl, rfl, h⟩
    rw [if_neg (fun q => q2 (e20.mp q)), if_neg (fun q => q2 (e20.mp q))]
    obtain ⟨pt', rg', z1, r1, r2, r3, -, -, r4⟩ := h.rem
    obtain ⟨f', a', z', d1, d2, d3⟩ := drawn_s r4 (by omega) (by omega) (fun q109 => lp_m_drift_15 (nI n) k_m_drift_15 fu' (nI i + 1) q109)
    obtain ⟨r, f2, a2, pt2, rg2, z2, g1, g2, g3⟩ := ih (i + 1) f' a' pt' z' rg' fu fu' (by omega) (by omega) (by omega) d3
    refine ⟨r, f2, a2, pt2, rg2, z2, ?_, ?_, g3⟩
    · rw [bd_s r1, bd_s d1, nI_1]
      exact g1
    · rw [bd_s r2]
      refine Eq.trans (show _ = _ from ?_) g2
      rw [c1] at d2
      rw [← nI_1 i]
      exact d2
end DF
