/-! what is rebuilt, what is refused -/
noncomputable def rbs (a : NO) : Nat → (Nat → Nat)
  | 0 => fun _ => 0
  | n + 1 => nU (rbs a n) n (@ite _ (kp a n) (Classical.propDecidable _) (a 3 n) (tog a (rbs a n) (-1) n))
theorem rbs_lt {a : NO} (hb : Bd a) : ∀ n q, rbs a n q < 2048
  | 0, q => (by decide : 0 < 2048)
  | n + 1, q => by
    rw [rbs]
    by_cases e : q = n
    · rw [e, nU_s]
      by_cases c : kp a n
      · rw [if_pos c]; exact hb.wr n
      · rw [if_neg c]; exact tog_lt hb _ _ _
    · rw [nU_n e]; exact rbs_lt hb n q
theorem rbs_M {a : NO} (g : Gd a) : ∀ n, n ≤ a 0 1 → ∀ q, rbs a n q / 256 < a 0 0
  | 0, _, q => by rw [rbs]; show 0 / 256 < a 0 0; rw [Nat.zero_div]; exact g.2.1
  | n + 1, hn, q => by
    have ih := rbs_M g n (by omega)
    rw [rbs]
    by_cases e : q = n
    · rw [e, nU_s]
      by_cases c : kp a n
      · rw [if_pos c]; exact (g.2.2.2.2 n (by omega)).2
      · rw [if_neg c]; exact tog_M g (by omega) (fun q _ => ih q)
    · rw [nU_n e]; exact ih q
theorem rbs_c {a b : NO} (h : Eqv a b) (g : Gd a) : ∀ n, n ≤ a 0 1 → rbs a n = rbs b n
  | 0, _ => rfl
  | n + 1, hn => by
    have ih := rbs_c h g n (by omega)
    have hM := rbs_M g n (by omega)
    rw [rbs, rbs, ← ih, (h.2.2.2.2.2 n (by omega)).2, tog_c h g (by omega) (fun q _ => hM q)]
    congr 1
    by_cases c : kp a n
    · rw [if_pos c, if_pos ((kp_c h n).mp c)]
    · rw [if_neg c, if_neg (fun q => c ((kp_c h n).mpr q))]
theorem nm_c {a b : NO} (h : Eqv a b) {x y : Nat} (hx : x / 256 < a 0 0) (hy : y / 256 < a 0 0) : nm a x y ↔ nm b x y := by
  unfold nm
  rw [h.2.2.2.1 _ hx _ hy]
/-- it is kept and what is written is too little -/
def bad (a : NO) (p : Nat) : Prop := kp a p ∧ ¬ nm a (tog a (rbs a (a 0 1)) (-1) p) (a 3 p)
section RBL
variable {a : NO} {st : Nat → Nat}
theorem f_rebuild_s (h : SW a st) (jd : Ob) : ∃ jd', f_rebuild jd (nO a) = some jd' ∧ ∀ q, q < a 0 1 → jd' 1 q = nI (rbs a (a 0 1) q) := by
  unfold f_rebuild
  have hP := h.bd.2.1
  obtain ⟨s, g1, g2⟩ := lp_inv (F := fun fu i (s : Ob) => lp_rebuild_2 (nO a) k_rebuild_2 fu i s) (N := a 0 1) (inv := fun i s => ∀ q, q < i → s 1 q = nI (rbs a i q)) (ke := fun s => some s)
    (by
      intro fu i s hi hs
      try dsimp only
      rw [lp_rebuild_2, if_neg (show ¬ nO a 0 1 ≤ nI i from nle hi (by omega)), bd_s (f_isKept_s h.bd (by omega)), nI_1, cl (by omega)]
      by_cases c : kp a i
      · rw [if_neg (by rw [b01_t c]; decide), gd_t (ck_nI (by omega) (by decide)), gd_t (ck_nI (by omega) (by decide))]
        refine ⟨_, fun q hq => ?_, rfl⟩
        rw [sA_s, rbs]
        by_cases e : q = i
        · rw [e, nU_s, if_pos c]; exact if_pos rfl
        · rw [nU_n e]; exact Eq.trans (if_neg e) (hs q (by omega))
      · have ht : f_together (nO a) (s 1) (nI i) (-1) = some (nI (tog a (rbs a i) (-1) i)) := f_together_s h.bd (by omega) (fun w hw e => by
          have : a 4 w < i := by
            rcases Nat.lt_or_ge (a 4 w) i with q | q
            · exact q
            · exact absurd ⟨w, hw, e, q⟩ c
          exact ⟨hs _ this, rbs_lt h.bd i _⟩)
        rw [if_pos (by rw [b01_f c]), bd_s ht, gd_t (ck_nI (by omega) (by decide))]
        refine ⟨_, fun q hq => ?_, rfl⟩
        rw [sA_s, rbs]
        by_cases e : q = i
        · rw [e, nU_s, if_neg c]; exact if_pos rfl
        · rw [nU_n e]; exact Eq.trans (if_neg e) (hs q (by omega)))
    (by
      intro fu s _
      try dsimp only
      rw [lp_rebuild_2, if_pos (show nO a 0 1 ≤ nI (a 0 1) from nlr (by omega))]
      rfl) 10000 0 jd (fun q hq => by omega) (by omega) (by omega)
  exact ⟨s, g2, g1⟩
theorem f_refusedAt_s (h : SW a st) (jd : Ob) : ∃ r jd', f_refusedAt jd (nO a) = some (r, jd') ∧ FX (a 0 1) (bad a) r ∧ ∀ q, q < a 0 1 → jd' 1 q = nI (rbs a (a 0 1) q) := by
  unfold f_refusedAt
  have hP := h.bd.2.1
  obtain ⟨jd', e1, e2⟩ := f_rebuild_s h jd
  rw [bd_s e1]
  rcases lp_fst (F := fun fu i => lp_refusedAt_7 jd' (nO a) (k_refusedAt_7 jd') fu i) (a 0 1) (bad a) (fun j => some (nI j, jd')) (some (-1, jd'))
    (by
      intro fu i hi
      have ht : f_together (nO a) (jd' 1) (nI i) (-1) = some (nI (tog a (rbs a (a 0 1)) (-1) i)) := f_together_s h.bd (by omega) (fun w hw e => ⟨e2 _ (h.gd.lv w hw).1, rbs_lt h.bd _ _⟩)
      try dsimp only
      rw [lp_refusedAt_7, if_neg (show ¬ nO a 0 1 ≤ nI i from nle hi (by omega)), bd_s (f_isKept_s h.bd (by omega)), nI_1, cl (by omega)]
      by_cases c : kp a i
      · rw [if_neg (by rw [b01_t c]; decide), bd_s ht, gd_t (ck_nI (by omega) (by decide)), show nO a 3 i = nI (a 3 i) from rfl, bd_s (f_isNoMore_s h.bd (tog_lt h.bd _ _ _) (h.bd.wr i))]
        by_cases d : nm a (tog a (rbs a (a 0 1)) (-1) i) (a 3 i)
        · rw [if_neg (by rw [b01_t d]; decide)]
          exact Or.inl ⟨fun q => q.2 d, rfl⟩
        · rw [if_pos (by rw [b01_f d])]
          exact Or.inr ⟨⟨c, d⟩, rfl⟩
      · rw [if_pos (by rw [b01_f c])]
        exact Or.inl ⟨fun q => c q.1, rfl⟩)
    (by
      intro fu
      try dsimp only
      rw [lp_refusedAt_7, if_pos (show nO a 0 1 ≤ nI (a 0 1) from nlr (by omega))]
      rfl) 10000 (by omega) with ⟨j, g1, g2, g3, g4⟩ | ⟨g1, g2⟩
  · exact ⟨nI j, jd', g4, Or.inl ⟨j, g1, g2, g3, rfl⟩, e2⟩
  · exact ⟨-1, jd', g2, Or.inr ⟨g1, rfl⟩, e2⟩
/-- the other side's row of what is rebuilt -/
def R8 (a : NO) (n : Nat) (z : NO) : Prop := RB z ∧ ∀ q, q < n → z 8 q = rbs a n q / 256 ∧ z 8 (10 + q) = rbs a n q % 256
theorem m_gath8 {z z' : NO} (h : SW a (z 1)) (r1 : z' 1 = z 1) (hr : RB z') {p : Nat} (hp : p < a 0 1) : ∃ z2, f_m_gathers 8 (nO z') (nI p) (-1) = some (nO z2) ∧ SmG z' z2 ∧ z2 0 13 = (tg (wb (z 1)) (fc (z' 8)) (-1) p (a 0 2)).1 ∧ z2 0 14 = (tg (wb (z 1)) (fc (z' 8)) (-1) p (a 0 2)).2 := by
  have hP := h.bd.2.1
  have hB := Bd_wb h.bs
  obtain ⟨z2, g1, g2, g3, g4⟩ := m_gathers_s (z := z') (jj := 8) (by decide) (by rw [r1]; exact h.bs) (p := p) (y := -1) (by omega) (fun w _ _ => hr _ (by rw [r1]; exact hB.fr w))
  rw [r1, h.e2] at g3 g4
  exact ⟨z2, g1, g2, g3, g4⟩
theorem m_rebuilds_s {z : NO} (h : SW a (z 1)) (hr : RB z) : ∃ z', f_m_rebuilds (nO z) = some (nO z') ∧ SmQ z z' ∧ R8 a (a 0 1) z' := by
  unfold f_m_rebuilds
  have hP := h.bd.2.1
  have hB := Bd_wb h.bs
  have he := h.eqv
  obtain ⟨s, ⟨z', rfl, g1, g2⟩, g3⟩ := lp_inv (F := fun fu i (s : Ob) => lp_m_rebuilds_2 k_m_rebuilds_2 fu i s) (N := a 0 1) (inv := fun i s => ∃ z', s = nO z' ∧ SmQ z z' ∧ R8 a i z') (ke := fun s => some s)
    (by
      rintro fu i s hi ⟨z', rfl, q, hR⟩
      have r1 : z' 1 = z 1 := q.1 1 (by decide) (by decide) (by decide) (by decide) (by decide)
      obtain ⟨z2, t1, t2, t3, t4⟩ := m_gath8 h r1 hR.1 hi
      have r2 : z2 1 = z 1 := (t2.1 1 (by decide)).trans r1
      have r8 : z2 8 = z' 8 := t2.1 8 (by decide)
      have hk : f_m_isKept (nO z') (nI i) = some (b01 (kp a i)) := by
        rw [m_isKept_s (by rw [r1]; exact h.bs) (by omega), r1, b01_c (kp_c he i).symm]
      have bb := h.bs.2.2.2.2.1 i (by omega)
      have fin : ∀ v1 v2, v1 < 8 → v2 < 256 → rbs a (i + 1) i = v1 * 256 + v2 → ∃ z3, nO (rN z2 8 (nU (nU (z2 8) i v1) (10 + i) v2)) = nO z3 ∧ SmQ z z3 ∧ R8 a (i + 1) z3 := by
        intro v1 v2 hv1 hv2 hv
        have hRB : RB (rN z2 8 (nU (nU (z2 8) i v1) (10 + i) v2)) := by
          intro p hp
          rw [rN_s, r8]
          have := hR.1 p hp
          by_cases e : p = i
          · rw [e, nU_s, nU_n (by omega), nU_s]; exact ⟨hv1, hv2⟩
          · rw [nU_n (by omega), nU_n e, nU_n (by omega), nU_n (by omega)]; exact this
        refine ⟨_, rfl, ⟨fun j a0 a1 a2 a3 a4 => ?_, fun k b1 b2 b3 b4 b5 => ?_, fun _ => hRB⟩, hRB, fun p hp => ?_⟩
        · rw [rN_n a3, t2.1 j a0]; exact q.1 j a0 a1 a2 a3 a4
        · rw [rN_n (by decide), t2.2 k b1 b2 b3 b4]; exact q.2.1 k b1 b2 b3 b4 b5
        · rw [rN_s, r8]
          by_cases e : p = i
          · rw [e, nU_s, nU_n (by omega), nU_s, hv]; omega
          · rw [nU_n (by omega), nU_n e, nU_n (by omega), nU_n (by omega), rbs, nU_n e]
            exact hR.2 p (by omega)
      try dsimp only
      rw [lp_m_rebuilds_2, c1, if_neg (show ¬ nO z' 1 1 ≤ nI i by rw [show nO z' 1 1 = nI (a 0 1) from congrArg nI (by rw [r1, h.e1])]; exact nle hi (by omega)), bd_s hk, bd_s t1, nI_1]
      by_cases c : kp a i
      · rw [if_neg (by rw [b01_t c]; decide), if_neg (by rw [b01_t c]; decide), ix87, ix97, ix10, gd_t (ck_nI (by omega) (by decide)), gd_t (ck_nI (by omega) (by decide)), gd_t (ck_nI (by omega) (by decide)), gd_t (ck_nI (by omega) (by decide)), cl (by omega), cl (by omega), cl (by omega), cl (by omega), show nO z2 1 (87 + i) = nI (z 1 (87 + i)) from congrArg nI (by rw [r2]), show nO z2 1 (97 + i) = nI (z 1 (97 + i)) from congrArg nI (by rw [r2]), sA_sA, upd_nO, upd_fn, sA_nO]
        obtain ⟨z3, e1, e2, e3⟩ := fin (z 1 (87 + i)) (z 1 (97 + i)) bb.2.2.1 bb.2.2.2 (by rw [rbs, nU_s, if_pos c]; exact (h.pl i hi).2.1.symm)
        exact ⟨_, ⟨z3, e1, e2, e3⟩, rfl⟩
      · have b := tg_b hB (fc (z' 8)) (-1) i (a 0 2)
        have et : tog a (rbs a i) (-1) i = (tg (wb (z 1)) (fc (z' 8)) (-1) i (a 0 2)).1 * 256 + (tg (wb (z 1)) (fc (z' 8)) (-1) i (a 0 2)).2 := by
          have hM := rbs_M h.gd i (by omega)
          rw [tog_c he h.gd hi (fun q _ => hM q)]
          unfold tog
          rw [tg_congr (h := rbs a i) (h' := fc (z' 8)) (wb (z 1) 0 2) (fun w hw e => ?_)]
          · rw [show wb (z 1) 0 2 = a 0 2 from h.e2]
          · rw [show wb (z 1) 0 2 = a 0 2 from h.e2] at hw
            have hlt : wb (z 1) 4 w < i := by
              rcases Nat.lt_or_ge (wb (z 1) 4 w) i with q | q
              · exact q
              · exact absurd ((kp_c he i).mpr ⟨w, by rw [show wb (z 1) 0 2 = a 0 2 from h.e2]; exact hw, e, q⟩) c
            have r := hR.2 _ hlt
            unfold fc
            rw [r.1, r.2]
            omega
        rw [if_pos (by rw [b01_f c]), if_pos (by rw [b01_f c]), ix10, gd_t (ck_nI (by omega) (by decide)), gd_t (ck_nI (by omega) (by decide)), cl (by omega), cl (by omega), show nO z2 0 13 = nI (tg (wb (z 1)) (fc (z' 8)) (-1) i (a 0 2)).1 from congrArg nI t3, show nO z2 0 14 = nI (tg (wb (z 1)) (fc (z' 8)) (-1) i (a 0 2)).2 from congrArg nI t4, sA_sA, upd_nO, upd_fn, sA_nO]
        obtain ⟨z3, e1, e2, e3⟩ := fin (tg (wb (z 1)) (fc (z' 8)) (-1) i (a 0 2)).1 (tg (wb (z 1)) (fc (z' 8)) (-1) i (a 0 2)).2 b.1 b.2 (by rw [rbs, nU_s, if_neg c]; exact et)
        exact ⟨_, ⟨z3, e1, e2, e3⟩, rfl⟩)
    (by
      rintro fu s ⟨z', rfl, q, hR⟩
      have r1 : z' 1 = z 1 := q.1 1 (by decide) (by decide) (by decide) (by decide) (by decide)
      try dsimp only
      rw [lp_m_rebuilds_2, c1, if_pos (show nO z' 1 1 ≤ nI (a 0 1) by rw [show nO z' 1 1 = nI (a 0 1) from congrArg nI (by rw [r1, h.e1])]; exact nlr (by omega))]
      rfl) 10000 0 (nO z) ⟨z, rfl, SmQ.rf z, hr, fun q hq => by omega⟩ (by omega) (by omega)
  exact ⟨z', g3, g1, g2⟩
theorem m_isLess_s {z : NO} (hb : BdS (z 1)) {v s p : Nat} (hv : v < 8) (hs : s < 256) (hp : p < 10) : f_m_isLess (nO z) (nI v) (nI s) (nI p) = some (b01 (nm (wb (z 1)) (v * 256 + s) (z 1 (87 + p) * 256 + z 1 (97 + p)))) := by
  unfold f_m_isLess
  have bb := hb.2.2.2.2.1 p hp
  rw [ix87, ix97, gd_t (ck_nI (by omega) (by decide)), cl (by omega), cl (by omega), show nO z 1 (87 + p) = nI (z 1 (87 + p)) from rfl, show nO z 1 (97 + p) = nI (z 1 (97 + p)) from rfl, bd_s (m_isBelow_s hb hv bb.2.2.1)]
  unfold nm
  rw [show (v * 256 + s) / 256 = v by omega, show (v * 256 + s) % 256 = s by omega, show (z 1 (87 + p) * 256 + z 1 (97 + p)) / 256 = z 1 (87 + p) by omega, show (z 1 (87 + p) * 256 + z 1 (97 + p)) % 256 = z 1 (97 + p) by omega]
  by_cases c : jn (wb (z 1)) v (z 1 (87 + p)) = z 1 (87 + p)
  · rw [if_neg (by rw [b01_t c]; decide), gd_t (ck_nI (by omega) (by decide))]
    simp only [sb_nI hs, ite_b01]
    exact congrArg some (b01_c ⟨fun q => ⟨c, q⟩, fun q => q.2⟩)
  · rw [if_pos (by rw [b01_f c]), b01_f (fun q => c q.1)]
theorem m_refused_s {z : NO} (h : SW a (z 1)) (hr : RB z) : ∃ r z', f_m_refused (nO z) = some (r, nO z') ∧ FX (a 0 1) (bad a) r ∧ SmQ z z' ∧ R8 a (a 0 1) z' := by
  unfold f_m_refused
  have hP := h.bd.2.1
  have hB := Bd_wb h.bs
  have he := h.eqv
  obtain ⟨z1, e1, e2, e3⟩ := m_rebuilds_s h hr
  rw [bd_s e1]
  rcases lp_ex (F := fun fu i (s : Ob) => lp_m_refused_6 k_m_refused_6 fu i s) (N := a 0 1) (inv := fun i s => ∃ z', s = nO z' ∧ SmQ z z' ∧ R8 a (a 0 1) z' ∧ ∀ j, j < i → ¬ bad a j) (Ex := fun r => ∃ j z', j < a 0 1 ∧ bad a j ∧ (∀ i, i < j → ¬ bad a i) ∧ SmQ z z' ∧ R8 a (a 0 1) z' ∧ r = some (nI j, nO z')) (ke := fun s => some (-1, s))
    (by
      rintro fu i s hi ⟨z', rfl, q, hR, hn⟩
      have r1 : z' 1 = z 1 := q.1 1 (by decide) (by decide) (by decide) (by decide) (by decide)
      have hk : f_m_isKept (nO z') (nI i) = some (b01 (kp a i)) := by
        rw [m_isKept_s (by rw [r1]; exact h.bs) (by omega), r1, b01_c (kp_c he i).symm]
      try dsimp only
      rw [lp_m_refused_6, c1, if_neg (show ¬ nO z' 1 1 ≤ nI i by rw [show nO z' 1 1 = nI (a 0 1) from congrArg nI (by rw [r1, h.e1])]; exact nle hi (by omega)), bd_s hk, nI_1]
      by_cases c : kp a i
      · obtain ⟨z2, t1, t2, t3, t4⟩ := m_gath8 h r1 hR.1 hi
        have r2 : z2 1 = z 1 := (t2.1 1 (by decide)).trans r1
        have b := tg_b hB (fc (z' 8)) (-1) i (a 0 2)
        have et : tog a (rbs a (a 0 1)) (-1) i = (tg (wb (z 1)) (fc (z' 8)) (-1) i (a 0 2)).1 * 256 + (tg (wb (z 1)) (fc (z' 8)) (-1) i (a 0 2)).2 := by
          have hM := rbs_M h.gd (a 0 1) (Nat.le_refl _)
          rw [tog_c he h.gd hi (fun q _ => hM q)]
          unfold tog
          rw [tg_congr (h := rbs a (a 0 1)) (h' := fc (z' 8)) (wb (z 1) 0 2) (fun w hw e => ?_)]
          · rw [show wb (z 1) 0 2 = a 0 2 from h.e2]
          · have r := hR.2 _ (show wb (z 1) 4 w < a 0 1 by have := (h.lvb w hw).1; rwa [show wb (z 1) 0 1 = a 0 1 from h.e1] at this)
            unfold fc
            rw [r.1, r.2]
            omega
        have hlt := tog_M h.gd (f := rbs a (a 0 1)) (y := -1) hi (fun q _ => rbs_M h.gd (a 0 1) (Nat.le_refl _) q)
        have hpl := h.pl i hi
        have bb := h.bs.2.2.2.2.1 i (by omega)
        have hw3 : a 3 i / 256 < a 0 0 := by omega
        have ht : f_m_isTakenAt (nO z') (nI i) = some (b01 (nm a (tog a (rbs a (a 0 1)) (-1) i) (a 3 i)), nO z2) := by
          unfold f_m_isTakenAt
          rw [bd_s t1, show nO z2 0 13 = nI (tg (wb (z 1)) (fc (z' 8)) (-1) i (a 0 2)).1 from congrArg nI t3, show nO z2 0 14 = nI (tg (wb (z 1)) (fc (z' 8)) (-1) i (a 0 2)).2 from congrArg nI t4, bd_s (m_isLess_s (by rw [r2]; exact h.bs) b.1 b.2 (by omega)), gd_t b01_bz, r2, ← et, hpl.2.1, b01_c (nm_c he hlt hw3).symm]
        have qz : SmQ z z2 := q.tr t2.q
        have R2 : R8 a (a 0 1) z2 := by
          unfold R8 RB
          rw [t2.1 8 (by decide)]
          exact hR
        rw [if_neg (by rw [b01_t c]; decide), bd_s ht]
        try dsimp only
        by_cases d : nm a (tog a (rbs a (a 0 1)) (-1) i) (a 3 i)
        · rw [if_neg (by rw [b01_t d]; decide)]
          refine Or.inr ⟨_, ⟨z2, rfl, qz, R2, fun j hj => ?_⟩, rfl⟩
          by_cases e : j = i
          · rw [e]; exact fun q => q.2 d
          · exact hn j (by omega)
        · rw [if_pos (by rw [b01_f d])]
          exact Or.inl ⟨_, ⟨i, z2, hi, ⟨c, d⟩, hn, qz, R2, rfl⟩, rfl⟩
      · rw [if_pos (by rw [b01_f c])]
        refine Or.inr ⟨_, ⟨z', rfl, q, hR, fun j hj => ?_⟩, rfl⟩
        by_cases e : j = i
        · rw [e]; exact fun q => c q.1
        · exact hn j (by omega))
    (by
      rintro fu s ⟨z', rfl, q, hR, hn⟩
      have r1 : z' 1 = z 1 := q.1 1 (by decide) (by decide) (by decide) (by decide) (by decide)
      try dsimp only
      rw [lp_m_refused_6, c1, if_pos (show nO z' 1 1 ≤ nI (a 0 1) by rw [show nO z' 1 1 = nI (a 0 1) from congrArg nI (by rw [r1, h.e1])]; exact nlr (by omega))]
      rfl) 10000 0 (nO z1) ⟨z1, rfl, e2, e3, fun j hj => by omega⟩ (by omega) (by omega) with ⟨r, ⟨j, z', g1, g2, g3, g4, g5, g6⟩, g7⟩ | ⟨s, ⟨z', rfl, g1, g2, g3⟩, g4⟩
  · exact ⟨nI j, z', g7.trans g6, Or.inl ⟨j, g1, g2, g3, rfl⟩, g4, g5⟩
  · exact ⟨-1, z', g4, Or.inr ⟨g3, rfl⟩, g1, g2⟩
end RBL
