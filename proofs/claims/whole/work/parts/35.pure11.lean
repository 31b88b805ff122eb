/-! the reference: all is worked -/
def SmW (jj : Nat) (z z' : NO) : Prop := (∀ i, i ≠ 0 → i ≠ 9 → i ≠ jj → z' i = z i) ∧ ∀ k, k ≠ 11 → k ≠ 12 → k ≠ 13 → k ≠ 14 → k ≠ 16 → z' 0 k = z 0 k
theorem SmW.rf (jj : Nat) (z : NO) : SmW jj z z := ⟨fun _ _ _ _ => rfl, fun _ _ _ _ _ _ => rfl⟩
theorem SmW.tr {jj : Nat} {x y z : NO} (h : SmW jj x y) (g : SmW jj y z) : SmW jj x z := ⟨fun i a b c => (g.1 i a b c).trans (h.1 i a b c), fun k a b c d e => (g.2 k a b c d e).trans (h.2 k a b c d e)⟩
theorem SmG.w {jj : Nat} {z z' : NO} (h : SmG z z') : SmW jj z z' := ⟨fun i a _ _ => h.1 i a, fun k a b c d _ => h.2 k a b c d⟩
/-- the reference's row of facts holds them -/
def Fm (F : Nat → Nat) (h : Nat → Nat) : Prop := ∀ p, p < 10 → F p = h p / 256 ∧ F (10 + p) = h p % 256
theorem fc_of {F h : Nat → Nat} (q : Fm F h) {p : Nat} (hp : p < 10) : fc F p = h p := by
  unfold fc
  rw [(q p hp).1, (q p hp).2]
  omega
theorem tg_congr {a : NO} {h h' : Nat → Nat} {y : Int32} {p : Nat} : ∀ n, (∀ w, w < n → a 5 w = p → h (a 4 w) = h' (a 4 w)) → tg a h y p n = tg a h' y p n
  | 0, _ => rfl
  | n + 1, q => by
    have ih := tg_congr (a := a) (h := h) (h' := h') (y := y) (p := p) n (fun w hw => q w (by omega))
    unfold tg
    by_cases c : a 5 n = p ∧ ¬ nI n = y
    · rw [if_pos c, if_pos c, ih, q n (by omega) c.1]
    · rw [if_neg c, if_neg c, ih]
theorem tog_congr {a : NO} {h h' : Nat → Nat} {y : Int32} {p : Nat} (q : ∀ w, w < a 0 2 → a 5 w = p → h (a 4 w) = h' (a 4 w)) : tog a h y p = tog a h' y p := by
  unfold tog
  rw [tg_congr _ q]
theorem m_wake_s {z0 : NO} (hb : BdS (z0 1)) {jj : Nat} (hj9 : jj ≠ 9) (hj1 : jj ≠ 1) {z : NO} {l : List Nat} {p : Nat} {y : Int32} {q78 : Int32 × Ob} (hq : q78.1 = nI p) (h1 : z 1 = z0 1) (h : Qm z l) (hn : l.Nodup) (hl : ∀ x ∈ l, x < 10) (hp : p < 10) (kk : Int32 → Ob → Option (Int32 × Ob)) :
    ∃ z', lp_m_works_141 y q78 kk 10000 0 (nO z) = kk (nI (z0 1 2)) (nO z') ∧ Qm z' (wkS (wb (z0 1)) p y l (z0 1 2)) ∧ (∀ i, i ≠ 0 → i ≠ 9 → z' i = z i) ∧ (∀ k, k ≠ 16 → z' 0 k = z 0 k) := by
  have hN := hb.2.2.1
  have hB := Bd_wb hb
  obtain ⟨s, ⟨z', rfl, g1, g2, g3⟩, g4⟩ := lp_inv (F := fun fu i (s : Ob) => lp_m_works_141 y q78 kk fu i s) (N := z0 1 2) (inv := fun i s => ∃ z', s = nO z' ∧ Qm z' (wkS (wb (z0 1)) p y l i) ∧ (∀ i, i ≠ 0 → i ≠ 9 → z' i = z i) ∧ (∀ k, k ≠ 16 → z' 0 k = z 0 k)) (ke := fun s => kk (nI (z0 1 2)) s)
    (by
      rintro fu i s hi ⟨z', rfl, e1, e2, e3⟩
      have r1 : z' 1 = z0 1 := (e2 1 (by decide) (by decide)).trans h1
      have h4 := hB.fr i
      have h5 := hB.to i
      obtain ⟨o1, o2⟩ := wkS_ok (a := wb (z0 1)) (p := p) (y := y) hn hl i (fun w _ => hB.to w)
      try dsimp only
      rw [lp_m_works_141, c2, if_neg (show ¬ nO z' 1 2 ≤ nI i by rw [show nO z' 1 2 = nI (z0 1 2) from congrArg nI (by rw [r1])]; exact nle hi (by omega)), nI_1]
      by_cases q2 : nI i = y
      · rw [if_pos q2]
        exact ⟨_, ⟨z', rfl, by rw [show wkS (wb (z0 1)) p y l (i + 1) = wkS (wb (z0 1)) p y l i from if_neg (fun q => q.2.1 q2)]; exact e1, e2, e3⟩, rfl⟩
      · rw [if_neg q2, bd_s (m_of_fr (by omega)), r1, hq]
        simp only [nI_eq (show wb (z0 1) 4 i < 2 ^ 31 by omega) (show p < 2 ^ 31 by omega)]
        by_cases q1 : wb (z0 1) 4 i = p
        · rw [if_pos q1, bd_s (m_of_to (by omega)), r1, bd_s (m_waits_s e1 o2 h5)]
          by_cases q3 : wb (z0 1) 5 i ∈ wkS (wb (z0 1)) p y l i
          · rw [if_neg (by rw [b01_t q3]; decide)]
            exact ⟨_, ⟨z', rfl, by rw [show wkS (wb (z0 1)) p y l (i + 1) = wkS (wb (z0 1)) p y l i from if_neg (fun q => q.2.2 q3)]; exact e1, e2, e3⟩, rfl⟩
          · have ew : wkS (wb (z0 1)) p y l (i + 1) = wkS (wb (z0 1)) p y l i ++ [wb (z0 1) 5 i] := if_pos ⟨q1, q2, q3⟩
            have hlen : (wkS (wb (z0 1)) p y l i ++ [wb (z0 1) 5 i]).length ≤ 10 := by
              rw [← ew]
              obtain ⟨n1, n2⟩ := wkS_ok (a := wb (z0 1)) (p := p) (y := y) hn hl (i + 1) (fun w _ => hB.to w)
              exact nd_len 10 _ n1 n2
            rw [List.length_append, List.length_singleton] at hlen
            obtain ⟨t1, t2, t3⟩ := e1
            rw [if_pos (by rw [b01_f q3]), bd_s (m_of_to (by omega)), r1, show nO z' 0 16 = nI (wkS (wb (z0 1)) p y l i).length from congrArg nI t1, gd_t (ck_nI (by omega) (by decide)), cl (by omega), nI_1, sAu, sIu]
            refine ⟨_, ⟨_, rfl, ?_, fun j a b => by rw [rN_n a, rN_n b]; exact e2 j a b, fun k hk => by rw [rN_s, nU_n hk, rN_n (by decide)]; exact e3 k hk⟩, rfl⟩
            rw [ew]
            refine ⟨by rw [rN_s, nU_s, List.length_append, List.length_singleton], by rw [List.length_append, List.length_singleton]; exact hlen, fun j hj => ?_⟩
            rw [rN_n (by decide), rN_s, gD_ap]
            rw [List.length_append, List.length_singleton] at hj
            by_cases c : j = (wkS (wb (z0 1)) p y l i).length
            · rw [if_neg (by omega), if_pos c, c, nU_s]
            · rw [if_pos (by omega), nU_n c]
              exact t3 j (by omega)
        · rw [if_neg q1]
          exact ⟨_, ⟨z', rfl, by rw [show wkS (wb (z0 1)) p y l (i + 1) = wkS (wb (z0 1)) p y l i from if_neg (fun q => q1 q.1)]; exact e1, e2, e3⟩, rfl⟩)
    (by
      rintro fu s ⟨z', rfl, e1, e2, e3⟩
      have r1 : z' 1 = z0 1 := (e2 1 (by decide) (by decide)).trans h1
      try dsimp only
      rw [lp_m_works_141, c2, if_pos (show nO z' 1 2 ≤ nI (z0 1 2) by rw [show nO z' 1 2 = nI (z0 1 2) from congrArg nI (by rw [r1])]; exact nlr (by omega))]) 10000 0 (nO z) ⟨z, rfl, h, fun _ _ _ => rfl, fun _ _ => rfl⟩ (by omega) (by omega)
  exact ⟨z', g4, g1, g2, g3⟩
def Rm (jj : Nat) (z0 z : NO) (s : (Nat → Nat) × List Nat) : Prop := SmW jj z0 z ∧ Qm z s.2 ∧ Fm (z jj) s.1
theorem works_loop {z0 : NO} (hb : BdS (z0 1)) (hv : LV (wb (z0 1))) {jj : Nat} (hj0 : jj ≠ 0) (hj9 : jj ≠ 9) (hj1 : jj ≠ 1) {ch : Nat} (hc : ch < 3) {y : Int32} : ∀ (n t fu : Nat) (z : NO), t + n = 2000 → n < fu → Rm jj z0 z (rs (wb (z0 1)) ch y t) →
    ∃ T z', t ≤ T ∧ T ≤ 2000 ∧ (∀ u, t ≤ u → u < T → (rs (wb (z0 1)) ch y u).2 ≠ []) ∧ ((rs (wb (z0 1)) ch y T).2 = [] ∨ T = 2000) ∧ lp_m_works_61 jj (nI ch) y k_m_works_61 fu (nI t) (nO z) = k_m_works_61 (nI T) (nO z') ∧ Rm jj z0 z' (rs (wb (z0 1)) ch y T) := by
  have hB := Bd_wb hb
  intro n
  induction n with
  | zero =>
    intro t fu z ht hf hR
    obtain ⟨fu, rfl⟩ : ∃ k, fu = k + 1 := ⟨fu - 1, by omega⟩
    refine ⟨t, z, Nat.le_refl _, by omega, fun u h1 h2 => by omega, Or.inr (by omega), ?_, hR⟩
    rw [lp_m_works_61]
    by_cases c : nO z 0 16 ≤ 0
    · rw [if_pos c]
    · rw [if_neg c, show t = 2000 by omega, show (2000 : Int32) = nI 2000 from rfl, if_pos (nlr (by decide))]
  | succ n ih =>
    intro t fu z ht hf hR
    obtain ⟨fu, rfl⟩ : ∃ k, fu = k + 1 := ⟨fu - 1, by omega⟩
    obtain ⟨o1, o2, o3⟩ := rs_ok hB hv ch y t
    have hP := hB.2.1
    by_cases he : (rs (wb (z0 1)) ch y t).2 = []
    · refine ⟨t, z, Nat.le_refl _, by omega, fun u h1 h2 => by omega, Or.inl he, ?_, hR⟩
      rw [lp_m_works_61, if_pos (by rw [show nO z 0 16 = nI 0 from congrArg nI (by rw [hR.2.1.1, he]; rfl)]; exact nlr (a := 0) (by decide))]
    · have hpos : 0 < (rs (wb (z0 1)) ch y t).2.length := List.length_pos_iff.mpr he
      obtain ⟨hS, hQ, hF⟩ := hR
      have hat := atS_lt (ch := ch) hpos
      have hmem := gD hat
      have hpP := o2 _ hmem
      have hl10 : ∀ x ∈ (rs (wb (z0 1)) ch y t).2, x < 10 := fun x hx => by have := o2 x hx; omega
      obtain ⟨z1, k1, k2, k3, k4⟩ := m_taken_s hQ hl10 hpos hc
      have r1 : z1 1 = z0 1 := (k3 1 (by decide) (by decide)).trans (hS.1 1 (by decide) (by decide) (Ne.symm hj1))
      have rj : z1 jj = z jj := k3 jj hj0 hj9
      have hlt := tog_lt hB (rs (wb (z0 1)) ch y t).1 y ((rs (wb (z0 1)) ch y t).2.getD (atS ch (rs (wb (z0 1)) ch y t).2) 0)
      have h3 := o3 ((rs (wb (z0 1)) ch y t).2.getD (atS ch (rs (wb (z0 1)) ch y t).2) 0)
      have er : rs (wb (z0 1)) ch y (t + 1) = stp (wb (z0 1)) ch y (rs (wb (z0 1)) ch y t) := rfl
      have hst : stp (wb (z0 1)) ch y (rs (wb (z0 1)) ch y t) = if tog (wb (z0 1)) (rs (wb (z0 1)) ch y t).1 y ((rs (wb (z0 1)) ch y t).2.getD (atS ch (rs (wb (z0 1)) ch y t).2) 0) = (rs (wb (z0 1)) ch y t).1 ((rs (wb (z0 1)) ch y t).2.getD (atS ch (rs (wb (z0 1)) ch y t).2) 0) then ((rs (wb (z0 1)) ch y t).1, (rs (wb (z0 1)) ch y t).2.eraseIdx (atS ch (rs (wb (z0 1)) ch y t).2)) else (nU (rs (wb (z0 1)) ch y t).1 ((rs (wb (z0 1)) ch y t).2.getD (atS ch (rs (wb (z0 1)) ch y t).2) 0) (tog (wb (z0 1)) (rs (wb (z0 1)) ch y t).1 y ((rs (wb (z0 1)) ch y t).2.getD (atS ch (rs (wb (z0 1)) ch y t).2) 0)), wkS (wb (z0 1)) ((rs (wb (z0 1)) ch y t).2.getD (atS ch (rs (wb (z0 1)) ch y t).2) 0) y ((rs (wb (z0 1)) ch y t).2.eraseIdx (atS ch (rs (wb (z0 1)) ch y t).2)) (wb (z0 1) 0 2)) := rfl
      have hnd : ((rs (wb (z0 1)) ch y t).2.eraseIdx (atS ch (rs (wb (z0 1)) ch y t).2)).Nodup := o1.sublist (List.eraseIdx_sublist _ _)
      have hl2 : ∀ x ∈ (rs (wb (z0 1)) ch y t).2.eraseIdx (atS ch (rs (wb (z0 1)) ch y t).2), x < 10 := fun x hx => hl10 x ((List.eraseIdx_sublist _ _).mem hx)
      rw [hst] at er
      clear hst
      generalize hp : (rs (wb (z0 1)) ch y t).2.getD (atS ch (rs (wb (z0 1)) ch y t).2) 0 = p at *
      have hb1 : BdS (z1 1) := by rw [r1]; exact hb
      obtain ⟨z2, m1, m2, m3, m4⟩ := m_gathers_s (z := z1) (jj := jj) hj0 hb1 (p := p) (y := y) (by omega) (fun w hw _ => by
        rw [r1] at hw ⊢
        have h4 := (hv w hw).1
        have h6 := o3 (wb (z0 1) 4 w)
        rw [rj, (hF _ (by omega)).1, (hF _ (by omega)).2]
        omega)
      have ht2 : tg (wb (z1 1)) (fc (z1 jj)) y p (z1 1 2) = tg (wb (z0 1)) (rs (wb (z0 1)) ch y t).1 y p (wb (z0 1) 0 2) := by
        rw [r1, rj]
        exact tg_congr _ (fun w hw _ => fc_of hF (by have := (hv w hw).1; omega))
      rw [ht2] at m3 m4
      have hb2 := tg_b hB (rs (wb (z0 1)) ch y t).1 y p (wb (z0 1) 0 2)
      have hq1 : z2 jj p = (rs (wb (z0 1)) ch y t).1 p / 256 := by rw [m2.1 jj hj0, rj]; exact (hF p (by omega)).1
      have hq2 : z2 jj (10 + p) = (rs (wb (z0 1)) ch y t).1 p % 256 := by rw [m2.1 jj hj0, rj]; exact (hF p (by omega)).2
      have r2 : z2 1 = z0 1 := (m2.1 1 (by decide)).trans r1
      have hS2 : SmW jj z0 z2 := hS.tr (SmW.tr ⟨fun i a b _ => k3 i a b, fun k _ _ _ _ e => k4 k e⟩ m2.w)
      have hQ2 : Qm z2 ((rs (wb (z0 1)) ch y t).2.eraseIdx (atS ch (rs (wb (z0 1)) ch y t).2)) := by
        obtain ⟨x1, x2, x3⟩ := k2
        exact ⟨by rw [m2.2 16 (by decide) (by decide) (by decide) (by decide)]; exact x1, x2, fun i hi => by rw [m2.1 9 (by decide)]; exact x3 i hi⟩
      have hF2 : Fm (z2 jj) (rs (wb (z0 1)) ch y t).1 := fun x hx => by rw [m2.1 jj hj0, rj]; exact hF x hx
      have e0 : lp_m_works_61 jj (nI ch) y k_m_works_61 (fu + 1) (nI t) (nO z) = if tog (wb (z0 1)) (rs (wb (z0 1)) ch y t).1 y p = (rs (wb (z0 1)) ch y t).1 p then lp_m_works_61 jj (nI ch) y k_m_works_61 fu (nI (t + 1)) (nO z2) else lp_m_works_141 y (nI p, nO z1) (k_m_works_141 (nI t) (lp_m_works_61 jj (nI ch) y k_m_works_61 fu)) 10000 0 (nO (rN z2 jj (nU (nU (z2 jj) p (z2 0 13)) (10 + p) (z2 0 14)))) := by
        have ew : sA (sA (nO z2) jj (upd (nO z2 jj) p (nO z2 0 13))) jj (upd (upd (nO z2 jj) p (nO z2 0 13)) (10 + p) (nO z2 0 14)) = nO (rN z2 jj (nU (nU (z2 jj) p (z2 0 13)) (10 + p) (z2 0 14))) := by
          rw [sA_sA, show nO z2 0 13 = nI (z2 0 13) from rfl, show nO z2 0 14 = nI (z2 0 14) from rfl, upd_nO, upd_fn, sA_nO]
        rw [lp_m_works_61, if_neg (by rw [show nO z 0 16 = nI (rs (wb (z0 1)) ch y t).2.length from congrArg nI hQ.1]; exact fun q => nI_nle hpos (by have := hQ.2.1; omega) q), show (2000 : Int32) = nI 2000 from rfl, if_neg (nle (by omega) (by decide)), bd_s k1]
        try dsimp only
        rw [bd_s m1, ix10, cl (by omega), cl (by omega), nI_1]
        simp only [gd_t (ck_nI (show p < 20 by omega) (by decide)), gd_t (ck_nI (show 10 + p < 20 by omega) (by decide))]
        rw [ew]
        rw [show nO z2 0 13 = nI (z2 0 13) from rfl, show nO z2 0 14 = nI (z2 0 14) from rfl, show nO z2 jj p = nI (z2 jj p) from rfl, show nO z2 jj (10 + p) = nI (z2 jj (10 + p)) from rfl]
        simp only [nI_eq (show z2 0 13 < 2 ^ 31 by rw [m3]; omega) (show z2 jj p < 2 ^ 31 by rw [hq1]; omega), nI_eq (show z2 0 14 < 2 ^ 31 by rw [m4]; omega) (show z2 jj (10 + p) < 2 ^ 31 by rw [hq2]; omega)]
        rw [m3, m4, hq1, hq2]
        have hdef : tog (wb (z0 1)) (rs (wb (z0 1)) ch y t).1 y p = (tg (wb (z0 1)) (rs (wb (z0 1)) ch y t).1 y p (wb (z0 1) 0 2)).1 * 256 + (tg (wb (z0 1)) (rs (wb (z0 1)) ch y t).1 y p (wb (z0 1) 0 2)).2 := rfl
        by_cases c1 : (tg (wb (z0 1)) (rs (wb (z0 1)) ch y t).1 y p (wb (z0 1) 0 2)).1 = (rs (wb (z0 1)) ch y t).1 p / 256
        · rw [if_pos c1]
          by_cases c2 : (tg (wb (z0 1)) (rs (wb (z0 1)) ch y t).1 y p (wb (z0 1) 0 2)).2 = (rs (wb (z0 1)) ch y t).1 p % 256
          · rw [if_pos c2, if_pos (by omega)]
          · rw [if_neg c2, if_neg (by omega)]
        · rw [if_neg c1, if_neg (by omega)]
      by_cases q : tog (wb (z0 1)) (rs (wb (z0 1)) ch y t).1 y p = (rs (wb (z0 1)) ch y t).1 p
      · rw [if_pos q] at er
        obtain ⟨T, z', x1, x2, x3, x4, x5, x6⟩ := ih (t + 1) fu z2 (by omega) (by omega) (by
          rw [er]
          exact ⟨hS2, hQ2, hF2⟩)
        refine ⟨T, z', by omega, x2, fun u h1 h2 => ?_, x4, by rw [e0, if_pos q]; exact x5, x6⟩
        rcases Nat.lt_or_ge t u with g | g
        · exact x3 u g h2
        · rw [show u = t by omega]; exact he
      · rw [if_neg q] at er
        obtain ⟨z3, hz3⟩ : ∃ z3, z3 = rN z2 jj (nU (nU (z2 jj) p (z2 0 13)) (10 + p) (z2 0 14)) := ⟨_, rfl⟩
        have s3 : ∀ i, i ≠ jj → z3 i = z2 i := fun i hi => by rw [hz3, rN_n hi]
        have hQ3 : Qm z3 ((rs (wb (z0 1)) ch y t).2.eraseIdx (atS ch (rs (wb (z0 1)) ch y t).2)) := by
          obtain ⟨x1, x2, x3⟩ := hQ2
          exact ⟨by rw [s3 0 (Ne.symm hj0)]; exact x1, x2, fun i hi => by rw [s3 9 (Ne.symm hj9)]; exact x3 i hi⟩
        obtain ⟨z4, w1, w2, w3, w4⟩ := m_wake_s hb hj9 hj1 (z := z3) (q78 := (nI p, nO z1)) (y := y) (p := p) rfl (by rw [s3 1 (Ne.symm hj1)]; exact r2) hQ3 hnd hl2 (by omega) (k_m_works_141 (nI t) (lp_m_works_61 jj (nI ch) y k_m_works_61 fu))
        obtain ⟨T, z', x1, x2, x3, x4, x5, x6⟩ := ih (t + 1) fu z4 (by omega) (by omega) (by
          rw [er]
          refine ⟨hS2.tr ⟨fun i a b c => (w3 i a b).trans (s3 i c), fun k _ _ _ _ e => (w4 k e).trans (by rw [s3 0 (Ne.symm hj0)])⟩, w2, fun x hx => ?_⟩
          rw [w3 jj hj0 hj9, hz3, rN_s]
          show nU _ _ _ x = nU _ p _ x / 256 ∧ nU _ _ _ (10 + x) = nU _ p _ x % 256
          have hdef : tog (wb (z0 1)) (rs (wb (z0 1)) ch y t).1 y p = (tg (wb (z0 1)) (rs (wb (z0 1)) ch y t).1 y p (wb (z0 1) 0 2)).1 * 256 + (tg (wb (z0 1)) (rs (wb (z0 1)) ch y t).1 y p (wb (z0 1) 0 2)).2 := rfl
          by_cases c : x = p
          · subst c
            rw [nU_n (by omega), nU_s, nU_s, nU_s, m3, m4]
            omega
          · rw [nU_n (by omega), nU_n c, nU_n c, nU_n (by omega), nU_n (by omega)]
            exact hF2 x hx)
        refine ⟨T, z', by omega, x2, fun u h1 h2 => ?_, x4, ?_, x6⟩
        · rcases Nat.lt_or_ge t u with g | g
          · exact x3 u g h2
          · rw [show u = t by omega]; exact he
        · rw [e0, if_neg q, ← hz3, w1, k_m_works_141, nI_1]
          exact x5
theorem m_works_s {z0 : NO} (hb : BdS (z0 1)) (hv : LV (wb (z0 1))) {jj : Nat} (hj0 : jj ≠ 0) (hj9 : jj ≠ 9) (hj1 : jj ≠ 1) {ch : Nat} (hc : ch < 3) {y : Int32} : ∃ T z', Fin' (wb (z0 1)) ch y T ∧ f_m_works jj (nO z0) (nI ch) y = some (sT (rs (wb (z0 1)) ch y T) T, nO z') ∧ Rm jj z0 z' (rs (wb (z0 1)) ch y T) := by
  unfold f_m_works
  have hP := hb.2.1
  obtain ⟨s, ⟨z1, rfl, i1, i2⟩, i4⟩ := lp_inv (F := fun fu i (s : Ob) => lp_m_works_3 jj (k_m_works_3 jj (nI ch) y) fu i s) (N := 20) (inv := fun i s => ∃ z', s = nO z' ∧ (∀ j, j ≠ jj → z' j = z0 j) ∧ ∀ j, j < i → z' jj j = 0) (ke := fun s => k_m_works_3 jj (nI ch) y (nI 20) s)
    (by
      rintro fu i s hi ⟨z', rfl, e1, e2⟩
      try dsimp only
      rw [lp_m_works_3, show (20 : Int32) = nI 20 from rfl, if_neg (nle hi (by decide)), gd_t (ck_nI hi (by decide)), cl (by omega), nI_1, show (0 : Int32) = nI 0 from rfl, sAu]
      refine ⟨_, ⟨_, rfl, fun j hj => by rw [rN_n hj]; exact e1 j hj, fun j hj => ?_⟩, rfl⟩
      rw [rN_s]
      by_cases c : j = i
      · rw [c, nU_s]
      · rw [nU_n c]; exact e2 j (by omega))
    (by
      intro fu s hs
      try dsimp only
      rw [lp_m_works_3, show (20 : Int32) = nI 20 from rfl, if_pos (nlr (by decide))]) 10000 0 (nO z0) ⟨z0, rfl, fun _ _ => rfl, fun j hj => by omega⟩ (by omega) (by omega)
  obtain ⟨s, ⟨z2, rfl, j1, j2, j3⟩, j4⟩ := lp_inv (F := fun fu i (s : Ob) => lp_m_works_34 (k_m_works_34 jj (nI ch) y) fu i s) (N := z0 1 1) (inv := fun i s => ∃ z', s = nO z' ∧ (∀ j, j ≠ 9 → j ≠ 0 → z' j = z1 j) ∧ z' 0 = nU (z0 0) 16 (z0 1 1) ∧ ∀ j, j < i → z' 9 j = j) (ke := fun s => lp_m_works_61 jj (nI ch) y k_m_works_61 10000 0 s)
    (by
      rintro fu i s hi ⟨z', rfl, e1, e2, e3⟩
      try dsimp only
      rw [lp_m_works_34, show nO z' 0 16 = nI (z0 1 1) from congrArg nI (by rw [e2, nU_s]), if_neg (nle hi (by omega)), gd_t (ck_nI (by omega) (by decide)), cl (by omega), nI_1, sAu]
      refine ⟨_, ⟨_, rfl, fun j a b => by rw [rN_n a]; exact e1 j a b, by rw [rN_n (by decide)]; exact e2, fun j hj => ?_⟩, rfl⟩
      rw [rN_s]
      by_cases c : j = i
      · rw [c, nU_s]
      · rw [nU_n c]; exact e3 j (by omega))
    (by
      rintro fu s ⟨z', rfl, e1, e2, e3⟩
      try dsimp only
      rw [lp_m_works_34, show nO z' 0 16 = nI (z0 1 1) from congrArg nI (by rw [e2, nU_s]), if_pos (nlr (by omega)), k_m_works_34]) 10000 0 (sI (nO z1) 16 ((nO z1 1) (Int32.toNatClampNeg 1)))
    (by
      rw [c1, show nO z1 1 1 = nI (z0 1 1) from congrArg nI (by rw [i1 1 (Ne.symm hj1)]), sIu]
      exact ⟨_, rfl, fun j a b => rN_n b, by rw [rN_s, i1 0 (Ne.symm hj0)], fun j hj => by omega⟩) (by omega) (by omega)
  have hR : Rm jj z0 z2 (rs (wb (z0 1)) ch y 0) := by
    refine ⟨⟨fun i a b c => (j1 i b a).trans (i1 i c), fun k _ _ _ _ e => by rw [j2, nU_n e]⟩, ⟨?_, ?_, fun i hi => ?_⟩, fun p hp => ?_⟩
    · rw [j2, nU_s]
      show z0 1 1 = (List.range (z0 1 1)).length
      rw [List.length_range]
    · show (List.range (z0 1 1)).length ≤ 10
      rw [List.length_range]; exact hP
    · have hi' : i < z0 1 1 := by
        have : i < (List.range (z0 1 1)).length := hi
        rwa [List.length_range] at this
      rw [j3 i hi']
      show i = (List.range (z0 1 1)).getD i 0
      rw [List.getD_eq_getElem?_getD, List.getElem?_range hi']
      rfl
    · rw [j1 jj hj9 hj0]
      rw [rs]
      show z1 jj p = 0 / 256 ∧ z1 jj (10 + p) = 0 % 256
      exact ⟨i2 p (by omega), i2 (10 + p) (by omega)⟩
  obtain ⟨T, z', r1, r2, r3, r4, r5, r6⟩ := works_loop hb hv hj0 hj9 hj1 hc 2000 0 10000 z2 rfl (by decide) hR
  refine ⟨T, z', ⟨r2, fun u hu => r3 u (Nat.zero_le _) hu, r4⟩, ?_, r6⟩
  refine Eq.trans i4 ?_
  rw [k_m_works_3]
  refine Eq.trans j4 (Eq.trans r5 ?_)
  unfold k_m_works_61 sT
  by_cases c : (rs (wb (z0 1)) ch y T).2 = []
  · rw [if_pos c, if_pos (by rw [show nO z' 0 16 = nI 0 from congrArg nI (by rw [r6.2.1.1, c]; rfl)]; exact nlr (a := 0) (by decide))]
  · rw [if_neg c, if_neg (by rw [show nO z' 0 16 = nI (rs (wb (z0 1)) ch y T).2.length from congrArg nI r6.2.1.1]; exact fun q => nI_nle (List.length_pos_iff.mpr c) (by have := r6.2.1.2.1; omega) q)]
