/-! the class: one is taken, others wake -/
theorem takeNext_s {wk : Ob} {l : List Nat} {ch : Nat} (h : Qc wk l) (hl : ∀ x ∈ l, x < 10) (h0 : 0 < l.length) (hc : ch < 3) :
    ∃ wk', f_takeNext wk (nI ch) = some (nI (l.getD (atS ch l) 0), wk') ∧ Qc wk' (l.eraseIdx (atS ch l)) ∧ wk' 1 = wk 1 := by
  have h' := h
  obtain ⟨h1, h2, h3⟩ := h
  have ha := atS_lt (ch := ch) h0
  have e1 : (wk 0 0) - 1 = nI (l.length - 1) := by
    rw [h1, show l.length = l.length - 1 + 1 by omega, nI_pred]
    simp
  have step : ∀ (at0 : Nat) (kk : Int32 → Ob → Option (Int32 × Ob)), at0 < l.length → ∃ wk', lp_takeNext_47 kk 10000 (nI at0) (sI wk 0 ((wk 0 0) - 1)) = kk (nI (l.length - 1)) wk' ∧ Qc wk' (l.eraseIdx at0) ∧ wk' 1 = wk 1 := by
    intro at0 kk hat
    obtain ⟨wk', g1, g2, g3⟩ := shift_s (F := fun fu x w => lp_takeNext_47 kk fu x w) (l := l) (wk := sI wk 0 ((wk 0 0) - 1)) (at0 := at0) (r := 2) (n0 := 0) kk (by decide) h2 hat
      (fun fu x w => by rw [lp_takeNext_47]) (by
        show sI wk 0 ((wk 0 0) - 1) 0 0 = _
        rw [show sI wk 0 ((wk 0 0) - 1) 0 0 = (wk 0 0) - 1 from rfl, e1]) (fun i hi => h3 i hi)
    refine ⟨wk', g1, ⟨?_, ?_, fun i hi => ?_⟩, ?_⟩
    · rw [g2 0 (by decide), show sI wk 0 ((wk 0 0) - 1) 0 0 = (wk 0 0) - 1 from rfl, e1, List.length_eraseIdx_of_lt hat]
    · rw [List.length_eraseIdx_of_lt hat]; omega
    · rw [List.length_eraseIdx_of_lt hat] at hi
      exact g3 i hi
    · rw [g2 1 (by decide)]
      rfl
  unfold f_takeNext
  rw [show (0 : Int32) = nI 0 from rfl, show (1 : Int32) = nI 1 from rfl]
  simp only [nI_eq (show ch < 2 ^ 31 by omega) (show 0 < 2 ^ 31 by decide), nI_eq (show ch < 2 ^ 31 by omega) (show 1 < 2 ^ 31 by decide)]
  by_cases q0 : ch = 0
  · have ea : atS ch l = lwi l l.length := if_pos q0
    rw [if_pos q0, bd_s (least_s h' hl h0), gd_t (ck_nI (by rw [← ea]; omega) (by decide))]
    obtain ⟨wk', g1, g2, g3⟩ := step (lwi l l.length) (k_takeNext_47_v2 wk (nI (lwi l l.length))) (by rw [← ea]; exact ha)
    refine ⟨wk', ?_, by rw [ea]; exact g2, g3⟩
    refine Eq.trans g1 ?_
    rw [k_takeNext_47_v2, cl (by rw [← ea]; omega), ea, h3 _ (by rw [← ea]; exact ha)]
  · rw [if_neg q0]
    by_cases q1 : ch = 1
    · have ea : atS ch l = 0 := by unfold atS; rw [if_neg q0, if_pos q1]
      rw [if_pos q1]
      obtain ⟨wk', g1, g2, g3⟩ := step 0 (k_takeNext_47_v1 wk) h0
      refine ⟨wk', ?_, by rw [ea]; exact g2, g3⟩
      refine Eq.trans g1 ?_
      rw [k_takeNext_47_v1, c0, ea, h3 0 h0]
    · have ea : atS ch l = l.length - 1 := by unfold atS; rw [if_neg q0, if_neg q1]
      rw [if_neg q1, show (wk 0 0) - nI 1 = nI (l.length - 1) from e1, gd_t (ck_nI (by omega) (by decide))]
      obtain ⟨wk', g1, g2, g3⟩ := step (l.length - 1) (k_takeNext_47 wk) (by omega)
      refine ⟨wk', ?_, by rw [ea]; exact g2, g3⟩
      rw [e1] at g1
      refine Eq.trans g1 ?_
      rw [k_takeNext_47, e1, cl (by omega), ea, h3 _ (by omega)]
/-- those that wait when p has changed and i ways have been gone through -/
noncomputable def wkS (a : NO) (p : Nat) (y : Int32) (l : List Nat) : Nat → List Nat
  | 0 => l
  | i + 1 => @ite _ (a 4 i = p ∧ ¬ nI i = y ∧ ¬ a 5 i ∈ wkS a p y l i) (Classical.propDecidable _) (wkS a p y l i ++ [a 5 i]) (wkS a p y l i)
theorem wkS_ok {a : NO} {p : Nat} {y : Int32} {l : List Nat} {P : Nat} (hl : l.Nodup) (hx : ∀ x ∈ l, x < P) : ∀ i, (∀ w, w < i → a 5 w < P) → (wkS a p y l i).Nodup ∧ ∀ x ∈ wkS a p y l i, x < P
  | 0, _ => ⟨hl, hx⟩
  | i + 1, h => by
    obtain ⟨h1, h2⟩ := wkS_ok hl hx i (fun w hw => h w (by omega))
    unfold wkS
    by_cases c : a 4 i = p ∧ ¬ nI i = y ∧ ¬ a 5 i ∈ wkS a p y l i
    · rw [if_pos c]
      refine ⟨List.nodup_append.mpr ⟨h1, by simp, fun x q1 z q2 => ?_⟩, fun x q => ?_⟩
      · rw [List.mem_singleton] at q2
        rw [q2]
        intro e
        rw [e] at q1
        exact c.2.2 q1
      · rcases List.mem_append.mp q with q | q
        · exact h2 x q
        · rw [List.mem_singleton] at q
          rw [q]
          exact h i (by omega)
    · rw [if_neg c]
      exact ⟨h1, h2⟩
theorem wake_s {a : NO} (hb : Bd a) {wk : Ob} {l : List Nat} {p : Nat} {y : Int32} (h : Qc wk l) (hn : l.Nodup) (hl : ∀ x ∈ l, x < 10) (hp : p < 10) :
    ∃ wk', f_wakeBehind wk (nO a) (nI p) y = some wk' ∧ Qc wk' (wkS a p y l (a 0 2)) ∧ wk' 1 = wk 1 := by
  unfold f_wakeBehind
  have hN := hb.2.2.1
  obtain ⟨s, ⟨g1, g2⟩, g3⟩ := lp_inv (F := fun fu i (s : Ob) => lp_wakeBehind_3 (nO a) (nI p) y k_wakeBehind_3 fu i s) (N := a 0 2) (inv := fun i s => Qc s (wkS a p y l i) ∧ s 1 = wk 1) (ke := fun s => some s)
    (by
      rintro fu i s hi ⟨e1, e2⟩
      have h4 := hb.fr i
      have h5 := hb.to i
      obtain ⟨o1, o2⟩ := wkS_ok (a := a) (p := p) (y := y) hn hl i (fun w _ => hb.to w)
      try dsimp only
      have e0 : lp_wakeBehind_3 (nO a) (nI p) y k_wakeBehind_3 (fu + 1) (nI i) s = if a 4 i = p then (if nI i = y then lp_wakeBehind_3 (nO a) (nI p) y k_wakeBehind_3 fu (nI (i + 1)) s else bd (f_isWaiting s (nI (a 5 i))) (fun q37 => if q37 = 0 then (if 10 ≤ (s 0 0) then lp_wakeBehind_3 (nO a) (nI p) y k_wakeBehind_3 fu (nI (i + 1)) s else (gd (ck (s 0 0) 10) (lp_wakeBehind_3 (nO a) (nI p) y k_wakeBehind_3 fu (nI (i + 1)) (sI (sA s 2 (upd (s 2) (Int32.toNatClampNeg (s 0 0)) (nI (a 5 i)))) 0 ((s 0 0) + 1))))) else lp_wakeBehind_3 (nO a) (nI p) y k_wakeBehind_3 fu (nI (i + 1)) s)) else lp_wakeBehind_3 (nO a) (nI p) y k_wakeBehind_3 fu (nI (i + 1)) s := by
        rw [lp_wakeBehind_3, if_neg (show ¬ nO a 0 2 ≤ nI i from nle hi (by omega)), cl (by omega), nI_1]
        simp only [gd_t (ck_nI (show i < 20 by omega) (by decide))]
        show (if nI (a 4 i) = nI p then _ else _) = _
        simp only [nI_eq (show a 4 i < 2 ^ 31 by omega) (show p < 2 ^ 31 by omega)]
        rfl
      rw [e0]
      by_cases q1 : a 4 i = p
      · rw [if_pos q1]
        by_cases q2 : nI i = y
        · rw [if_pos q2]
          exact ⟨s, ⟨by rw [show wkS a p y l (i + 1) = wkS a p y l i from if_neg (fun q => q.2.1 q2)]; exact e1, e2⟩, rfl⟩
        · rw [if_neg q2, bd_s (isW_s e1 o2 h5)]
          by_cases q3 : a 5 i ∈ wkS a p y l i
          · rw [if_neg (by rw [b01_t q3]; decide)]
            exact ⟨s, ⟨by rw [show wkS a p y l (i + 1) = wkS a p y l i from if_neg (fun q => q.2.2 q3)]; exact e1, e2⟩, rfl⟩
          · have ew : wkS a p y l (i + 1) = wkS a p y l i ++ [a 5 i] := if_pos ⟨q1, q2, q3⟩
            have hlen : (wkS a p y l i ++ [a 5 i]).length ≤ 10 := by
              rw [← ew]
              obtain ⟨n1, n2⟩ := wkS_ok (a := a) (p := p) (y := y) hn hl (i + 1) (fun w _ => hb.to w)
              exact nd_len 10 _ n1 n2
            rw [List.length_append, List.length_singleton] at hlen
            obtain ⟨t1, t2, t3⟩ := e1
            rw [if_pos (by rw [b01_f q3]), t1, show (10 : Int32) = nI 10 from rfl, if_neg (nle (by omega) (by decide)), gd_t (ck_nI (by omega) (by decide)), cl (by omega), nI_1]
            refine ⟨_, ⟨?_, ?_⟩, rfl⟩
            · rw [ew]
              refine ⟨?_, by rw [List.length_append, List.length_singleton]; exact hlen, fun j hj => ?_⟩
              · rw [List.length_append, List.length_singleton]
                rfl
              · show upd (s 2) (wkS a p y l i).length (nI (a 5 i)) j = _
                rw [gD_ap]
                rw [List.length_append, List.length_singleton] at hj
                by_cases c : j = (wkS a p y l i).length
                · rw [if_neg (by omega), if_pos c]
                  exact if_pos c
                · rw [if_pos (by omega)]
                  exact Eq.trans (if_neg c) (t3 j (by omega))
            · exact e2
      · rw [if_neg q1]
        exact ⟨s, ⟨by rw [show wkS a p y l (i + 1) = wkS a p y l i from if_neg (fun q => q1 q.1)]; exact e1, e2⟩, rfl⟩)
    (by
      rintro fu s ⟨e1, e2⟩
      try dsimp only
      rw [lp_wakeBehind_3, if_pos (show nO a 0 2 ≤ nI (a 0 2) from nlr (by omega))]
      rfl) 10000 0 wk ⟨h, rfl⟩ (by omega) (by omega)
  exact ⟨s, g3, g1, g2⟩
