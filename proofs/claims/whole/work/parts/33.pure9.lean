/-! the class: all is worked -/
noncomputable def stp (a : NO) (ch : Nat) (y : Int32) (s : (Nat → Nat) × List Nat) : (Nat → Nat) × List Nat :=
  if tog a s.1 y (s.2.getD (atS ch s.2) 0) = s.1 (s.2.getD (atS ch s.2) 0) then (s.1, s.2.eraseIdx (atS ch s.2))
  else (nU s.1 (s.2.getD (atS ch s.2) 0) (tog a s.1 y (s.2.getD (atS ch s.2) 0)), wkS a (s.2.getD (atS ch s.2) 0) y (s.2.eraseIdx (atS ch s.2)) (a 0 2))
noncomputable def rs (a : NO) (ch : Nat) (y : Int32) : Nat → (Nat → Nat) × List Nat
  | 0 => (fun _ => 0, List.range (a 0 1))
  | n + 1 => stp a ch y (rs a ch y n)
def LV (a : NO) : Prop := ∀ w, w < a 0 2 → a 4 w < a 0 1 ∧ a 5 w < a 0 1
def OKs (a : NO) (s : (Nat → Nat) × List Nat) : Prop := s.2.Nodup ∧ (∀ x ∈ s.2, x < a 0 1) ∧ ∀ p, s.1 p < 2048
theorem stp_ok {a : NO} (hb : Bd a) (hv : LV a) {ch : Nat} {y : Int32} {s : (Nat → Nat) × List Nat} (h : OKs a s) : OKs a (stp a ch y s) := by
  obtain ⟨h1, h2, h3⟩ := h
  have e1 : (s.2.eraseIdx (atS ch s.2)).Nodup := h1.sublist (List.eraseIdx_sublist _ _)
  have e2 : ∀ x ∈ s.2.eraseIdx (atS ch s.2), x < a 0 1 := fun x hx => h2 x ((List.eraseIdx_sublist _ _).mem hx)
  unfold stp
  by_cases c : tog a s.1 y (s.2.getD (atS ch s.2) 0) = s.1 (s.2.getD (atS ch s.2) 0)
  · rw [if_pos c]
    exact ⟨e1, e2, h3⟩
  · rw [if_neg c]
    obtain ⟨g1, g2⟩ := wkS_ok (a := a) (p := s.2.getD (atS ch s.2) 0) (y := y) e1 e2 (a 0 2) (fun w hw => (hv w hw).2)
    refine ⟨g1, g2, fun p => ?_⟩
    show nU s.1 _ _ p < 2048
    unfold nU
    by_cases q : p = s.2.getD (atS ch s.2) 0
    · rw [if_pos q]; exact tog_lt hb _ _ _
    · rw [if_neg q]; exact h3 p
theorem rs_ok {a : NO} (hb : Bd a) (hv : LV a) (ch : Nat) (y : Int32) : ∀ n, OKs a (rs a ch y n)
  | 0 => ⟨List.nodup_range, fun x hx => List.mem_range.mp hx, fun _ => (by decide : 0 < 2048)⟩
  | n + 1 => stp_ok hb hv (rs_ok hb hv ch y n)
def Rc (a : NO) (wk : Ob) (s : (Nat → Nat) × List Nat) : Prop := Qc wk s.2 ∧ ∀ p, p < a 0 1 → wk 1 p = nI (s.1 p)
theorem run_loop {a : NO} (hb : Bd a) (hv : LV a) {ch : Nat} (hc : ch < 3) {y : Int32} : ∀ (n t fu : Nat) (wk : Ob), t + n = 2000 → n < fu → Rc a wk (rs a ch y t) →
    ∃ T wk', t ≤ T ∧ T ≤ 2000 ∧ (∀ u, t ≤ u → u < T → (rs a ch y u).2 ≠ []) ∧ ((rs a ch y T).2 = [] ∨ T = 2000) ∧ lp_run_46 (nO a) (nI ch) y k_run_46 fu (nI t) wk = k_run_46 (nI T) wk' ∧ Rc a wk' (rs a ch y T) := by
  intro n
  induction n with
  | zero =>
    intro t fu wk ht hf hR
    obtain ⟨fu, rfl⟩ : ∃ k, fu = k + 1 := ⟨fu - 1, by omega⟩
    refine ⟨t, wk, Nat.le_refl _, by omega, fun u h1 h2 => by omega, Or.inr (by omega), ?_, hR⟩
    rw [lp_run_46]
    by_cases c : wk 0 0 ≤ 0
    · rw [if_pos c]
    · rw [if_neg c, show t = 2000 by omega, show (2000 : Int32) = nI 2000 from rfl, if_pos (nlr (by decide))]
  | succ n ih =>
    intro t fu wk ht hf hR
    obtain ⟨fu, rfl⟩ : ∃ k, fu = k + 1 := ⟨fu - 1, by omega⟩
    obtain ⟨o1, o2, o3⟩ := rs_ok hb hv ch y t
    have hP := hb.2.1
    by_cases he : (rs a ch y t).2 = []
    · refine ⟨t, wk, Nat.le_refl _, by omega, fun u h1 h2 => by omega, Or.inl he, ?_, hR⟩
      rw [lp_run_46, if_pos (by rw [hR.1.1, he]; exact nlr (a := 0) (by decide))]
    · have hpos : 0 < (rs a ch y t).2.length := List.length_pos_iff.mpr he
      obtain ⟨hQ, hF⟩ := hR
      have hat := atS_lt (ch := ch) hpos
      have hmem := gD hat
      have hpP := o2 _ hmem
      have hl10 : ∀ x ∈ (rs a ch y t).2, x < 10 := fun x hx => by have := o2 x hx; omega
      obtain ⟨wk1, k1, k2, k3⟩ := takeNext_s hQ hl10 hpos hc
      have htog : f_together (nO a) (wk1 1) (nI ((rs a ch y t).2.getD (atS ch (rs a ch y t).2) 0)) y = some (nI (tog a (rs a ch y t).1 y ((rs a ch y t).2.getD (atS ch (rs a ch y t).2) 0))) :=
        f_together_s hb (by omega) (fun w hw _ => by rw [k3]; exact ⟨hF _ (hv w hw).1, o3 _⟩)
      have hlt := tog_lt hb (rs a ch y t).1 y ((rs a ch y t).2.getD (atS ch (rs a ch y t).2) 0)
      have h3 := o3 ((rs a ch y t).2.getD (atS ch (rs a ch y t).2) 0)
      have er : rs a ch y (t + 1) = stp a ch y (rs a ch y t) := rfl
      generalize hp : (rs a ch y t).2.getD (atS ch (rs a ch y t).2) 0 = p at *
      have e0 : lp_run_46 (nO a) (nI ch) y k_run_46 (fu + 1) (nI t) wk = if tog a (rs a ch y t).1 y p = (rs a ch y t).1 p then lp_run_46 (nO a) (nI ch) y k_run_46 fu (nI (t + 1)) wk1 else bd (f_wakeBehind (sA wk1 1 (upd (wk1 1) p (nI (tog a (rs a ch y t).1 y p)))) (nO a) (nI p) y) (fun q110 => lp_run_46 (nO a) (nI ch) y k_run_46 fu (nI (t + 1)) q110) := by
        rw [lp_run_46, if_neg (by rw [hQ.1]; exact fun q => nI_nle hpos (by have := hQ.2.1; omega) q), show (2000 : Int32) = nI 2000 from rfl, if_neg (nle (by omega) (by decide)), bd_s k1]
        try dsimp only
        rw [bd_s htog, gd_t (ck_nI (show p < 10 by omega) (by decide)), cl (by omega), nI_1]
        have ewk : wk1 1 p = nI ((rs a ch y t).1 p) := by rw [k3]; exact hF p hpP
        simp only [ewk, nI_eq (show tog a (rs a ch y t).1 y p < 2 ^ 31 by omega) (show (rs a ch y t).1 p < 2 ^ 31 by omega), gd_t (ck_nI (show p < 10 by omega) (by decide))]
      by_cases q : tog a (rs a ch y t).1 y p = (rs a ch y t).1 p
      · have es : rs a ch y (t + 1) = ((rs a ch y t).1, (rs a ch y t).2.eraseIdx (atS ch (rs a ch y t).2)) := by
          rw [er]; unfold stp; rw [hp, if_pos q]
        obtain ⟨T, wk', r1, r2, r3, r4, r5, r6⟩ := ih (t + 1) fu wk1 (by omega) (by omega) (by
          rw [es]
          exact ⟨k2, fun x hx => by rw [k3]; exact hF x hx⟩)
        refine ⟨T, wk', by omega, r2, fun u h1 h2 => ?_, r4, by rw [e0, if_pos q]; exact r5, r6⟩
        rcases Nat.lt_or_ge t u with g | g
        · exact r3 u g h2
        · rw [show u = t by omega]; exact he
      · have es : rs a ch y (t + 1) = (nU (rs a ch y t).1 p (tog a (rs a ch y t).1 y p), wkS a p y ((rs a ch y t).2.eraseIdx (atS ch (rs a ch y t).2)) (a 0 2)) := by
          rw [er]; unfold stp; rw [hp, if_neg q]
        have hnd : ((rs a ch y t).2.eraseIdx (atS ch (rs a ch y t).2)).Nodup := o1.sublist (List.eraseIdx_sublist _ _)
        have hl2 : ∀ x ∈ (rs a ch y t).2.eraseIdx (atS ch (rs a ch y t).2), x < 10 := fun x hx => hl10 x ((List.eraseIdx_sublist _ _).mem hx)
        obtain ⟨wk2, m1, m2, m3⟩ := wake_s hb (wk := sA wk1 1 (upd (wk1 1) p (nI (tog a (rs a ch y t).1 y p)))) (y := y) (p := p) k2 hnd hl2 (by omega)
        obtain ⟨T, wk', r1, r2, r3, r4, r5, r6⟩ := ih (t + 1) fu wk2 (by omega) (by omega) (by
          rw [es]
          refine ⟨m2, fun x hx => ?_⟩
          rw [m3, sA_s]
          show upd (wk1 1) p _ x = nI (nU (rs a ch y t).1 p _ x)
          unfold upd nU
          by_cases c : x = p
          · rw [if_pos c, if_pos c]
          · rw [if_neg c, if_neg c, k3]; exact hF x hx)
        refine ⟨T, wk', by omega, r2, fun u h1 h2 => ?_, r4, by rw [e0, if_neg q, bd_s m1]; exact r5, r6⟩
        rcases Nat.lt_or_ge t u with g | g
        · exact r3 u g h2
        · rw [show u = t by omega]; exact he
/-- where it stops -/
def Fin' (a : NO) (ch : Nat) (y : Int32) (T : Nat) : Prop := T ≤ 2000 ∧ (∀ u, u < T → (rs a ch y u).2 ≠ []) ∧ ((rs a ch y T).2 = [] ∨ T = 2000)
theorem Fin'.eq {a b : NO} {ch : Nat} {y : Int32} {T T' : Nat} (h : Fin' a ch y T) (h' : Fin' b ch y T') (e : ∀ n, (rs a ch y n).2 = (rs b ch y n).2) : T = T' := by
  obtain ⟨h1, h2, h3⟩ := h
  obtain ⟨g1, g2, g3⟩ := h'
  rcases Nat.lt_trichotomy T T' with q | q | q
  · rcases h3 with h3 | h3
    · exact absurd (by rw [← e]; exact h3) (g2 T q)
    · omega
  · exact q
  · rcases g3 with g3 | g3
    · exact absurd (by rw [e]; exact g3) (h2 T' q)
    · omega
/-- the answer: how many steps, or -1 -/
noncomputable def sT (s : (Nat → Nat) × List Nat) (T : Nat) : Int32 := @ite _ (s.2 = []) (Classical.propDecidable _) (nI T) (-1)
theorem f_run_s {a : NO} (hb : Bd a) (hv : LV a) {ch : Nat} (hc : ch < 3) {y : Int32} (wk : Ob) : ∃ T wk', Fin' a ch y T ∧ f_run wk (nO a) (nI ch) y = some (sT (rs a ch y T) T, wk') ∧ Rc a wk' (rs a ch y T) := by
  unfold f_run
  have hP := hb.2.1
  obtain ⟨s, ⟨i1, i2, i3⟩, i4⟩ := lp_inv (F := fun fu i (s : Ob) => lp_run_11 (nO a) (k_run_11 (nO a) (nI ch) y) fu i s) (N := a 0 1) (inv := fun i s => s 0 0 = nI (a 0 1) ∧ (∀ j, j < i → s 1 j = nI 0) ∧ ∀ j, j < i → s 2 j = nI j) (ke := fun s => lp_run_46 (nO a) (nI ch) y k_run_46 10000 0 s)
    (by
      rintro fu i s hi ⟨e1, e2, e3⟩
      try dsimp only
      rw [lp_run_11, if_neg (show ¬ nO a 0 1 ≤ nI i from nle hi (by omega)), gd_t (ck_nI (by omega) (by decide)), gd_t (ck_nI (by omega) (by decide)), cl (by omega), nI_1]
      refine ⟨sA (sA s 1 (upd (s 1) i 0)) 2 (upd (s 2) i (nI i)), ⟨e1, fun j hj => ?_, fun j hj => ?_⟩, rfl⟩
      · rw [sA_n _ _ (by decide), sA_s]
        unfold upd
        by_cases c : j = i
        · rw [if_pos c]; rfl
        · rw [if_neg c]; exact e2 j (by omega)
      · rw [sA_s]
        unfold upd
        by_cases c : j = i
        · rw [if_pos c, c]
        · rw [if_neg c]; exact e3 j (by omega))
    (by
      intro fu s hs
      try dsimp only
      rw [lp_run_11, if_pos (show nO a 0 1 ≤ nI (a 0 1) from nlr (by omega)), k_run_11]) 10000 0 (sI wk 0 (nO a 0 1)) ⟨rfl, fun j hj => by omega, fun j hj => by omega⟩ (by omega) (by omega)
  have hR : Rc a s (rs a ch y 0) := by
    refine ⟨⟨by rw [i1]; show nI (a 0 1) = nI (List.range (a 0 1)).length; rw [List.length_range], by show (List.range (a 0 1)).length ≤ 10; rw [List.length_range]; exact hP, fun j hj => ?_⟩, fun p hp => i2 p hp⟩
    have hj' : j < a 0 1 := by
      have : j < (List.range (a 0 1)).length := hj
      rwa [List.length_range] at this
    rw [i3 j hj']
    show nI j = nI ((List.range (a 0 1)).getD j 0)
    rw [List.getD_eq_getElem?_getD, List.getElem?_range hj']
    rfl
  obtain ⟨T, wk', r1, r2, r3, r4, r5, r6⟩ := run_loop hb hv hc 2000 0 10000 s rfl (by decide) hR
  refine ⟨T, wk', ⟨r2, fun u hu => r3 u (Nat.zero_le _) hu, r4⟩, ?_, r6⟩
  refine Eq.trans i4 (Eq.trans r5 ?_)
  unfold k_run_46 sT
  by_cases c : (rs a ch y T).2 = []
  · rw [if_pos c, if_pos (by rw [r6.1.1, c]; exact nlr (a := 0) (by decide))]
  · rw [if_neg c, if_neg (by rw [r6.1.1]; exact fun q => nI_nle (List.length_pos_iff.mpr c) (by have := r6.1.2.1; omega) q)]
