/-! those that wait, as a list -/
theorem nd_len : ∀ (n : Nat) (l : List Nat), l.Nodup → (∀ x ∈ l, x < n) → l.length ≤ n
  | 0, l, _, h => by
    cases l with
    | nil => exact Nat.le_refl _
    | cons x l => exact absurd (h x List.mem_cons_self) (by omega)
  | n + 1, l, hd, h => by
    by_cases c : n ∈ l
    · have h1 := nd_len n (l.erase n) (hd.erase n) (fun x hx => by
        have h2 := (hd.mem_erase_iff).mp hx
        have h3 := h x h2.2
        have h4 := h2.1
        omega)
      rw [List.length_erase_of_mem c] at h1
      omega
    · have h1 := nd_len n l hd (fun x hx => by
        have h2 := h x hx
        rcases Nat.lt_or_ge x n with g | g
        · exact g
        · have : x = n := by omega
          subst this
          exact absurd hx c)
      omega
theorem gD {l : List Nat} {i : Nat} (h : i < l.length) : l.getD i 0 ∈ l := by
  rw [List.getD_eq_getElem?_getD, List.getElem?_eq_getElem h]
  exact List.getElem_mem h
theorem gD_mem {l : List Nat} {x : Nat} : x ∈ l ↔ ∃ i, i < l.length ∧ l.getD i 0 = x := by
  constructor
  · intro h
    obtain ⟨i, hi, e⟩ := List.getElem_of_mem h
    exact ⟨i, hi, by rw [List.getD_eq_getElem?_getD, List.getElem?_eq_getElem hi]; exact e⟩
  · rintro ⟨i, hi, rfl⟩
    exact gD hi
theorem gD_er (l : List Nat) (a j : Nat) : (l.eraseIdx a).getD j 0 = if j < a then l.getD j 0 else l.getD (j + 1) 0 := by
  rw [List.getD_eq_getElem?_getD, List.getElem?_eraseIdx]
  by_cases h : j < a
  · rw [if_pos h, if_pos h, List.getD_eq_getElem?_getD]
  · rw [if_neg h, if_neg h, List.getD_eq_getElem?_getD]
theorem gD_ap (l : List Nat) (x j : Nat) : (l ++ [x]).getD j 0 = if j < l.length then l.getD j 0 else if j = l.length then x else 0 := by
  by_cases h : j < l.length
  · rw [if_pos h, List.getD_eq_getElem?_getD, List.getElem?_append_left h, List.getD_eq_getElem?_getD]
  · rw [if_neg h, List.getD_eq_getElem?_getD, List.getElem?_append_right (by omega)]
    by_cases h2 : j = l.length
    · rw [if_pos h2, h2, Nat.sub_self]
      rfl
    · rw [if_neg h2, List.getElem?_eq_none (by simp; omega)]
      rfl
/-- the place of the least, when i have been looked at -/
def lwi (l : List Nat) : Nat → Nat
  | 0 => 0
  | i + 1 => if l.getD (lwi l i) 0 ≤ l.getD i 0 then lwi l i else i
theorem lwi_lt (l : List Nat) : ∀ i, 0 < i → lwi l i < i
  | 0, h => by omega
  | i + 1, _ => by
    unfold lwi
    by_cases c : l.getD (lwi l i) 0 ≤ l.getD i 0
    · rw [if_pos c]
      rcases Nat.eq_zero_or_pos i with g | g
      · subst g; exact Nat.zero_lt_one
      · have := lwi_lt l i g
        omega
    · rw [if_neg c]
      omega
/-- which is taken -/
def atS (ch : Nat) (l : List Nat) : Nat := if ch = 0 then lwi l l.length else if ch = 1 then 0 else l.length - 1
theorem atS_lt {ch : Nat} {l : List Nat} (h : 0 < l.length) : atS ch l < l.length := by
  unfold atS
  by_cases c : ch = 0
  · rw [if_pos c]; exact lwi_lt l _ h
  · rw [if_neg c]
    by_cases c2 : ch = 1
    · rw [if_pos c2]; exact h
    · rw [if_neg c2]; omega
/-- what the class's work holds of those that wait -/
def Qc (wk : Ob) (l : List Nat) : Prop := wk 0 0 = nI l.length ∧ l.length ≤ 10 ∧ ∀ i, i < l.length → wk 2 i = nI (l.getD i 0)
theorem isW_s {wk : Ob} {l : List Nat} {p : Nat} (h : Qc wk l) (hl : ∀ x ∈ l, x < 10) (hp : p < 10) : f_isWaiting wk (nI p) = some (b01 (p ∈ l)) := by
  unfold f_isWaiting
  obtain ⟨h1, h2, h3⟩ := h
  rcases lp_fst (F := fun fu i => lp_isWaiting_2 wk (nI p) k_isWaiting_2 fu i) l.length (fun i => l.getD i 0 = p) (fun _ => some 1) (some 0)
    (by
      intro fu i hi
      have hx := hl _ (gD hi)
      try dsimp only
      rw [lp_isWaiting_2, h1, if_neg (nle hi (by omega)), gd_t (ck_nI (by omega) (by decide)), cl (by omega), h3 i hi, nI_1]
      simp only [nI_eq (show l.getD i 0 < 2 ^ 31 by omega) (show p < 2 ^ 31 by omega)]
      by_cases c : l.getD i 0 = p
      · exact Or.inr ⟨c, if_pos c⟩
      · exact Or.inl ⟨c, if_neg c⟩)
    (by
      intro fu
      try dsimp only
      rw [lp_isWaiting_2, h1, if_pos (nlr (by omega))]
      rfl) 10000 (by omega) with ⟨j, g1, g2, g3, g4⟩ | ⟨g1, g2⟩
  · rw [b01_t (c := p ∈ l) (gD_mem.mpr ⟨j, g1, g2⟩)]; exact g4
  · rw [b01_f (c := p ∈ l) (fun q => by obtain ⟨i, q1, q2⟩ := gD_mem.mp q; exact g1 i q1 q2)]; exact g2
theorem least_s {wk : Ob} {l : List Nat} (h : Qc wk l) (hl : ∀ x ∈ l, x < 10) (h0 : 0 < l.length) : f_leastWaiting wk = some (nI (lwi l l.length)) := by
  unfold f_leastWaiting
  obtain ⟨h1, h2, h3⟩ := h
  obtain ⟨s, g1, g2⟩ := lp_inv (F := fun fu i (s : Int32) => lp_leastWaiting_4 wk k_leastWaiting_4 fu s i) (N := l.length) (inv := fun i s => 0 < i ∧ s = nI (lwi l i)) (ke := fun s => some s)
    (by
      rintro fu i s hi ⟨hp, rfl⟩
      have ha := lwi_lt l i hp
      have hx := hl _ (gD hi)
      have hy := hl _ (gD (show lwi l i < l.length by omega))
      try dsimp only
      refine ⟨_, ⟨by omega, rfl⟩, ?_⟩
      rw [lp_leastWaiting_4, h1, if_neg (nle hi (by omega)), gd_t (ck_nI (by omega) (by decide)), gd_t (ck_nI (by omega) (by decide)), cl (by omega), cl (by omega), h3 i hi, h3 _ (by omega), nI_1]
      simp only [nI_leI (show l.getD (lwi l i) 0 < 2 ^ 31 by omega) (show l.getD i 0 < 2 ^ 31 by omega)]
      by_cases c : l.getD (lwi l i) 0 ≤ l.getD i 0
      · rw [if_pos c, show lwi l (i + 1) = lwi l i from if_pos c]
      · rw [if_neg c, show lwi l (i + 1) = i from if_neg c])
    (by
      intro fu s hs
      try dsimp only
      rw [lp_leastWaiting_4, h1, if_pos (nlr (by omega))]
      rfl) 10000 1 0 ⟨by decide, by
        rw [show lwi l 1 = 0 from if_pos (Nat.le_refl _)]; rfl⟩ (by omega) (by omega)
  obtain ⟨-, rfl⟩ := g1
  exact g2
/-- the shift behind the one that is taken -/
theorem shift_s {R : Type} (F : Nat → Int32 → Ob → Option R) {l : List Nat} {wk : Ob} {at0 r n0 : Nat} (kk : Int32 → Ob → Option R) (hr : r ≠ 0) (hl : l.length ≤ 10) (ha : at0 < l.length)
    (hF : ∀ fu x w, F (fu + 1) x w = if w 0 n0 ≤ x then kk x w else gd (ck (x + 1) 10) (gd (ck x 10) (F fu (x + 1) (sA w r (upd (w r) (Int32.toNatClampNeg x) ((w r) (Int32.toNatClampNeg (x + 1))))))))
    (hw : wk 0 n0 = nI (l.length - 1)) (hq : ∀ i, i < l.length → wk r i = nI (l.getD i 0)) :
    ∃ wk', F 10000 (nI at0) wk = kk (nI (l.length - 1)) wk' ∧ (∀ i, i ≠ r → wk' i = wk i) ∧ ∀ i, i < l.length - 1 → wk' r i = nI ((l.eraseIdx at0).getD i 0) := by
  obtain ⟨s, ⟨-, g1, g2⟩, g3⟩ := lp_inv (F := F) (N := l.length - 1) (inv := fun i s => at0 ≤ i ∧ (∀ j, j ≠ r → s j = wk j) ∧ ∀ j, j < l.length → s r j = nI (if at0 ≤ j ∧ j < i then l.getD (j + 1) 0 else l.getD j 0)) (ke := fun s => kk (nI (l.length - 1)) s)
    (by
      rintro fu i s hi ⟨e0, e1, e2⟩
      rw [hF, e1 0 (Ne.symm hr), hw, if_neg (nle hi (by omega)), nI_1, gd_t (ck_nI (by omega) (by decide)), gd_t (ck_nI (by omega) (by decide)), cl (by omega), cl (by omega)]
      refine ⟨_, ⟨by omega, fun j hj => ?_, fun j hj => ?_⟩, rfl⟩
      · rw [sA_n _ _ hj]; exact e1 j hj
      · rw [sA_s]
        by_cases c : j = i
        · subst c
          rw [show upd (s r) j (s r (j + 1)) j = s r (j + 1) from if_pos rfl, e2 (j + 1) (by omega), if_neg (by omega)]
          rw [if_pos ⟨e0, by omega⟩]
        · rw [show upd (s r) i (s r (i + 1)) j = s r j from if_neg c, e2 j hj]
          by_cases c3 : at0 ≤ j ∧ j < i
          · rw [if_pos c3, if_pos ⟨c3.1, by omega⟩]
          · rw [if_neg c3, if_neg (by omega)])
    (by
      rintro fu s ⟨e0, e1, e2⟩
      rw [hF, e1 0 (Ne.symm hr), hw, if_pos (nlr (by omega))]) 10000 at0 wk ⟨Nat.le_refl _, fun _ _ => rfl, fun j hj => by rw [if_neg (by omega)]; exact hq j hj⟩ (by omega) (by omega)
  refine ⟨s, g3, g1, fun i hi => ?_⟩
  rw [g2 i (by omega), gD_er]
  by_cases c : i < at0
  · rw [if_pos c, if_neg (by omega)]
  · rw [if_neg c, if_pos ⟨by omega, hi⟩]
