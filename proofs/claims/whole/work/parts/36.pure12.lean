/-! webs that are alike as far as they live -/
def Gd (a : NO) : Prop := Bd a ∧ 0 < a 0 0 ∧ (∀ x, x < a 0 0 → ∀ y, y < a 0 0 → jn a x y < a 0 0) ∧ (∀ w, w < a 0 2 → a 4 w < a 0 1 ∧ a 5 w < a 0 1 ∧ a 9 w < a 0 0 ∧ ∀ x, x < a 0 0 → a 6 (w * 8 + x) < a 0 0) ∧ ∀ p, p < a 0 1 → a 2 p / 256 < a 0 0 ∧ a 3 p / 256 < a 0 0
def Eqv (a b : NO) : Prop := a 0 0 = b 0 0 ∧ a 0 1 = b 0 1 ∧ a 0 2 = b 0 2 ∧ (∀ x, x < a 0 0 → ∀ y, y < a 0 0 → jn a x y = jn b x y) ∧ (∀ w, w < a 0 2 → a 4 w = b 4 w ∧ a 5 w = b 5 w ∧ a 7 w = b 7 w ∧ a 8 w = b 8 w ∧ a 9 w = b 9 w ∧ ∀ x, x < a 0 0 → a 6 (w * 8 + x) = b 6 (w * 8 + x)) ∧ ∀ p, p < a 0 1 → a 2 p = b 2 p ∧ a 3 p = b 3 p
theorem Gd.lv {a : NO} (h : Gd a) : LV a := fun w hw => ⟨(h.2.2.2.1 w hw).1, (h.2.2.2.1 w hw).2.1⟩
section CG
variable {a b : NO}
theorem Eqv.lv (h : Eqv a b) (g : Gd a) : LV b := by
  intro w hw
  rw [← h.2.2.1] at hw
  have h1 := h.2.2.2.2.1 w hw
  have h2 := g.2.2.2.1 w hw
  rw [← h1.1, ← h1.2.1, ← h.2.1]
  exact ⟨h2.1, h2.2.1⟩
theorem kp_c (h : Eqv a b) (p : Nat) : kp a p ↔ kp b p := by
  constructor
  · rintro ⟨w, h1, h2, h3⟩
    have e := h.2.2.2.2.1 w h1
    exact ⟨w, by rw [← h.2.2.1]; exact h1, by rw [← e.2.1]; exact h2, by rw [← e.1]; exact h3⟩
  · rintro ⟨w, h1, h2, h3⟩
    rw [← h.2.2.1] at h1
    have e := h.2.2.2.2.1 w h1
    exact ⟨w, h1, by rw [e.2.1]; exact h2, by rw [e.1]; exact h3⟩
theorem L1_c (h : Eqv a b) : L1 a ↔ L1 b := by
  constructor
  · intro q x hx
    rw [← h.1] at hx
    rw [← h.2.2.2.1 x hx x hx]
    exact q x hx
  · intro q x hx
    rw [h.2.2.2.1 x hx x hx]
    exact q x (by rw [← h.1]; exact hx)
theorem L2_c (h : Eqv a b) : L2 a ↔ L2 b := by
  constructor
  · intro q x hx y hy
    rw [← h.1] at hx hy
    rw [← h.2.2.2.1 x hx y hy, ← h.2.2.2.1 y hy x hx]
    exact q x hx y hy
  · intro q x hx y hy
    rw [h.2.2.2.1 x hx y hy, h.2.2.2.1 y hy x hx]
    exact q x (by rw [← h.1]; exact hx) y (by rw [← h.1]; exact hy)
theorem L3_c (h : Eqv a b) (g : Gd a) : L3 a ↔ L3 b := by
  have e := h.2.2.2.1
  have c := g.2.2.1
  constructor
  · intro q x hx y hy z hz
    rw [← h.1] at hx hy hz
    have := q x hx y hy z hz
    rw [e _ (c x hx y hy) z hz, e x hx _ (c y hy z hz), e x hx y hy, e y hy z hz] at this
    exact this
  · intro q x hx y hy z hz
    have := q x (by rw [← h.1]; exact hx) y (by rw [← h.1]; exact hy) z (by rw [← h.1]; exact hz)
    rw [← e x hx y hy, ← e y hy z hz, ← e _ (c x hx y hy) z hz, ← e x hx _ (c y hy z hz)] at this
    exact this
theorem L4_c (h : Eqv a b) (g : Gd a) : L4 a ↔ L4 b := by
  constructor
  · intro q x hx
    rw [← h.1] at hx
    rw [← h.2.2.2.1 0 g.2.1 x hx]
    exact q x hx
  · intro q x hx
    rw [h.2.2.2.1 0 g.2.1 x hx]
    exact q x (by rw [← h.1]; exact hx)
theorem bl_c (h : Eqv a b) (g : Gd a) : bl a = bl b := by
  unfold bl
  rw [show L1 a = L1 b from propext (L1_c h), show L2 a = L2 b from propext (L2_c h), show L3 a = L3 b from propext (L3_c h g), show L4 a = L4 b from propext (L4_c h g)]
theorem ko_c (h : Eqv a b) (g : Gd a) {w : Nat} (hw : w < a 0 2) : ko a w ↔ ko b w := by
  have e := h.2.2.2.1
  have em := (h.2.2.2.2.1 w hw).2.2.2.2.2
  have cm := (g.2.2.2.1 w hw).2.2.2
  constructor
  · intro q x hx y hy hxy
    rw [← h.1] at hx hy
    rw [← e x hx y hy] at hxy
    have := q x hx y hy hxy
    rw [e _ (cm x hx) _ (cm y hy), em x hx, em y hy] at this
    exact this
  · intro q x hx y hy hxy
    rw [e x hx y hy] at hxy
    have := q x (by rw [← h.1]; exact hx) y (by rw [← h.1]; exact hy) hxy
    rw [← em x hx, ← em y hy, ← e _ (cm x hx) _ (cm y hy)] at this
    exact this
theorem WL_c (h : Eqv a b) (g : Gd a) : WL a ↔ WL b := by
  unfold WL
  rw [bl_c h g]
  constructor
  · rintro ⟨h1, h2⟩
    refine ⟨h1, fun w hw => ?_⟩
    rw [← h.2.2.1] at hw
    exact (ko_c h g hw).mp (h2 w hw)
  · rintro ⟨h1, h2⟩
    exact ⟨h1, fun w hw => (ko_c h g hw).mpr (h2 w (by rw [← h.2.2.1]; exact hw))⟩
theorem bw_M (g : Gd a) {w hv : Nat} (hw : w < a 0 2) (hh : hv / 256 < a 0 0) : (bw a w hv).1 < a 0 0 := by
  unfold bw
  by_cases c : jn a (a 9 w) (hv / 256) = hv / 256
  · rw [if_pos c]; exact (g.2.2.2.1 w hw).2.2.2 _ hh
  · rw [if_neg c]; exact g.2.1
theorem bw_c (h : Eqv a b) (g : Gd a) {w hv : Nat} (hw : w < a 0 2) (hh : hv / 256 < a 0 0) : bw a w hv = bw b w hv := by
  have e := h.2.2.2.2.1 w hw
  unfold bw
  rw [h.2.2.2.1 _ (g.2.2.2.1 w hw).2.2.1 _ hh, e.2.2.1, e.2.2.2.1, e.2.2.2.2.1, e.2.2.2.2.2 _ hh]
theorem tg_M (g : Gd a) {f : Nat → Nat} {y : Int32} {p : Nat} (hp : p < a 0 1) (hf : ∀ q, q < a 0 1 → f q / 256 < a 0 0) : ∀ n, n ≤ a 0 2 → (tg a f y p n).1 < a 0 0
  | 0, _ => (g.2.2.2.2 p hp).1
  | n + 1, hn => by
    have ih := tg_M g (f := f) (y := y) hp hf n (by omega)
    unfold tg
    by_cases c : a 5 n = p ∧ ¬ nI n = y
    · rw [if_pos c]
      exact g.2.2.1 _ ih _ (bw_M g (by omega) (hf _ (g.2.2.2.1 n (by omega)).1))
    · rw [if_neg c]; exact ih
theorem tg_c (h : Eqv a b) (g : Gd a) {f : Nat → Nat} {y : Int32} {p : Nat} (hp : p < a 0 1) (hf : ∀ q, q < a 0 1 → f q / 256 < a 0 0) : ∀ n, n ≤ a 0 2 → tg a f y p n = tg b f y p n
  | 0, _ => by unfold tg; rw [(h.2.2.2.2.2 p hp).1]
  | n + 1, hn => by
    have ih := tg_c h g (f := f) (y := y) hp hf n (by omega)
    have e := h.2.2.2.2.1 n (by omega)
    have hq := hf _ (g.2.2.2.1 n (by omega)).1
    unfold tg
    rw [← ih, ← e.2.1, ← e.1]
    by_cases c : a 5 n = p ∧ ¬ nI n = y
    · rw [if_pos c, if_pos c, ← bw_c h g (by omega) hq, h.2.2.2.1 _ (tg_M g hp hf n (by omega)) _ (bw_M g (by omega) hq)]
    · rw [if_neg c, if_neg c]
theorem tog_c (h : Eqv a b) (g : Gd a) {f : Nat → Nat} {y : Int32} {p : Nat} (hp : p < a 0 1) (hf : ∀ q, q < a 0 1 → f q / 256 < a 0 0) : tog a f y p = tog b f y p := by
  unfold tog
  rw [← h.2.2.1, tg_c h g hp hf _ (Nat.le_refl _)]
theorem tog_M (g : Gd a) {f : Nat → Nat} {y : Int32} {p : Nat} (hp : p < a 0 1) (hf : ∀ q, q < a 0 1 → f q / 256 < a 0 0) : tog a f y p / 256 < a 0 0 := by
  have h1 := tg_M g (f := f) (y := y) hp hf _ (Nat.le_refl _)
  have h2 := (tg_b g.1 f y p (a 0 2)).2
  unfold tog
  omega
theorem wkS_c (h : Eqv a b) {p : Nat} {y : Int32} {l : List Nat} : ∀ n, n ≤ a 0 2 → wkS a p y l n = wkS b p y l n
  | 0, _ => rfl
  | n + 1, hn => by
    have ih := wkS_c h (p := p) (y := y) (l := l) n (by omega)
    have e := h.2.2.2.2.1 n (by omega)
    unfold wkS
    rw [← ih, ← e.1, ← e.2.1]
theorem rs_M (g : Gd a) (ch : Nat) (y : Int32) : ∀ n, ∀ q, q < a 0 1 → (rs a ch y n).1 q / 256 < a 0 0
  | 0 => fun _ _ => by rw [rs]; show 0 / 256 < a 0 0; exact Nat.lt_of_le_of_lt (Nat.zero_le _) g.2.1
  | n + 1 => by
    have ih := rs_M g ch y n
    intro q hq
    show (stp a ch y (rs a ch y n)).1 q / 256 < _
    unfold stp
    by_cases c : tog a (rs a ch y n).1 y ((rs a ch y n).2.getD (atS ch (rs a ch y n).2) 0) = (rs a ch y n).1 ((rs a ch y n).2.getD (atS ch (rs a ch y n).2) 0)
    · rw [if_pos c]; exact ih q hq
    · rw [if_neg c]
      show nU _ _ _ q / 256 < _
      by_cases e : q = (rs a ch y n).2.getD (atS ch (rs a ch y n).2) 0
      · rw [← e, nU_s]; exact tog_M g hq ih
      · rw [nU_n e]; exact ih q hq
theorem rs_c (h : Eqv a b) (g : Gd a) (ch : Nat) (y : Int32) : ∀ n, rs a ch y n = rs b ch y n ∨ ∃ m, m ≤ n ∧ (rs a ch y m).2 = [] ∧ (rs b ch y m).2 = [] ∧ rs a ch y m = rs b ch y m
  | 0 => Or.inl (by show ((fun _ => 0, List.range (a 0 1)) : (Nat → Nat) × List Nat) = (fun _ => 0, List.range (b 0 1)); rw [h.2.1])
  | n + 1 => by
    rcases rs_c h g ch y n with ih | ⟨m, h1, h2⟩
    · by_cases c : (rs a ch y n).2 = []
      · exact Or.inr ⟨n, by omega, c, by rw [← ih]; exact c, ih⟩
      · left
        have hpos : 0 < (rs a ch y n).2.length := List.length_pos_iff.mpr c
        have hpP := (rs_ok g.1 g.lv ch y n).2.1 _ (gD (atS_lt (ch := ch) hpos))
        show stp a ch y (rs a ch y n) = stp b ch y (rs b ch y n)
        rw [← ih]
        unfold stp
        rw [← tog_c h g hpP (rs_M g ch y n), ← h.2.2.1, wkS_c h _ (Nat.le_refl _)]
    · exact Or.inr ⟨m, by omega, h2⟩
/-- both stop at the same step, at the same -/
theorem fin_c (h : Eqv a b) (g : Gd a) {ch : Nat} {y : Int32} {T T' : Nat} (hT : Fin' a ch y T) (hT' : Fin' b ch y T') : T = T' ∧ rs a ch y T = rs b ch y T := by
  obtain ⟨h1, h2, h3⟩ := hT
  obtain ⟨g1, g2, g3⟩ := hT'
  rcases rs_c h g ch y T with e | ⟨m, m1, m2, m3, m4⟩
  · refine ⟨?_, e⟩
    rcases Nat.lt_trichotomy T T' with q | q | q
    · rcases h3 with h3 | h3
      · exact absurd (by rw [← e]; exact h3) (g2 T q)
      · omega
    · exact q
    · rcases g3 with g3 | g3
      · rcases rs_c h g ch y T' with e' | ⟨m, m1, m2, m3, m4⟩
        · exact absurd (by rw [e']; exact g3) (h2 T' q)
        · exact absurd m2 (h2 m (by omega))
      · omega
  · have em : m = T := by
      rcases Nat.lt_or_ge m T with q | q
      · exact absurd m2 (h2 m q)
      · omega
    subst em
    refine ⟨?_, m4⟩
    rcases Nat.lt_trichotomy m T' with q | q | q
    · exact absurd m3 (g2 m q)
    · exact q
    · rcases g3 with g3 | g3
      · rcases rs_c h g ch y T' with e' | ⟨k, k1, k2, k3, k4⟩
        · exact absurd (by rw [e']; exact g3) (h2 T' q)
        · exact absurd k2 (h2 k (by omega))
      · omega
theorem kept_c (h : Eqv a b) (g : Gd a) : ks a (a 0 2) = kr b (b 0 1) := by
  apply Nat.eq_of_testBit_eq
  intro i
  apply Bool.eq_iff_iff.mpr
  rw [ks_bit, kr_bit, ← kp_c h i, ← h.2.1]
  constructor
  · rintro ⟨w, h1, h2, h3⟩
    refine ⟨?_, w, h1, h2, h3⟩
    rw [← h2]
    exact (g.2.2.2.1 w h1).2.1
  · rintro ⟨-, w, h1, h2, h3⟩
    exact ⟨w, h1, h2, h3⟩
end CG
