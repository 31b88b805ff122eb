/-! what a way brings, what comes together -/
def bw (a : NO) (w hv : Nat) : Nat × Nat := if jn a (a 9 w) (hv / 256) = hv / 256 then (a 6 (w * 8 + hv / 256), mk (hv % 256) (a 8 w) (a 7 w)) else (0, 0)
theorem bw_1 {a : NO} (hb : Bd a) (w hv : Nat) : (bw a w hv).1 < 8 := by
  unfold bw
  by_cases h : jn a (a 9 w) (hv / 256) = hv / 256
  · rw [if_pos h]; exact hb.mp _
  · rw [if_neg h]; decide
theorem bw_2 {a : NO} (hb : Bd a) (w hv : Nat) : (bw a w hv).2 < 256 := by
  unfold bw
  by_cases h : jn a (a 9 w) (hv / 256) = hv / 256
  · rw [if_pos h]; exact mk_lt (Nat.mod_lt _ (by decide)) (hb.gv _)
  · rw [if_neg h]; decide
theorem f_valueOf_s {h : Nat} (hh : h < 2048) : f_valueOf (nI h) = some (nI (h / 256)) := by unfold f_valueOf; rw [dv_nI hh]
theorem f_setOf_s {h : Nat} (hh : h < 2048) : f_setOf (nI h) = some (nI (h % 256)) := by unfold f_setOf; rw [an_nI hh]
theorem f_brought_s {a : NO} (hb : Bd a) {g : Nat → Int32} {w hv : Nat} (hw : w < 20) (hg : g (a 4 w) = nI hv) (hh : hv < 2048) : f_brought (nO a) g (nI w) = some (nI ((bw a w hv).1 * 256 + (bw a w hv).2)) := by
  unfold f_brought
  have h4 := hb.fr w
  have h9 := hb.gt w
  have hd : hv / 256 < 8 := by omega
  have hc := cl (show w < 2 ^ 31 by omega)
  rw [hc]
  show gd (ck (nI w) 20) (gd (ck (nI (a 4 w)) 10) _) = _
  rw [gd_t (ck_nI hw (by decide)), gd_t (ck_nI h4 (by decide))]
  rw [show Int32.toNatClampNeg (nO a 4 w) = a 4 w from cl (by omega), hg, bd_s (f_valueOf_s hh), gd_t (ck_nI hw (by decide))]
  rw [show nO a 9 w = nI (a 9 w) from rfl, bd_s (f_isBelow_s hb h9 hd)]
  by_cases h : jn a (a 9 w) (hv / 256) = hv / 256
  · rw [if_neg (by rw [b01_t h]; decide), ix8, gd_t (ck_nI (by omega) (by decide)), bd_s (f_setOf_s hh), gd_t (ck_nI hw (by decide)), gd_t (ck_nI hw (by decide)), cl (by omega)]
    show some (nI (a 6 (w * 8 + hv / 256)) * 256 + ((nI (hv % 256) &&& (nI (a 8 w) ^^^ (-1))) ||| nI (a 7 w))) = _
    rw [mk_nI, ix256]
    unfold bw
    rw [if_pos h]
  · rw [if_pos (by rw [b01_f h])]
    unfold bw
    rw [if_neg h]
    rfl
/-- what there is of a place when i ways have been gone through, but y -/
def tg (a : NO) (h : Nat → Nat) (y : Int32) (p : Nat) : Nat → Nat × Nat
  | 0 => (a 2 p / 256, a 2 p % 256)
  | i + 1 => if a 5 i = p ∧ ¬ nI i = y then (jn a (tg a h y p i).1 (bw a i (h (a 4 i))).1, (tg a h y p i).2 ||| (bw a i (h (a 4 i))).2) else tg a h y p i
def tog (a : NO) (h : Nat → Nat) (y : Int32) (p : Nat) : Nat := (tg a h y p (a 0 2)).1 * 256 + (tg a h y p (a 0 2)).2
theorem tg_b {a : NO} (hb : Bd a) (h : Nat → Nat) (y : Int32) (p : Nat) : ∀ i, (tg a h y p i).1 < 8 ∧ (tg a h y p i).2 < 256
  | 0 => ⟨by have := hb.st p; show a 2 p / 256 < 8; omega, Nat.mod_lt _ (by decide)⟩
  | i + 1 => by
    have ih := tg_b hb h y p i
    unfold tg
    by_cases c : a 5 i = p ∧ ¬ nI i = y
    · rw [if_pos c]
      exact ⟨jn_lt hb _ _, or_lt ih.2 (bw_2 hb _ _)⟩
    · rw [if_neg c]
      exact ih
theorem tog_lt {a : NO} (hb : Bd a) (h : Nat → Nat) (y : Int32) (p : Nat) : tog a h y p < 2048 := by
  have h1 := tg_b hb h y p (a 0 2)
  unfold tog
  omega
theorem f_together_s {a : NO} (hb : Bd a) {g : Nat → Int32} {h : Nat → Nat} {p : Nat} {y : Int32} (hp : p < 10) (hg : ∀ w, w < a 0 2 → a 5 w = p → g (a 4 w) = nI (h (a 4 w)) ∧ h (a 4 w) < 2048) : f_together (nO a) g (nI p) y = some (nI (tog a h y p)) := by
  unfold f_together
  have hN := hb.2.2.1
  have h2 := hb.st p
  rw [gd_t (ck_nI hp (by decide)), cl (by omega), show nO a 2 p = nI (a 2 p) from rfl, bd_s (f_valueOf_s h2), gd_t (ck_nI hp (by decide)), bd_s (f_setOf_s h2)]
  obtain ⟨s, h1, h2⟩ := lp_inv (F := fun fu i (s : Int32 × Int32) => lp_together_25 (nO a) g (nI p) y k_together_25 fu s.1 s.2 i) (N := a 0 2) (inv := fun i s => s = (nI (tg a h y p i).1, nI (tg a h y p i).2)) (ke := fun s => some (s.1 * 256 + s.2))
    (by
      intro fu i s hi hs
      subst hs
      have hb5 := hb.to i
      have ht := tg_b hb h y p i
      try dsimp only
      refine ⟨_, rfl, ?_⟩
      rw [lp_together_25, if_neg (show ¬ nO a 0 2 ≤ nI i from nI_ge hi (by omega)), gd_t (ck_nI (by omega) (by decide)), cl (by omega), nI_1]
      show (if nI (a 5 i) = nI p then _ else _) = _
      simp only [nI_eq (show a 5 i < 2 ^ 31 by omega) (show p < 2 ^ 31 by omega)]
      by_cases c1 : a 5 i = p
      · rw [if_pos c1]
        by_cases c2 : nI i = y
        · rw [if_pos c2]
          rw [show tg a h y p (i + 1) = tg a h y p i from if_neg (fun q => q.2 c2)]
        · rw [if_neg c2]
          obtain ⟨g1, g2⟩ := hg i hi c1
          have b1 := bw_1 hb i (h (a 4 i))
          have b2 := bw_2 hb i (h (a 4 i))
          rw [bd_s (f_brought_s hb (by omega) g1 g2), bd_s (f_valueOf_s (by omega)), bd_s (f_join_s ht.1 (by omega)), bd_s (f_setOf_s (by omega)), nx_or]
          rw [show ((bw a i (h (a 4 i))).1 * 256 + (bw a i (h (a 4 i))).2) / 256 = (bw a i (h (a 4 i))).1 by omega, show ((bw a i (h (a 4 i))).1 * 256 + (bw a i (h (a 4 i))).2) % 256 = (bw a i (h (a 4 i))).2 by omega]
          rw [show tg a h y p (i + 1) = (jn a (tg a h y p i).1 (bw a i (h (a 4 i))).1, (tg a h y p i).2 ||| (bw a i (h (a 4 i))).2) from if_pos ⟨c1, c2⟩]
      · rw [if_neg c1]
        rw [show tg a h y p (i + 1) = tg a h y p i from if_neg (fun q => c1 q.1)])
    (by
      intro fu s hs
      try dsimp only
      rw [lp_together_25, if_pos (show nO a 0 2 ≤ nI (a 0 2) from nI_le (Nat.le_refl _) (by omega))]
      rfl) 10000 0 (nI (a 2 p / 256), nI (a 2 p % 256)) rfl (by omega) (by omega)
  subst h1
  refine Eq.trans h2 ?_
  try dsimp only
  rw [ix256]
  rfl
/-- a fact is no more than another -/
def nm (a : NO) (x y : Nat) : Prop := jn a (x / 256) (y / 256) = y / 256 ∧ sb (x % 256) (y % 256)
theorem f_isNoMore_s {a : NO} (hb : Bd a) {x y : Nat} (hx : x < 2048) (hy : y < 2048) : f_isNoMore (nO a) (nI x) (nI y) = some (b01 (nm a x y)) := by
  unfold f_isNoMore
  rw [bd_s (f_valueOf_s hx), bd_s (f_valueOf_s hy), bd_s (f_isBelow_s hb (by omega) (by omega))]
  by_cases h : jn a (x / 256) (y / 256) = y / 256
  · rw [if_neg (by rw [b01_t h]; decide), bd_s (f_setOf_s hx), bd_s (f_setOf_s hy)]
    simp only [sb_nI (show x % 256 < 256 from Nat.mod_lt _ (by decide)), ite_b01]
    exact congrArg some (b01_c ⟨fun q => ⟨h, q⟩, fun q => q.2⟩)
  · rw [if_pos (by rw [b01_f h]), b01_f (fun q => h q.1)]
/-- the set of kept places when i ways have been gone through -/
def ks (a : NO) : Nat → Nat
  | 0 => 0
  | i + 1 => if a 4 i < a 5 i then ks a i else ks a i ||| 2 ^ (a 5 i)
theorem ks_bit (a : NO) (p : Nat) : ∀ n, (ks a n).testBit p = true ↔ ∃ w, w < n ∧ a 5 w = p ∧ p ≤ a 4 w
  | 0 => by
    constructor
    · intro h
      simp [ks] at h
    · rintro ⟨w, h, _⟩
      omega
  | n + 1 => by
    have ih := ks_bit a p n
    unfold ks
    by_cases c : a 4 n < a 5 n
    · rw [if_pos c, ih]
      constructor
      · rintro ⟨w, h1, h2⟩
        exact ⟨w, by omega, h2⟩
      · rintro ⟨w, h1, h2, h3⟩
        refine ⟨w, ?_, h2, h3⟩
        rcases Nat.lt_or_ge w n with g | g
        · exact g
        · have : w = n := by omega
          subst this
          omega
    · rw [if_neg c, Nat.testBit_or, Bool.or_eq_true, ih, Nat.testBit_two_pow, decide_eq_true_eq]
      constructor
      · rintro (⟨w, h1, h2⟩ | h)
        · exact ⟨w, by omega, h2⟩
        · exact ⟨n, by omega, h, by omega⟩
      · rintro ⟨w, h1, h2, h3⟩
        rcases Nat.lt_or_ge w n with g | g
        · exact Or.inl ⟨w, g, h2, h3⟩
        · have : w = n := by omega
          subst this
          exact Or.inr h2
theorem f_keptPlaces_s {a : NO} (hb : Bd a) : f_keptPlaces (nO a) = some (nI (ks a (a 0 2))) := by
  unfold f_keptPlaces
  have hN := hb.2.2.1
  obtain ⟨s, h1, h2⟩ := lp_inv (F := fun fu i (s : Int32) => lp_keptPlaces_4 (nO a) k_keptPlaces_4 fu s i) (N := a 0 2) (inv := fun i s => s = nI (ks a i)) (ke := fun s => some s)
    (by
      intro fu i s hi hs
      subst hs
      have h4 := hb.fr i
      have h5 := hb.to i
      try dsimp only
      refine ⟨_, rfl, ?_⟩
      rw [lp_keptPlaces_4, if_neg (show ¬ nO a 0 2 ≤ nI i from nI_ge hi (by omega))]
      rw [cl (by omega), nI_1]
      simp only [gd_t (ck_nI (show i < 20 by omega) (by decide))]
      show (if nI (a 4 i) < nI (a 5 i) then _ else lp_keptPlaces_4 (nO a) k_keptPlaces_4 fu (nI (ks a i) ||| (1 <<< (nI (a 5 i) &&& 31))) _) = _
      simp only [nI_ltI (show a 4 i < 2 ^ 31 by omega) (show a 5 i < 2 ^ 31 by omega), pw_nI (a 5 i) (by omega), nx_or]
      by_cases c : a 4 i < a 5 i
      · rw [if_pos c, show ks a (i + 1) = ks a i from if_pos c]
      · rw [if_neg c, show ks a (i + 1) = ks a i ||| 2 ^ (a 5 i) from if_neg c])
    (by
      intro fu s hs
      try dsimp only
      rw [lp_keptPlaces_4, if_pos (show nO a 0 2 ≤ nI (a 0 2) from nI_le (Nat.le_refl _) (by omega))]
      rfl) 10000 0 0 rfl (by omega) (by omega)
  subst h1
  exact h2
