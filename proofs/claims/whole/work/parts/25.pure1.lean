/-! the class's web: what its reading methods answer -/
def Bd (a : NO) : Prop := a 0 0 ≤ 8 ∧ a 0 1 ≤ 10 ∧ a 0 2 ≤ 20 ∧ ∀ k, a 1 k < 8 ∧ a 2 k < 2048 ∧ a 3 k < 2048 ∧ a 4 k < 10 ∧ a 5 k < 10 ∧ a 6 k < 8 ∧ a 7 k < 256 ∧ a 8 k < 256 ∧ a 9 k < 8
theorem Bd.t {a : NO} (h : Bd a) (k : Nat) : a 1 k < 8 := (h.2.2.2 k).1
theorem Bd.st {a : NO} (h : Bd a) (k : Nat) : a 2 k < 2048 := (h.2.2.2 k).2.1
theorem Bd.wr {a : NO} (h : Bd a) (k : Nat) : a 3 k < 2048 := (h.2.2.2 k).2.2.1
theorem Bd.fr {a : NO} (h : Bd a) (k : Nat) : a 4 k < 10 := (h.2.2.2 k).2.2.2.1
theorem Bd.to {a : NO} (h : Bd a) (k : Nat) : a 5 k < 10 := (h.2.2.2 k).2.2.2.2.1
theorem Bd.mp {a : NO} (h : Bd a) (k : Nat) : a 6 k < 8 := (h.2.2.2 k).2.2.2.2.2.1
theorem Bd.gv {a : NO} (h : Bd a) (k : Nat) : a 7 k < 256 := (h.2.2.2 k).2.2.2.2.2.2.1
theorem Bd.tk {a : NO} (h : Bd a) (k : Nat) : a 8 k < 256 := (h.2.2.2 k).2.2.2.2.2.2.2.1
theorem Bd.gt {a : NO} (h : Bd a) (k : Nat) : a 9 k < 8 := (h.2.2.2 k).2.2.2.2.2.2.2.2
def jn (a : NO) (x y : Nat) : Nat := a 1 (x * 8 + y)
theorem jn_lt {a : NO} (h : Bd a) (x y : Nat) : jn a x y < 8 := h.t _
theorem ite_b01 {c : Prop} [Decidable c] : (if c then some (1 : Int32) else some 0) = some (b01 c) := by
  by_cases h : c
  · rw [if_pos h, b01_t h]
  · rw [if_neg h, b01_f h]
theorem ite_b10 {c : Prop} [Decidable c] : (if c then some (0 : Int32) else some 1) = some (b01 (¬ c)) := by
  by_cases h : c
  · rw [if_pos h, b01_f (fun q => q h)]
  · rw [if_neg h, b01_t h]
theorem f_join_s {a : NO} {x y : Nat} (hx : x < 8) (hy : y < 8) : f_join (nO a) (nI x) (nI y) = some (nI (jn a x y)) := by
  unfold f_join
  rw [ix8, gd_t (ck_nI (by omega) (by decide)), cl (by omega)]
  rfl
theorem f_isBelow_s {a : NO} (hb : Bd a) {x y : Nat} (hx : x < 8) (hy : y < 8) : f_isBelow (nO a) (nI x) (nI y) = some (b01 (jn a x y = y)) := by
  unfold f_isBelow
  rw [ix8, gd_t (ck_nI (by omega) (by decide)), cl (by omega)]
  have h := jn_lt hb x y
  show (if nI (jn a x y) = nI y then some 1 else some 0) = _
  simp only [nI_eq (show jn a x y < 2 ^ 31 by omega) (show y < 2 ^ 31 by omega), ite_b01]
def kp (a : NO) (p : Nat) : Prop := ∃ w, w < a 0 2 ∧ a 5 w = p ∧ p ≤ a 4 w
theorem f_isKept_s {a : NO} (hb : Bd a) {p : Nat} (hp : p < 2 ^ 31) : f_isKept (nO a) (nI p) = some (b01 (kp a p)) := by
  unfold f_isKept
  have hN := hb.2.2.1
  have key := lp_ex (F := fun fu i (_ : Unit) => lp_isKept_2 (nO a) (nI p) k_isKept_2 fu i) (N := a 0 2) (inv := fun i _ => ∀ w, w < i → ¬ (a 5 w = p ∧ p ≤ a 4 w)) (Ex := fun r => kp a p ∧ r = some 1) (ke := fun _ => some 0)
    (by
      intro fu i _ hi hv
      have h4 := hb.fr i
      have h5 := hb.to i
      try dsimp only
      rw [lp_isKept_2]
      simp only [nO, nI_1, cl (show i < 2 ^ 31 by omega), gd_t (ck_nI (show i < 20 by omega) (by decide)), nI_eq (show a 5 i < 2 ^ 31 by omega) hp, nI_ltI (show a 4 i < 2 ^ 31 by omega) hp, nI_leI (show a 0 2 < 2 ^ 31 by omega) (show i < 2 ^ 31 by omega), if_neg (show ¬ a 0 2 ≤ i by omega)]
      by_cases c1 : a 5 i = p
      · rw [if_pos c1]
        by_cases c2 : a 4 i < p
        · rw [if_pos c2]
          exact Or.inr ⟨(), fun w hw q => by
            rcases Nat.lt_or_ge w i with g | g
            · exact hv w g q
            · have : w = i := by omega
              subst this
              omega, rfl⟩
        · rw [if_neg c2]
          exact Or.inl ⟨_, ⟨⟨i, hi, c1, by omega⟩, rfl⟩, rfl⟩
      · rw [if_neg c1]
        exact Or.inr ⟨(), fun w hw q => by
          rcases Nat.lt_or_ge w i with g | g
          · exact hv w g q
          · have : w = i := by omega
            subst this
            exact c1 q.1, rfl⟩)
    (by
      intro fu _ hv
      try dsimp only
      rw [lp_isKept_2, if_pos (show nO a 0 2 ≤ nI (a 0 2) from nI_le (Nat.le_refl _) (by omega))]
      rfl) 10000 0 () (by intro w hw; omega) (by omega) (by omega)
  rcases key with ⟨r, ⟨h1, h2⟩, h3⟩ | ⟨_, h1, h2⟩
  · rw [b01_t h1, ← h2, ← h3]
    rfl
  · rw [b01_f (fun ⟨w, q1, q2⟩ => h1 w q1 q2)]
    exact h2
