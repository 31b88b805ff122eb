/-! the other side: a new web -/
theorem mb_step {z : NO} {o x y : Nat} (ho : o < 3) (h1 : 0 < z 1 0) (h8 : z 1 0 ≤ 8) (hx : x < 8) (hy : y < 8) (kk : Int32 → Ob → Option Ob) (fu : Nat) : lp_m_builds_62 (nI o) (nI x) kk (fu + 1) (nI y) (nO z) = lp_m_builds_62 (nI o) (nI x) kk fu (nI (y + 1)) (nO (rN z 1 (nU (z 1) (3 + 8 * x + y) (jo o (z 1 0) x y)))) := by
  rw [lp_m_builds_62, if_neg (show ¬ (8 : Int32) ≤ nI y from nle (a := 8) hy (by decide)), c0, show nO z 1 0 = nI (z 1 0) from rfl, sb1 h1, ixT, nI_1, show (2 : Int32) = nI 2 from rfl, show (0 : Int32) = nI 0 from rfl, nx_or, cl (by omega)]
  simp only [gd_t (ck_nI (show 3 + 8 * x + y < 367 by omega) (by decide)), sAu, nI_eq (show o < 2 ^ 31 by omega) (show 2 < 2 ^ 31 by decide), nI_eq (show o < 2 ^ 31 by omega) (show 0 < 2 ^ 31 by decide), nI_eq (show x < 2 ^ 31 by omega) (show 0 < 2 ^ 31 by decide), nI_eq (show y < 2 ^ 31 by omega) (show 0 < 2 ^ 31 by decide), nI_eq (show x < 2 ^ 31 by omega) (show y < 2 ^ 31 by omega), nI_leI (show x < 2 ^ 31 by omega) (show y < 2 ^ 31 by omega)]
  unfold jo
  by_cases c2 : o = 2
  · simp only [if_pos c2]
    by_cases c : x ≤ y
    · rw [if_pos c]
    · rw [if_neg c]
  simp only [if_neg c2]
  by_cases d : o = 1 ∧ x ≠ 0 ∧ y ≠ 0 ∧ x ≠ y
  · simp only [if_pos d, if_neg (show ¬ o = 0 by omega), if_neg (show ¬ x = y by omega), if_neg (show ¬ x = 0 by omega), if_neg (show ¬ y = 0 by omega)]
    by_cases c : x ≤ y
    · rw [if_pos c]
    · rw [if_neg c]
  simp only [if_neg d]
  have mx : (if x < y then y else x) = if x ≤ y then y else x := by
    by_cases c : x < y
    · rw [if_pos c, if_pos (by omega)]
    · by_cases e : x = y
      · rw [if_neg c, if_pos (by omega), e]
      · rw [if_neg c, if_neg (by omega)]
  rw [mx]
  by_cases c : x ≤ y
  · simp only [if_pos c]
    by_cases e1 : o = 0
    · rw [if_pos e1]
    rw [if_neg e1]
    by_cases e2 : x = y
    · rw [if_pos e2]
    rw [if_neg e2]
    by_cases e3 : x = 0
    · rw [if_pos e3]
    rw [if_neg e3]
    by_cases e4 : y = 0
    · rw [if_pos e4]
    exact absurd ⟨by omega, e3, e4, e2⟩ d
  · simp only [if_neg c]
    by_cases e1 : o = 0
    · rw [if_pos e1]
    rw [if_neg e1]
    by_cases e2 : x = y
    · rw [if_pos e2]
    rw [if_neg e2]
    by_cases e3 : x = 0
    · rw [if_pos e3]
    rw [if_neg e3]
    by_cases e4 : y = 0
    · rw [if_pos e4]
    exact absurd ⟨by omega, e3, e4, e2⟩ d
def nsp (o M P n : Nat) : Nat → Nat := fun k => if k = 0 then M else if k = 1 then P else if 3 ≤ k ∧ k < 3 + n then jo o M ((k - 3) / 8) ((k - 3) % 8) else 0
theorem nsp_s {o M P n k : Nat} {g : Nat → Nat} (hg : ∀ k, k < 367 → g k = nsp o M P n k) (hk : k < 367) {x y : Nat} (e : n = 8 * x + y) (hy : y < 8) : nU g (3 + n) (jo o M x y) k = nsp o M P (n + 1) k := by
  by_cases c : k = 3 + n
  · rw [c, nU_s]
    unfold nsp
    rw [if_neg (by omega), if_neg (by omega), if_pos (by omega), show (3 + n - 3) / 8 = x by omega, show (3 + n - 3) % 8 = y by omega]
  · rw [nU_n c, hg k hk]
    unfold nsp
    by_cases q0 : k = 0
    · rw [if_pos q0, if_pos q0]
    rw [if_neg q0, if_neg q0]
    by_cases q1 : k = 1
    · rw [if_pos q1, if_pos q1]
    rw [if_neg q1, if_neg q1]
    by_cases d : 3 ≤ k ∧ k < 3 + n
    · rw [if_pos d, if_pos (by omega)]
    · rw [if_neg d, if_neg (by omega)]
theorem m_builds_s {z : NO} {o y P : Nat} (ho : o < 3) (h1 : 0 < y) (h8 : y ≤ 8) (hP : P ≤ 10) : ∃ z', f_m_builds (nO z) (nI o) (nI y) (nI P) = some (nO z') ∧ (∀ q, q ≠ 1 → z' q = z q) ∧ ∀ k, k < 367 → z' 1 k = nst o (if o = 2 then 8 else y) P k := by
  generalize hMe : (if o = 2 then 8 else y) = M
  have hM8 : M ≤ 8 := by
    rw [← hMe]; split <;> omega
  have hM1 : 0 < M := by
    rw [← hMe]; split <;> omega
  unfold f_m_builds
  have key := cpl (F := fun fu i s => lp_m_builds_3 (k_m_builds_3 (nI o) (nI y) (nI P)) fu i s) (r := 1) (c := 0) (n := 367) (L := 0) (S := fun _ => 0) (z0 := z) (ke := fun s => k_m_builds_3 (nI o) (nI y) (nI P) (nI 367) s)
    (by
      intro fu i w hi h1 h2
      rw [Nat.zero_add]
      try dsimp only
      rw [lp_m_builds_3, if_neg (show ¬ (367 : Int32) ≤ nI i from nle (a := 367) hi (by decide)), gd_t (ck_nI hi (by decide)), cl (by omega), nI_1, show (0 : Int32) = nI 0 from rfl, sAu])
    (by
      intro fu w h1
      try dsimp only
      rw [Nat.zero_add, lp_m_builds_3, if_pos (show (367 : Int32) ≤ nI 367 from nlr (a := 367) (by decide))]) (fu := 10000) (by decide)
  generalize hw : rN z 1 (fun k => if 0 ≤ k ∧ k < 0 + 367 then (fun _ => 0) (k - 0) else z 1 k) = w at key
  have w0 : ∀ k, k < 367 → w 1 k = 0 := by
    intro k hk
    rw [← hw, rN_s, if_pos (by omega)]
  have wq : ∀ q, q ≠ 1 → w q = z q := by
    intro q hq
    rw [← hw, rN_n hq]
  have e1 : k_m_builds_3 (nI o) (nI y) (nI P) (nI 367) (nO w) = lp_m_builds_52 (nI o) k_m_builds_52 10000 0 (nO (rN w 1 (nU (nU (w 1) 0 M) 1 P))) := by
    rw [k_m_builds_3, c0, c1, show (2 : Int32) = nI 2 from rfl, show (8 : Int32) = nI 8 from rfl]
    simp only [nI_eq (show o < 2 ^ 31 by omega) (show 2 < 2 ^ 31 by decide), sA_sA, upd_nO, upd_fn, sA_nO]
    by_cases c : o = 2
    · rw [if_pos c]; rw [if_pos c] at hMe; rw [hMe, rN_rN]
    · rw [if_neg c]; rw [if_neg c] at hMe; rw [hMe, rN_rN]
  have inner : ∀ (x : Nat) (b : NO) (kk : Int32 → Ob → Option Ob), x < 8 → (∀ q, q ≠ 1 → b q = z q) → (∀ k, k < 367 → b 1 k = nsp o M P (8 * x) k) → ∃ b', lp_m_builds_62 (nI o) (nI x) kk 10000 0 (nO b) = kk (nI 8) (nO b') ∧ (∀ q, q ≠ 1 → b' q = z q) ∧ ∀ k, k < 367 → b' 1 k = nsp o M P (8 * (x + 1)) k := by
    intro x b kk hx hq hk
    obtain ⟨s, ⟨b', rfl, g1, g2⟩, g3⟩ := lp_inv (F := fun fu v (s : Ob) => lp_m_builds_62 (nI o) (nI x) kk fu v s) (N := 8) (inv := fun v s => ∃ b', s = nO b' ∧ (∀ q, q ≠ 1 → b' q = z q) ∧ ∀ k, k < 367 → b' 1 k = nsp o M P (8 * x + v) k) (ke := fun s => kk (nI 8) s)
      (by
        rintro fu v s hv ⟨b', rfl, i1, i2⟩
        have eM : b' 1 0 = M := i2 0 (by decide)
        refine ⟨_, ⟨_, rfl, fun q hq => ?_, fun k hk => ?_⟩, mb_step ho (by omega) (by omega) hx hv kk fu⟩
        · rw [rN_n hq]; exact i1 q hq
        · rw [rN_s, eM, show 3 + 8 * x + v = 3 + (8 * x + v) by omega]
          exact nsp_s i2 hk rfl hv)
      (by
        rintro fu s -
        try dsimp only
        rw [lp_m_builds_62, if_pos (show (8 : Int32) ≤ nI 8 from nlr (a := 8) (by decide))]) 10000 0 (nO b) ⟨b, rfl, hq, hk⟩ (by omega) (by omega)
    exact ⟨b', g3, g1, g2⟩
  obtain ⟨s, ⟨b, rfl, g1, g2⟩, g3⟩ := lp_inv (F := fun fu v (s : Ob) => lp_m_builds_52 (nI o) k_m_builds_52 fu v s) (N := 8) (inv := fun v s => ∃ b', s = nO b' ∧ (∀ q, q ≠ 1 → b' q = z q) ∧ ∀ k, k < 367 → b' 1 k = nsp o M P (8 * v) k) (ke := fun s => some s)
    (by
      rintro fu v s hv ⟨b', rfl, i1, i2⟩
      try dsimp only
      rw [lp_m_builds_52, if_neg (show ¬ (8 : Int32) ≤ nI v from nle (a := 8) hv (by decide))]
      obtain ⟨b2, j1, j2, j3⟩ := inner v b' (k_m_builds_62 (nI v) (lp_m_builds_52 (nI o) k_m_builds_52 fu)) hv i1 i2
      exact ⟨_, ⟨b2, rfl, j2, j3⟩, by rw [j1, k_m_builds_62, nI_1]⟩)
    (by
      rintro fu s -
      try dsimp only
      rw [lp_m_builds_52, if_pos (show (8 : Int32) ≤ nI 8 from nlr (a := 8) (by decide))]
      rfl) 10000 0 (nO (rN w 1 (nU (nU (w 1) 0 M) 1 P))) ⟨_, rfl, fun q hq => by rw [rN_n hq]; exact wq q hq, fun k hk => by
        rw [rN_s]
        unfold nsp
        by_cases q0 : k = 0
        · rw [if_pos q0, q0]; rfl
        rw [if_neg q0]
        by_cases q1 : k = 1
        · rw [if_pos q1, q1, nU_s]
        rw [if_neg q1, nU_n q1, nU_n q0, if_neg (by omega)]
        exact w0 k hk⟩ (by omega) (by omega)
  refine ⟨b, ?_, g1, g2⟩
  refine Eq.trans key ?_
  try dsimp only
  rw [e1]
  exact g3
