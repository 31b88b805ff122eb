/-! the one side's deeds on a web -/
theorem cpy_nI {sp dp n n0 n1 : Nat} (h0 : sp + n ≤ n0) (h1 : dp + n ≤ n1) (b0 : n0 < 2 ^ 31) (b1 : n1 < 2 ^ 31) : cpy (nI sp) (nI dp) (nI n) n0 n1 = true := by
  unfold cpy
  rw [cl (by omega), cl (by omega), cl (by omega)]
  have q1 := nI_pos (n := sp) (by omega)
  have q2 := nI_pos (n := dp) (by omega)
  have q3 := nI_pos (n := n) (by omega)
  simp [q1, q2, q3, h0, h1]
theorem upd_g (g : Nat → Int32) (h : Nat → Nat) (e : ∀ k, g k = nI (h k)) (k v : Nat) : upd g k (nI v) = fun j => nI (nU h k v j) := by
  rw [show g = fun k => nI (h k) from funext e, upd_fn]
theorem f_addWay_s {a : NO} (i j : Nat) (hW : a 0 2 < 20) : f_addWay (nO a) (nI i) (nI j) = some (nI (a 0 2), nO (aw a i j 0 0 0)) := by
  unfold f_addWay
  rw [show nO a 0 2 = nI (a 0 2) from rfl, gd_t (ck_nI hW (by decide)), gd_t (ck_nI hW (by decide)), gd_t (ck_nI hW (by decide)), gd_t (ck_nI hW (by decide)), gd_t (ck_nI hW (by decide)), cl (by omega)]
  rw [upd_nO, upd_nO, show upd (nO a 7) (a 0 2) 0 = fun q => nI (nU (a 7) (a 0 2) 0 q) from upd_nO a 7 _ 0, show upd (nO a 8) (a 0 2) 0 = fun q => nI (nU (a 8) (a 0 2) 0 q) from upd_nO a 8 _ 0, show upd (nO a 9) (a 0 2) 0 = fun q => nI (nU (a 9) (a 0 2) 0 q) from upd_nO a 9 _ 0, sA_nO, sA_nO, sA_nO, sA_nO, sA_nO]
  generalize hb0 : rN (rN (rN (rN (rN a 4 (nU (a 4) (a 0 2) i)) 5 (nU (a 5) (a 0 2) j)) 7 (nU (a 7) (a 0 2) 0)) 8 (nU (a 8) (a 0 2) 0)) 9 (nU (a 9) (a 0 2) 0) = b0
  obtain ⟨s, ⟨b, rfl, g1, g2⟩, g3⟩ := lp_inv (F := fun fu x (s : Ob) => lp_addWay_43 (nO a) (k_addWay_43 (nO a)) fu x s) (N := 8) (inv := fun v s => ∃ b, s = nO b ∧ (∀ r, r ≠ 6 → b r = b0 r) ∧ ∀ k, b 6 k = if a 0 2 * 8 ≤ k ∧ k < a 0 2 * 8 + v then k - a 0 2 * 8 else a 6 k) (ke := fun s => k_addWay_43 (nO a) (nI 8) s)
    (by
      rintro fu v s hv ⟨b, rfl, e1, e2⟩
      try dsimp only
      rw [lp_addWay_43, show (8 : Int32) = nI 8 from rfl, if_neg (nle hv (by decide)), show nO a 0 2 = nI (a 0 2) from rfl, show nI (a 0 2) * nI 8 + nI v = nI (a 0 2 * 8 + v) from ix8 _ _, gd_t (ck_nI (by omega) (by decide)), cl (by omega), nI_1, sAu]
      refine ⟨_, ⟨_, rfl, fun r hr => by rw [rN_n hr]; exact e1 r hr, fun k => ?_⟩, rfl⟩
      rw [rN_s]
      by_cases c : k = a 0 2 * 8 + v
      · rw [c, nU_s, if_pos (by omega)]; omega
      · rw [nU_n c, e2 k]
        by_cases d : a 0 2 * 8 ≤ k ∧ k < a 0 2 * 8 + v
        · rw [if_pos d, if_pos (by omega)]
        · rw [if_neg d, if_neg (by omega)])
    (by
      rintro fu s -
      try dsimp only
      rw [lp_addWay_43, show (8 : Int32) = nI 8 from rfl, if_pos (nlr (by decide))]) 10000 0 (nO b0) ⟨b0, rfl, fun _ _ => rfl, fun k => by rw [if_neg (by omega), ← hb0]; rfl⟩ (by omega) (by omega)
  refine Eq.trans g3 ?_
  have e02 : b 0 = a 0 := by rw [g1 0 (by decide), ← hb0]; rfl
  rw [k_addWay_43, show nO b 0 2 = nI (a 0 2) from congrArg nI (by rw [e02]), nI_1, sIu]
  congr 2
  congr 1
  funext r
  unfold aw
  by_cases q0 : r = 0
  · rw [if_pos q0, q0, rN_s, e02]
  rw [if_neg q0, rN_n q0]
  by_cases q4 : r = 4
  · rw [if_pos q4, q4, g1 4 (by decide), ← hb0]; rfl
  rw [if_neg q4]
  by_cases q5 : r = 5
  · rw [if_pos q5, q5, g1 5 (by decide), ← hb0]; rfl
  rw [if_neg q5]
  by_cases q6 : r = 6
  · rw [if_pos q6, q6]; funext k; exact g2 k
  rw [if_neg q6, g1 r q6]
  by_cases q7 : r = 7
  · rw [if_pos q7, q7, ← hb0]; rfl
  rw [if_neg q7]
  by_cases q8 : r = 8
  · rw [if_pos q8, q8, ← hb0]; rfl
  rw [if_neg q8]
  by_cases q9 : r = 9
  · rw [if_pos q9, q9, ← hb0]; rfl
  rw [if_neg q9, ← hb0, rN_n q9, rN_n q8, rN_n q7, rN_n q5, rN_n q4]
theorem f_removeWay_s {a : NO} {x : Nat} (hW : a 0 2 ≤ 20) (hx : x < a 0 2) : f_removeWay (nO a) (nI x) = some (nO (dw a x)) := by
  unfold f_removeWay
  have e1 : nI (a 0 2 - x) - 1 = nI (a 0 2 - x - 1) := by
    rw [show a 0 2 - x = a 0 2 - x - 1 + 1 by omega, nI_pred]; simp
  have e3 : nI (a 0 2) - 1 = nI (a 0 2 - 1) := by
    rw [show a 0 2 = a 0 2 - 1 + 1 by omega, nI_pred]; simp
  rw [show nO a 0 2 = nI (a 0 2) from rfl, nI_1, pk_sub (by omega), e1, show (8 : Int32) = nI 8 from rfl, pk_mul, pk_mul, pk_mul]
  rw [gd_t (cpy_nI (by omega) (by omega) (by decide) (by decide)), gd_t (cpy_nI (by omega) (by omega) (by decide) (by decide)), gd_t (cpy_nI (by omega) (by omega) (by decide) (by decide)), gd_t (cpy_nI (by omega) (by omega) (by decide) (by decide)), gd_t (cpy_nI (by omega) (by omega) (by decide) (by decide)), gd_t (cpy_nI (by omega) (by omega) (by decide) (by decide))]
  rw [cl (show x + 1 < 2 ^ 31 by omega), cl (show x < 2 ^ 31 by omega), cl (show a 0 2 - x - 1 < 2 ^ 31 by omega), cl (show (x + 1) * 8 < 2 ^ 31 by omega), cl (show x * 8 < 2 ^ 31 by omega), cl (show (a 0 2 - x - 1) * 8 < 2 ^ 31 by omega), e3]
  have hr : ∀ r, va_cpy (nO a r) (nO a r) (x + 1) x (a 0 2 - x - 1) = fun k => nI (dr a x (a r) k) := by
    intro r
    funext k
    unfold va_cpy dr
    by_cases c : x ≤ k ∧ k < x + (a 0 2 - x - 1)
    · rw [if_pos c, if_pos c]; rfl
    · rw [if_neg c, if_neg c]; rfl
  have h6 : va_cpy (nO a 6) (nO a 6) ((x + 1) * 8) (x * 8) ((a 0 2 - x - 1) * 8) = fun k => nI (if x * 8 ≤ k ∧ k < x * 8 + (a 0 2 - x - 1) * 8 then a 6 ((x + 1) * 8 + (k - x * 8)) else a 6 k) := by
    funext k
    unfold va_cpy
    by_cases c : x * 8 ≤ k ∧ k < x * 8 + (a 0 2 - x - 1) * 8
    · rw [if_pos c, if_pos c]; rfl
    · rw [if_neg c, if_neg c]; rfl
  rw [hr, hr, hr, hr, hr, h6, sA_nO, sA_nO, sA_nO, sA_nO, sA_nO, sA_nO, sIu]
  congr 2
  funext r
  unfold dw
  by_cases q0 : r = 0
  · rw [if_pos q0, q0, rN_s]; rfl
  rw [if_neg q0, rN_n q0]
  by_cases q6 : r = 6
  · rw [if_neg (by omega), if_pos q6, q6, rN_s]
  rw [rN_n q6]
  by_cases q9 : r = 9
  · rw [if_pos (by omega), q9, rN_s]
  rw [rN_n q9]
  by_cases q8 : r = 8
  · rw [if_pos (by omega), q8, rN_s]
  rw [rN_n q8]
  by_cases q7 : r = 7
  · rw [if_pos (by omega), q7, rN_s]
  rw [rN_n q7]
  by_cases q5 : r = 5
  · rw [if_pos (by omega), q5, rN_s]
  rw [rN_n q5]
  by_cases q4 : r = 4
  · rw [if_pos (by omega), q4, rN_s]
  rw [rN_n q4, if_neg (by omega), if_neg q6]
theorem f_joined_s {b : NO} {o M x y : Nat} (ho : o < 3) (hM : b 0 0 = M) (h1 : 0 < M) (h8 : M ≤ 8) (hx : x < 8) (hy : y < 8) : f_joinedByOrder (nO b) (nI o) (nI x) (nI y) = some (nI (jo o M x y)) := by
  unfold f_joinedByOrder jo
  have em : nO b 0 0 - 1 = nI (M - 1) := by
    rw [show nO b 0 0 = nI M from congrArg nI hM, show M = M - 1 + 1 by omega, nI_pred]; simp
  have mx : (some (if nI x < nI y then nI y else nI x) : Option Int32) = some (nI (if x < y then y else x)) := by
    simp only [nI_ltI (show x < 2 ^ 31 by omega) (show y < 2 ^ 31 by omega)]
    by_cases c : x < y
    · rw [if_pos c, if_pos c]
    · rw [if_neg c, if_neg c]
  rw [em, mx, show (2 : Int32) = nI 2 from rfl, show (1 : Int32) = nI 1 from rfl, show (0 : Int32) = nI 0 from rfl, nx_or]
  simp only [nI_eq (show o < 2 ^ 31 by omega) (show 2 < 2 ^ 31 by decide), nI_eq (show o < 2 ^ 31 by omega) (show 1 < 2 ^ 31 by decide), nI_eq (show x < 2 ^ 31 by omega) (show 0 < 2 ^ 31 by decide), nI_eq (show y < 2 ^ 31 by omega) (show 0 < 2 ^ 31 by decide), nI_eq (show x < 2 ^ 31 by omega) (show y < 2 ^ 31 by omega)]
  by_cases c2 : o = 2
  · rw [if_pos c2, if_pos c2]
  rw [if_neg c2, if_neg c2]
  by_cases c1 : o = 1
  · rw [if_pos c1]
    by_cases d1 : x = 0
    · rw [if_pos d1, if_neg (show ¬ (o = 1 ∧ x ≠ 0 ∧ y ≠ 0 ∧ x ≠ y) by omega)]
    rw [if_neg d1]
    by_cases d2 : y = 0
    · rw [if_pos d2, if_neg (show ¬ (o = 1 ∧ x ≠ 0 ∧ y ≠ 0 ∧ x ≠ y) by omega)]
    rw [if_neg d2]
    by_cases d3 : x = y
    · rw [if_pos d3, if_neg (show ¬ (o = 1 ∧ x ≠ 0 ∧ y ≠ 0 ∧ x ≠ y) by omega)]
    rw [if_neg d3, if_pos ⟨c1, d1, d2, d3⟩]
  · rw [if_neg c1, if_neg (show ¬ (o = 1 ∧ x ≠ 0 ∧ y ≠ 0 ∧ x ≠ y) by omega)]
def Nw (o M P : Nat) (b : NO) : Prop := Bd b ∧ b 0 0 = M ∧ b 0 1 = P ∧ b 0 2 = 0
theorem f_becomeNew_s {a : NO} (hb : Bd a) {o y P : Nat} (ho : o < 3) (h1 : 0 < y) (h8 : y ≤ 8) (hP : P ≤ 10) : ∃ a', f_becomeNew (nO a) (nI o) (nI y) (nI P) = some (nO a') ∧ SW a' (nst o (if o = 2 then 8 else y) P) := by
  generalize hMe : (if o = 2 then 8 else y) = M
  have hM8 : M ≤ 8 := by
    rw [← hMe]; split <;> omega
  have hM1 : 0 < M := by
    rw [← hMe]; split <;> omega
  have hM2 : o = 2 → M = 8 := by
    intro q; rw [← hMe, if_pos q]
  have e0 : f_becomeNew (nO a) (nI o) (nI y) (nI P) = lp_becomeNew_28 (nI o) k_becomeNew_28 10000 0 (nO (rN a 0 (nU (nU (nU (a 0) 0 M) 1 P) 2 0))) := by
    unfold f_becomeNew
    rw [show (2 : Int32) = nI 2 from rfl, show (8 : Int32) = nI 8 from rfl]
    simp only [nI_eq (show o < 2 ^ 31 by omega) (show 2 < 2 ^ 31 by decide)]
    have hs : ∀ m, sI (sI (sI (nO a) 0 (nI m)) 1 (nI P)) 2 0 = nO (rN a 0 (nU (nU (nU (a 0) 0 m) 1 P) 2 0)) := by
      intro m
      rw [sI2, show (0 : Int32) = nI 0 from rfl, sIu, rN_s, rN_rN]
    by_cases c : o = 2
    · rw [if_pos c, hs, hM2 c]
    · rw [if_neg c, hs]
      rw [if_neg c] at hMe
      rw [hMe]
  have hN0 : Nw o M P (rN a 0 (nU (nU (nU (a 0) 0 M) 1 P) 2 0)) := by
    refine ⟨Bd_of (by rw [rN_s]; exact hM8) (by rw [rN_s]; exact hP) (by rw [rN_s, nU_s]; decide) (fun i i0 i9 k => by rw [rN_n i0]; exact Bd_i hb i0 i9 k), by rw [rN_s]; rfl, by rw [rN_s]; rfl, by rw [rN_s, nU_s]⟩
  -- the inner loop
  have inner : ∀ (x : Nat) (b : NO) (kk : Int32 → Ob → Option Ob), x < M → Nw o M P b → (∀ x', x' < x → ∀ y', y' < M → b 1 (x' * 8 + y') = jo o M x' y') → ∃ b', lp_becomeNew_40 (nI o) (nI x) kk 10000 0 (nO b) = kk (nI M) (nO b') ∧ Nw o M P b' ∧ ∀ x', x' < x + 1 → ∀ y', y' < M → b' 1 (x' * 8 + y') = jo o M x' y' := by
    intro x b kk hx hN ht
    obtain ⟨s, ⟨b', rfl, g1, g2, g3⟩, g4⟩ := lp_inv (F := fun fu v (s : Ob) => lp_becomeNew_40 (nI o) (nI x) kk fu v s) (N := M) (inv := fun v s => ∃ b', s = nO b' ∧ Nw o M P b' ∧ (∀ x', x' < x → ∀ y', y' < M → b' 1 (x' * 8 + y') = jo o M x' y') ∧ ∀ y', y' < v → b' 1 (x * 8 + y') = jo o M x y') (ke := fun s => kk (nI M) s)
      (by
        rintro fu v s hv ⟨b', rfl, i1, i2, i3⟩
        try dsimp only
        rw [lp_becomeNew_40, show nO b' 0 0 = nI M from congrArg nI i1.2.1, if_neg (nle hv (by omega)), bd_s (f_joined_s ho i1.2.1 hM1 hM8 (by omega) (by omega)), ix8, gd_t (ck_nI (by omega) (by decide)), cl (by omega), nI_1, sAu]
        refine ⟨_, ⟨rN b' 1 (nU (b' 1) (x * 8 + v) (jo o M x v)), rfl, ⟨Bd_put i1.1 (by decide) (jo_8 hM8 (by omega) (by omega)), i1.2.1, i1.2.2.1, i1.2.2.2⟩, fun x' hx' y' hy' => ?_, fun y' hy' => ?_⟩, rfl⟩
        · rw [rN_s, nU_n (by omega)]; exact i2 x' hx' y' hy'
        · rw [rN_s]
          by_cases c : y' = v
          · rw [c, nU_s]
          · rw [nU_n (by omega)]; exact i3 y' (by omega))
      (by
        rintro fu s ⟨b', rfl, i1, i2, i3⟩
        try dsimp only
        rw [lp_becomeNew_40, show nO b' 0 0 = nI M from congrArg nI i1.2.1, if_pos (nlr (by omega))]) 10000 0 (nO b) ⟨b, rfl, hN, ht, fun y' hy' => by omega⟩ (by omega) (by omega)
    refine ⟨b', g4, g1, fun x' hx' y' hy' => ?_⟩
    by_cases c : x' = x
    · rw [c]; exact g3 y' hy'
    · exact g2 x' (by omega) y' hy'
  obtain ⟨s, ⟨b, rfl, g1, g2⟩, g3⟩ := lp_inv (F := fun fu v (s : Ob) => lp_becomeNew_28 (nI o) k_becomeNew_28 fu v s) (N := M) (inv := fun v s => ∃ b', s = nO b' ∧ Nw o M P b' ∧ ∀ x', x' < v → ∀ y', y' < M → b' 1 (x' * 8 + y') = jo o M x' y') (ke := fun s => k_becomeNew_28 (nI M) s)
    (by
      rintro fu v s hv ⟨b', rfl, i1, i2⟩
      try dsimp only
      rw [lp_becomeNew_28, show nO b' 0 0 = nI M from congrArg nI i1.2.1, if_neg (nle hv (by omega))]
      obtain ⟨b2, j1, j2, j3⟩ := inner v b' (k_becomeNew_40 (nI v) (lp_becomeNew_28 (nI o) k_becomeNew_28 fu)) hv i1 i2
      exact ⟨_, ⟨b2, rfl, j2, j3⟩, by rw [j1, k_becomeNew_40, nI_1]⟩)
    (by
      rintro fu s ⟨b', rfl, i1, i2⟩
      try dsimp only
      rw [lp_becomeNew_28, show nO b' 0 0 = nI M from congrArg nI i1.2.1, if_pos (nlr (by omega))]) 10000 0 _ ⟨_, rfl, hN0, fun x' hx' => by omega⟩ (by omega) (by omega)
  obtain ⟨s, ⟨c, rfl, j1, j2, j3⟩, j4⟩ := lp_inv (F := fun fu v (s : Ob) => lp_becomeNew_86 k_becomeNew_86 fu v s) (N := 10) (inv := fun v s => ∃ c, s = nO c ∧ Nw o M P c ∧ c 1 = b 1 ∧ ∀ p, p < v → c 2 p = 0 ∧ c 3 p = 0) (ke := fun s => some s)
    (by
      rintro fu v s hv ⟨c, rfl, i1, i2, i3⟩
      try dsimp only
      rw [lp_becomeNew_86, show (10 : Int32) = nI 10 from rfl, if_neg (nle hv (by decide)), gd_t (ck_nI (by omega) (by decide)), gd_t (ck_nI (by omega) (by decide)), cl (by omega), nI_1, show (0 : Int32) = nI 0 from rfl, upd_nO, upd_nO, sA_nO, sA_nO]
      refine ⟨_, ⟨rN (rN c 2 (nU (c 2) v 0)) 3 (nU (c 3) v 0), rfl, ⟨?_, i1.2.1, i1.2.2.1, i1.2.2.2⟩, i2, fun p hp => ?_⟩, rfl⟩
      · exact Bd_put (a := rN c 2 (nU (c 2) v 0)) (i := 3) (Bd_put i1.1 (by decide) (by decide)) (by decide) (by decide)
      · show nU (c 2) v 0 p = 0 ∧ nU (c 3) v 0 p = 0
        by_cases q : p = v
        · rw [q, nU_s, nU_s]; exact ⟨rfl, rfl⟩
        · rw [nU_n q, nU_n q]; exact i3 p (by omega))
    (by
      rintro fu s -
      try dsimp only
      rw [lp_becomeNew_86, show (10 : Int32) = nI 10 from rfl, if_pos (nlr (by decide))]
      rfl) 10000 0 (nO b) ⟨b, rfl, g1, rfl, fun p hp => by omega⟩ (by omega) (by omega)
  refine ⟨c, ?_, SW_new j1.1 hM2 hM1 hM8 hP j1.2.1 j1.2.2.1 j1.2.2.2 (fun x hx y hy => by rw [j2]; exact g2 x hx y hy) j3⟩
  rw [e0]
  refine Eq.trans g3 ?_
  rw [k_becomeNew_28]
  exact j4
/-! the past -/
theorem md16 : ∀ n, n < 16 → (nI n + 1) - (nI n + 1) / 16 * 16 = nI ((n + 1) % 16) := by decide +kernel
theorem mn16 : ∀ n, n < 17 → (if 16 < (nI n + 1) then (16 : Int32) else (nI n + 1)) = nI (if n = 16 then 16 else n + 1) := by decide +kernel
theorem mb16 : ∀ n, n < 16 → ∀ j, j < 17 → (((nI n + 16) - nI j) - ((nI n + 16) - nI j) / 16 * 16) = nI ((n + 16 - j) % 16) := by decide +kernel
theorem f_remember_s {pt : Ob} {a : NO} {rg : Nat → Ob} {n k : Nat} {d : NO} (hn : n < 16) (hk : k ≤ 16) (h1 : pt 0 1 = nI n) (h0 : pt 0 0 = nI k) (hd : rg n = nO d) : ∃ pt', f_remember pt (nO a) rg = some (pt', va_up rg n (nO (bc d a))) ∧ pt' 0 0 = nI (if k = 16 then 16 else k + 1) ∧ pt' 0 1 = nI ((n + 1) % 16) := by
  unfold f_remember
  rw [h1, h0, gd_t (ck_nI hn (by decide)), cl (by omega), hd, bd_s (f_become_s d a), md16 n hn, mn16 k (by omega)]
  exact ⟨_, rfl, rfl, rfl⟩
theorem f_bringBack_s {pt : Ob} {a : NO} {rg : Nat → Ob} {n k j : Nat} {d : NO} (hn : n < 16) (hk : k ≤ 16) (hj : j ≤ k) (h1 : pt 0 1 = nI n) (h0 : pt 0 0 = nI k) (hd : rg ((n + 16 - j) % 16) = nO d) : ∃ pt', f_bringBack pt (nO a) rg (nI j) = some (pt', nO (bc a d)) ∧ pt' 0 0 = nI (k - j) ∧ pt' 0 1 = nI ((n + 16 - j) % 16) := by
  unfold f_bringBack
  rw [h1, h0, mb16 n hn j (by omega), gd_t (ck_nI (Nat.mod_lt _ (by decide)) (by decide)), cl (by omega), hd, bd_s (f_become_s a d), pk_sub hj]
  exact ⟨_, rfl, rfl, rfl⟩
