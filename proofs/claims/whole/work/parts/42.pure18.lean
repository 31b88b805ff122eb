/-! the other side's deeds on its rows -/
theorem cpl {R : Type} (F : Nat → Int32 → Ob → Option R) {r c n L : Nat} (S : Nat → Nat) {z0 : NO} (ke : Ob → Option R)
    (hstep : ∀ fu i z, i < n → (∀ q, q ≠ r → z q = z0 q) → (∀ k, ¬ (L ≤ k ∧ k < L + i) → z r k = z0 r k) → F (fu + 1) (nI (c + i)) (nO z) = F fu (nI (c + i + 1)) (nO (rN z r (nU (z r) (L + i) (S i)))))
    (hend : ∀ fu z, (∀ q, q ≠ r → z q = z0 q) → F (fu + 1) (nI (c + n)) (nO z) = ke (nO z)) {fu : Nat} (hf : n < fu) :
    F fu (nI c) (nO z0) = ke (nO (rN z0 r (fun k => if L ≤ k ∧ k < L + n then S (k - L) else z0 r k))) := by
  obtain ⟨s, ⟨z, rfl, g0, g1, g2⟩, g3⟩ := lp_inv F (c + n) (fun i s => ∃ z, s = nO z ∧ c ≤ i ∧ (∀ q, q ≠ r → z q = z0 q) ∧ ∀ k, z r k = if L ≤ k ∧ k < L + (i - c) then S (k - L) else z0 r k) ke
    (by
      rintro fu i s hi ⟨z, rfl, e0, e1, e2⟩
      obtain ⟨j, rfl⟩ : ∃ j, i = c + j := ⟨i - c, by omega⟩
      refine ⟨_, ⟨_, rfl, by omega, fun q hq => ?_, fun k => ?_⟩, hstep fu j z (by omega) e1 (fun k hk => by rw [e2 k, if_neg (by omega)])⟩
      · rw [rN_n hq]; exact e1 q hq
      · rw [rN_s]
        by_cases c1 : k = L + j
        · rw [c1, nU_s, if_pos (by omega)]
          congr 1
          omega
        · rw [nU_n c1, e2 k]
          by_cases c2 : L ≤ k ∧ k < L + (c + j - c)
          · rw [if_pos c2, if_pos (by omega)]
          · rw [if_neg c2, if_neg (by omega)])
    (by
      rintro fu s ⟨z, rfl, e0, e1, e2⟩
      exact hend fu z e1) fu c (nO z0) ⟨z0, rfl, Nat.le_refl _, fun _ _ => rfl, fun k => by rw [if_neg (by omega)]⟩ (by omega) (by omega)
  rw [g3]
  congr 2
  funext q
  by_cases hq : q = r
  · subst hq
    rw [rN_s]
    funext k
    rw [g2 k, show c + n - c = n by omega]
  · rw [rN_n hq]; exact g1 q hq
theorem ix367 (u i : Nat) : 367 * nI u + nI i = nI (367 * u + i) := by rw [show (367 : Int32) = nI 367 from rfl, pk_mul, nI_add]
theorem ix368 (u i : Nat) : 368 * nI u + nI i = nI (368 * u + i) := by rw [show (368 : Int32) = nI 368 from rfl, pk_mul, nI_add]
theorem ad367 (u : Nat) : nI u + 367 = nI (u + 367) := by rw [show (367 : Int32) = nI 367 from rfl, nI_add]
theorem ad13 (u : Nat) : nI u + 13 = nI (u + 13) := by rw [show (13 : Int32) = nI 13 from rfl, nI_add]
theorem sb1 {n : Nat} (h : 0 < n) : nI n - 1 = nI (n - 1) := by
  rw [show n = n - 1 + 1 by omega, nI_pred]; simp
theorem m_notes52 {z : NO} (h : z 0 2 < 16) : lp_m_notes_52 k_m_notes_52 10000 0 (nO z) = some (nO (rN (rN z 2 (fun k => if 367 * z 0 2 ≤ k ∧ k < 367 * z 0 2 + 367 then z 1 (k - 367 * z 0 2) else z 2 k)) 0 (nU (z 0) 2 (z 0 2 + 1)))) := by
  have key := cpl (F := fun fu i s => lp_m_notes_52 k_m_notes_52 fu i s) (r := 2) (c := 0) (n := 367) (L := 367 * z 0 2) (S := fun i => z 1 i) (z0 := z) (ke := fun s => k_m_notes_52 (nI 367) s)
    (by
      intro fu i w hi h1 h2
      rw [Nat.zero_add]
      try dsimp only
      rw [lp_m_notes_52, if_neg (show ¬ (367 : Int32) ≤ nI i from nle (a := 367) hi (by decide)), gd_t (ck_nI hi (by decide)), show nO w 0 2 = nI (z 0 2) from congrArg nI (by rw [h1 0 (by decide)]), ix367, gd_t (ck_nI (by omega) (by decide)), cl (by omega), cl (by omega), nI_1, show nO w 1 i = nI (z 1 i) from congrArg nI (by rw [h1 1 (by decide)]), sAu])
    (by
      intro fu w h1
      try dsimp only
      rw [Nat.zero_add, lp_m_notes_52, if_pos (show (367 : Int32) ≤ nI 367 from nlr (a := 367) (by decide))]) (fu := 10000) (by decide)
  refine Eq.trans key ?_
  try dsimp only
  rw [k_m_notes_52]
  generalize hw : rN z 2 (fun k => if 367 * z 0 2 ≤ k ∧ k < 367 * z 0 2 + 367 then z 1 (k - 367 * z 0 2) else z 2 k) = w
  have e0 : w 0 = z 0 := by rw [← hw]; rfl
  rw [show nO w 0 2 = nI (z 0 2) from congrArg nI (by rw [e0]), nI_1, sIu, e0]
theorem m_notes_s {z : NO} (h : z 0 2 ≤ 16) : ∃ z', f_m_notes (nO z) = some (nO z') ∧ (∀ q, q ≠ 0 → q ≠ 2 → z' q = z q) ∧ (∀ k, k ≠ 2 → z' 0 k = z 0 k) ∧ z' 0 2 = (if z 0 2 = 16 then 16 else z 0 2 + 1) ∧ (∀ i k, k < 367 → i < (if z 0 2 = 16 then 15 else z 0 2) → z' 2 (367 * i + k) = z 2 (367 * (if z 0 2 = 16 then i + 1 else i) + k)) ∧ ∀ k, k < 367 → z' 2 (367 * (if z 0 2 = 16 then 15 else z 0 2) + k) = z 1 k := by
  unfold f_m_notes
  rw [show nO z 0 2 = nI (z 0 2) from rfl, show (16 : Int32) = nI 16 from rfl]
  simp only [nI_eq (show z 0 2 < 2 ^ 31 by omega) (show 16 < 2 ^ 31 by decide)]
  by_cases c : z 0 2 = 16
  · simp only [if_pos c]
    have key := cpl (F := fun fu i s => lp_m_notes_11 k_m_notes_11 fu i s) (r := 2) (c := 0) (n := 5505) (L := 0) (S := fun i => z 2 (i + 367)) (z0 := z) (ke := fun s => k_m_notes_11 (nI 5505) s)
      (by
        intro fu i w hi h1 h2
        rw [Nat.zero_add]
        try dsimp only
        rw [lp_m_notes_11, if_neg (show ¬ (5505 : Int32) ≤ nI i from nle (a := 5505) hi (by decide)), ad367, gd_t (ck_nI (by omega) (by decide)), gd_t (ck_nI (by omega) (by decide)), cl (by omega), cl (by omega), nI_1, show nO w 2 (i + 367) = nI (z 2 (i + 367)) from congrArg nI (h2 _ (by omega)), sAu])
      (by
        intro fu w h1
        try dsimp only
        rw [Nat.zero_add, lp_m_notes_11, if_pos (show (5505 : Int32) ≤ nI 5505 from nlr (a := 5505) (by decide))]) (fu := 10000) (by decide)
    have key : lp_m_notes_11 k_m_notes_11 10000 0 (nO z) = _ := key
    rw [key]
    try dsimp only
    rw [k_m_notes_11]
    generalize hw : rN z 2 (fun k => if 0 ≤ k ∧ k < 0 + 5505 then z 2 (k - 0 + 367) else z 2 k) = w
    have e0 : w 0 = z 0 := by rw [← hw]; rfl
    have e2 : ∀ k, k < 5505 → w 2 k = z 2 (k + 367) := by
      intro k hk
      rw [← hw, rN_s, if_pos (by omega)]
      rfl
    rw [show nO w 0 2 = nI 16 from congrArg nI (by rw [e0]; exact c), show nI 16 - 1 = nI 15 from rfl, sIu, m_notes52 (by rw [rN_s, nU_s]; decide)]
    refine ⟨_, rfl, fun q q0 q2 => ?_, fun k hk => ?_, ?_, fun i k hk hi => ?_, fun k hk => ?_⟩
    · rw [rN_n q0, rN_n q2, rN_n q0, ← hw, rN_n q2]
    · rw [rN_s, nU_n hk, rN_s, nU_n hk, e0]
    · rw [rN_s, nU_s, rN_s, nU_s]
    · rw [rN_n (by decide), rN_s, rN_s, nU_s, if_neg (by omega)]
      rw [rN_n (by decide), e2 _ (by omega)]
      exact congrArg (z 2) (by omega)
    · rw [rN_n (by decide), rN_s, rN_s, nU_s, if_pos (by omega), rN_n (by decide), ← hw, rN_n (by decide)]
      exact congrArg (z 1) (by omega)
  · simp only [if_neg c]
    rw [m_notes52 (by omega)]
    refine ⟨_, rfl, fun q q0 q2 => ?_, fun k hk => ?_, ?_, fun i k hk hi => ?_, fun k hk => ?_⟩
    · rw [rN_n q0, rN_n q2]
    · rw [rN_s, nU_n hk]
    · rw [rN_s, nU_s]
    · rw [rN_n (by decide), rN_s, if_neg (by
        have : 367 * i + 367 ≤ 367 * z 0 2 := by omega
        omega)]
    · rw [rN_n (by decide), rN_s, if_pos (by omega)]
      exact congrArg (z 1) (by omega)
theorem m_comes_s {z : NO} (i j g t h : Nat) (hW : z 1 2 < 20) : f_m_comes (nO z) (nI i) (nI j) (nI g) (nI t) (nI h) = some (nO (rN z 1 (sw (z 1) i j g t h))) := by
  unfold f_m_comes
  have ixw : ∀ m, (107 + 13 * nI (z 1 2)) + nI m = nI (107 + 13 * z 1 2 + m) := fun m => by rw [show (107 : Int32) = nI 107 from rfl, show (13 : Int32) = nI 13 from rfl, pk_mul, nI_add, nI_add]
  rw [c2, show nO z 1 2 = nI (z 1 2) from rfl, show (107 + 13 * nI (z 1 2)) + 0 = nI (107 + 13 * z 1 2 + 0) from ixw 0, show (107 + 13 * nI (z 1 2)) + 1 = nI (107 + 13 * z 1 2 + 1) from ixw 1, show (107 + 13 * nI (z 1 2)) + 2 = nI (107 + 13 * z 1 2 + 2) from ixw 2, show (107 + 13 * nI (z 1 2)) + 3 = nI (107 + 13 * z 1 2 + 3) from ixw 3, show (107 + 13 * nI (z 1 2)) + 4 = nI (107 + 13 * z 1 2 + 4) from ixw 4]
  rw [gd_t (ck_nI (by omega) (by decide)), gd_t (ck_nI (by omega) (by decide)), gd_t (ck_nI (by omega) (by decide)), gd_t (ck_nI (by omega) (by decide)), gd_t (ck_nI (by omega) (by decide)), sA_sA, sA_sA, sA_sA, sA_sA, cl (by omega), cl (by omega), cl (by omega), cl (by omega), cl (by omega), upd_nO, upd_fn, upd_fn, upd_fn, upd_fn, sA_nO]
  generalize hg : nU (nU (nU (nU (nU (z 1) (107 + 13 * z 1 2 + 0) i) (107 + 13 * z 1 2 + 1) j) (107 + 13 * z 1 2 + 2) g) (107 + 13 * z 1 2 + 3) t) (107 + 13 * z 1 2 + 4) h = g1
  have key := cpl (F := fun fu v s => lp_m_comes_69 (nO z) k_m_comes_69 fu v s) (r := 1) (c := 0) (n := 8) (L := 112 + 13 * z 1 2) (S := fun v => v) (z0 := rN z 1 g1) (ke := fun s => k_m_comes_69 (nI 8) s)
    (by
      intro fu v w hv h1 h2
      rw [Nat.zero_add]
      try dsimp only
      rw [lp_m_comes_69, if_neg (show ¬ (8 : Int32) ≤ nI v from nle (a := 8) hv (by decide)), c2, show nO z 1 2 = nI (z 1 2) from rfl, show (107 + 13 * nI (z 1 2)) + 5 = nI (107 + 13 * z 1 2 + 5) from ixw 5, nI_add, gd_t (ck_nI (by omega) (by decide)), cl (by omega), nI_1, sAu, show 107 + 13 * z 1 2 + 5 + v = 112 + 13 * z 1 2 + v by omega])
    (by
      intro fu w h1
      try dsimp only
      rw [Nat.zero_add, lp_m_comes_69, if_pos (show (8 : Int32) ≤ nI 8 from nlr (a := 8) (by decide))]) (fu := 10000) (by decide)
  refine Eq.trans key ?_
  try dsimp only
  rw [rN_rN, rN_s, k_m_comes_69, c2]
  generalize hg2 : (fun k => if 112 + 13 * z 1 2 ≤ k ∧ k < 112 + 13 * z 1 2 + 8 then k - (112 + 13 * z 1 2) else g1 k) = g2
  have hg3 : ∀ k, g2 k = if 112 + 13 * z 1 2 ≤ k ∧ k < 112 + 13 * z 1 2 + 8 then k - (112 + 13 * z 1 2) else g1 k := fun k => by rw [← hg2]
  have e2 : g2 2 = z 1 2 := by
    rw [hg3, if_neg (by omega), ← hg, nU_n (by omega), nU_n (by omega), nU_n (by omega), nU_n (by omega), nU_n (by omega)]
  rw [show nO (rN z 1 g2) 1 2 = nI (z 1 2) from congrArg nI (by rw [rN_s, e2]), nI_1, sAu, rN_rN, rN_s]
  congr 3
  funext k
  unfold sw
  by_cases q2 : k = 2
  · rw [if_pos q2, q2, nU_s]
  rw [if_neg q2, nU_n q2, hg3]
  by_cases c : 112 + 13 * z 1 2 ≤ k ∧ k < 120 + 13 * z 1 2
  · rw [if_pos (show 112 + 13 * z 1 2 ≤ k ∧ k < 112 + 13 * z 1 2 + 8 by omega), if_neg (by omega), if_neg (by omega), if_neg (by omega), if_neg (by omega), if_neg (by omega), if_pos c]
  rw [if_neg (show ¬ (112 + 13 * z 1 2 ≤ k ∧ k < 112 + 13 * z 1 2 + 8) by omega), if_neg c, ← hg]
  by_cases d4 : k = 111 + 13 * z 1 2
  · rw [if_neg (by omega), if_neg (by omega), if_neg (by omega), if_neg (by omega), if_pos d4, d4, show 111 + 13 * z 1 2 = 107 + 13 * z 1 2 + 4 by omega, nU_s]
  rw [if_neg d4, nU_n (show k ≠ 107 + 13 * z 1 2 + 4 by omega)]
  by_cases d3 : k = 110 + 13 * z 1 2
  · rw [if_neg (by omega), if_neg (by omega), if_neg (by omega), if_pos d3, d3, show 110 + 13 * z 1 2 = 107 + 13 * z 1 2 + 3 by omega, nU_s]
  rw [if_neg d3, nU_n (show k ≠ 107 + 13 * z 1 2 + 3 by omega)]
  by_cases d2 : k = 109 + 13 * z 1 2
  · rw [if_neg (by omega), if_neg (by omega), if_pos d2, d2, show 109 + 13 * z 1 2 = 107 + 13 * z 1 2 + 2 by omega, nU_s]
  rw [if_neg d2, nU_n (show k ≠ 107 + 13 * z 1 2 + 2 by omega)]
  by_cases d1 : k = 108 + 13 * z 1 2
  · rw [if_neg (by omega), if_pos d1, d1, show 108 + 13 * z 1 2 = 107 + 13 * z 1 2 + 1 by omega, nU_s]
  rw [if_neg d1, nU_n (show k ≠ 107 + 13 * z 1 2 + 1 by omega)]
  by_cases d0 : k = 107 + 13 * z 1 2
  · rw [if_pos d0, d0, show 107 + 13 * z 1 2 = 107 + 13 * z 1 2 + 0 by omega, nU_s]
  rw [if_neg d0, nU_n (show k ≠ 107 + 13 * z 1 2 + 0 by omega)]
theorem m_drop_l {z : NO} {x : Nat} (hW : z 1 2 ≤ 20) (hx : x < z 1 2) : lp_m_drop_23 k_m_drop_23 10000 (107 + 13 * nI x) (nO z) = some (nI (z 1 2 - 1), nO (rN z 1 (ds (z 1) x))) := by
  rw [show (107 : Int32) + 13 * nI x = nI (107 + 13 * x) by rw [show (107 : Int32) = nI 107 from rfl, show (13 : Int32) = nI 13 from rfl, pk_mul, nI_add]]
  have key := cpl (F := fun fu v s => lp_m_drop_23 k_m_drop_23 fu v s) (r := 1) (c := 107 + 13 * x) (n := 354 - (107 + 13 * x)) (L := 107 + 13 * x) (S := fun i => z 1 (107 + 13 * x + i + 13)) (z0 := z) (ke := fun s => k_m_drop_23 (nI 354) s)
    (by
      intro fu i w hi h1 h2
      try dsimp only
      rw [lp_m_drop_23, ad13, if_neg (show ¬ (367 : Int32) ≤ nI (107 + 13 * x + i + 13) from nle (a := 367) (by omega) (by decide)), gd_t (ck_nI (by omega) (by decide)), gd_t (ck_nI (by omega) (by decide)), cl (by omega), cl (by omega), nI_1, show nO w 1 (107 + 13 * x + i + 13) = nI (z 1 (107 + 13 * x + i + 13)) from congrArg nI (h2 _ (by omega)), sAu])
    (by
      intro fu w h1
      try dsimp only
      rw [show 107 + 13 * x + (354 - (107 + 13 * x)) = 354 by omega, lp_m_drop_23, ad13, if_pos (show (367 : Int32) ≤ nI (354 + 13) from nlr (a := 367) (by decide))]) (fu := 10000) (by omega)
  refine Eq.trans key ?_
  try dsimp only
  rw [k_m_drop_23, c2]
  generalize hg2 : (fun k => if 107 + 13 * x ≤ k ∧ k < 107 + 13 * x + (354 - (107 + 13 * x)) then z 1 (107 + 13 * x + (k - (107 + 13 * x)) + 13) else z 1 k) = g2
  have hg3 : ∀ k, g2 k = if 107 + 13 * x ≤ k ∧ k < 107 + 13 * x + (354 - (107 + 13 * x)) then z 1 (107 + 13 * x + (k - (107 + 13 * x)) + 13) else z 1 k := fun k => by rw [← hg2]
  have e2 : g2 2 = z 1 2 := by rw [hg3, if_neg (by omega)]
  rw [show nO (rN z 1 g2) 1 2 = nI (z 1 2) from congrArg nI (by rw [rN_s, e2]), sb1 (by omega), sAu, rN_rN, rN_s, show upd (nO (rN z 1 g2) 1) 2 (nI (z 1 2 - 1)) 2 = nI (z 1 2 - 1) from if_pos rfl]
  congr 3
  congr 1
  funext k
  unfold ds
  by_cases q2 : k = 2
  · rw [if_pos q2, q2, nU_s]
  rw [if_neg q2, nU_n q2, hg3]
  by_cases c : 107 + 13 * x ≤ k ∧ k < 354
  · rw [if_pos c, if_pos (by omega)]
    exact congrArg (z 1) (by omega)
  · rw [if_neg c, if_neg (by omega)]
theorem m_undo_l {z : NO} (h : z 0 2 < 16) : lp_m_undo_36 k_m_undo_36 10000 0 (nO z) = some (nI (z 2 (367 * z 0 2 + 2)), nO (rN z 1 (fun k => if k < 367 then z 2 (367 * z 0 2 + k) else z 1 k))) := by
  have key := cpl (F := fun fu v s => lp_m_undo_36 k_m_undo_36 fu v s) (r := 1) (c := 0) (n := 367) (L := 0) (S := fun i => z 2 (367 * z 0 2 + i)) (z0 := z) (ke := fun s => k_m_undo_36 (nI 367) s)
    (by
      intro fu i w hi h1 h2
      rw [Nat.zero_add]
      try dsimp only
      rw [lp_m_undo_36, if_neg (show ¬ (367 : Int32) ≤ nI i from nle (a := 367) hi (by decide)), show nO w 0 2 = nI (z 0 2) from congrArg nI (by rw [h1 0 (by decide)]), ix367, gd_t (ck_nI (by omega) (by decide)), gd_t (ck_nI hi (by decide)), cl (by omega), cl (by omega), nI_1, show nO w 2 (367 * z 0 2 + i) = nI (z 2 (367 * z 0 2 + i)) from congrArg nI (by rw [h1 2 (by decide)]), sAu])
    (by
      intro fu w h1
      try dsimp only
      rw [Nat.zero_add, lp_m_undo_36, if_pos (show (367 : Int32) ≤ nI 367 from nlr (a := 367) (by decide))]) (fu := 10000) (by decide)
  refine Eq.trans key ?_
  try dsimp only
  rw [k_m_undo_36, c2]
  have e : (fun k => if 0 ≤ k ∧ k < 0 + 367 then z 2 (367 * z 0 2 + (k - 0)) else z 1 k) = fun k => if k < 367 then z 2 (367 * z 0 2 + k) else z 1 k := by
    funext k
    by_cases c : k < 367
    · rw [if_pos c, if_pos (by omega)]; rfl
    · rw [if_neg c, if_neg (by omega)]
  rw [e]
  rfl
theorem m_keep_l {z : NO} {x : Nat} (hx : x < 2) (kk : Int32 → Ob → Option (Int32 × Ob)) : lp_m_keep_14 (nI x) kk 10000 0 (nO z) = kk (nI 367) (nO (rN z 3 (fun k => if 368 * x ≤ k ∧ k < 368 * x + 367 then z 1 (k - 368 * x) else z 3 k))) := by
  refine cpl (F := fun fu v s => lp_m_keep_14 (nI x) kk fu v s) (r := 3) (c := 0) (n := 367) (L := 368 * x) (S := fun i => z 1 i) (z0 := z) (ke := fun s => kk (nI 367) s)
    (by
      intro fu i w hi h1 h2
      rw [Nat.zero_add]
      try dsimp only
      rw [lp_m_keep_14, if_neg (show ¬ (367 : Int32) ≤ nI i from nle (a := 367) hi (by decide)), ix368, gd_t (ck_nI hi (by decide)), gd_t (ck_nI (by omega) (by decide)), cl (by omega), cl (by omega), nI_1, show nO w 1 i = nI (z 1 i) from congrArg nI (by rw [h1 1 (by decide)]), sAu])
    (by
      intro fu w h1
      try dsimp only
      rw [Nat.zero_add, lp_m_keep_14, if_pos (show (367 : Int32) ≤ nI 367 from nlr (a := 367) (by decide))]) (fu := 10000) (by decide)
theorem m_back_l {z : NO} {x : Nat} (hx : x < 2) (kk : Int32 → Ob → Option (Int32 × Ob)) : lp_m_goBack_26 (nI x) kk 10000 0 (nO z) = kk (nI 367) (nO (rN z 1 (fun k => if k < 367 then z 3 (368 * x + k) else z 1 k))) := by
  have key := cpl (F := fun fu v s => lp_m_goBack_26 (nI x) kk fu v s) (r := 1) (c := 0) (n := 367) (L := 0) (S := fun i => z 3 (368 * x + i)) (z0 := z) (ke := fun s => kk (nI 367) s)
    (by
      intro fu i w hi h1 h2
      rw [Nat.zero_add]
      try dsimp only
      rw [lp_m_goBack_26, if_neg (show ¬ (367 : Int32) ≤ nI i from nle (a := 367) hi (by decide)), ix368, gd_t (ck_nI (by omega) (by decide)), gd_t (ck_nI hi (by decide)), cl (by omega), cl (by omega), nI_1, show nO w 3 (368 * x + i) = nI (z 3 (368 * x + i)) from congrArg nI (by rw [h1 3 (by decide)]), sAu])
    (by
      intro fu w h1
      try dsimp only
      rw [Nat.zero_add, lp_m_goBack_26, if_pos (show (367 : Int32) ≤ nI 367 from nlr (a := 367) (by decide))]) (fu := 10000) (by decide)
  refine Eq.trans key ?_
  have e : (fun k => if 0 ≤ k ∧ k < 0 + 367 then z 3 (368 * x + (k - 0)) else z 1 k) = fun k => if k < 367 then z 3 (368 * x + k) else z 1 k := by
    funext k
    by_cases c : k < 367
    · rw [if_pos c, if_pos (by omega)]; rfl
    · rw [if_neg c, if_neg (by omega)]
  rw [e]
