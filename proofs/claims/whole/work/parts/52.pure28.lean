/-! draws, what is undone, the book, the seed, images -/
section DG
variable {f pt i0 v0 i1 v1 bk : Ob} {a z : NO} {rg : Nat → Ob}
theorem in116 {j : Nat} (h0 : 0 < j) (hj : j < 2 ^ 31) : f_m_in (nI j) 1 16 = if j ≤ 16 then some 1 else some 0 := by
  unfold f_m_in
  rw [if_neg (show ¬ nI j < 1 from fun q => by have := (nI_ltI (b := 1) hj (by decide)).mp q; omega)]
  have e : (16 : Int32) < nI j ↔ 16 < j := nI_ltI (a := 16) (by decide) hj
  by_cases c : j ≤ 16
  · rw [if_pos c, if_neg (fun q => by have := e.mp q; omega)]
  · rw [if_neg c, if_pos (e.mpr (by omega))]
theorem drift_s (h : Sm f a pt i0 v0 i1 v1 bk z rg) (x : Int32) : ∃ r f' a' pt' rg' z', f_x_drift f (nO a) pt rg x = some (r, f', nO a', pt', rg') ∧ f_m_drift (nO z) x = some (r, nO z') ∧ Sm f' a' pt' i0 v0 i1 v1 bk z' rg' := by
  unfold f_x_drift f_m_drift
  rcases lt1_any x with hx | ⟨j, h0, hj, rfl⟩
  · rw [if_pos hx, show f_m_in x 1 16 = some 0 from if_pos hx, bd_s rfl, if_pos rfl]
    exact ⟨_, _, _, _, _, _, rfl, rfl, h⟩
  rw [if_neg (show ¬ nI j < 1 from fun q => by have := (nI_ltI (b := 1) hj (by decide)).mp q; omega), in116 h0 hj]
  have e : nI j ≤ 16 ↔ j ≤ 16 := nI_leI (b := 16) hj (by decide)
  by_cases c : j ≤ 16
  · rw [if_pos (e.mpr c), if_pos c, bd_s (v := 1) rfl, if_neg (show ¬ (1 : Int32) = 0 by decide)]
    exact drift_l c j 0 f a pt z rg 10000 10000 (by omega) (by omega) (by omega) h
  · rw [if_neg (fun q => c (e.mp q)), if_neg c, bd_s rfl, if_pos rfl]
    exact ⟨_, _, _, _, _, _, rfl, rfl, h⟩
theorem undo_s (h : Sm f a pt i0 v0 i1 v1 bk z rg) (x : Int32) : ∃ r a' pt' z', f_x_undo f (nO a) pt rg x = some (r, nO a', pt') ∧ f_m_undo (nO z) x = some (r, nO z') ∧ Sm f a' pt' i0 v0 i1 v1 bk z' rg := by
  unfold f_x_undo f_m_undo
  rcases lt1_any x with hx | ⟨j, h0, hj, rfl⟩
  · rw [if_pos hx, show f_m_in x 1 16 = some 0 from if_pos hx, bd_s rfl, if_pos rfl]
    exact ⟨_, _, _, _, rfl, rfl, h⟩
  rw [if_neg (show ¬ nI j < 1 from fun q => by have := (nI_ltI (b := 1) hj (by decide)).mp q; omega), in116 h0 hj]
  have e : nI j ≤ 16 ↔ j ≤ 16 := nI_leI (b := 16) hj (by decide)
  by_cases c : j ≤ 16
  · rw [if_pos (e.mpr c), if_pos c, bd_s (v := 1) rfl, if_neg (show ¬ (1 : Int32) = 0 by decide)]
    have h' := h
    obtain ⟨h1, h2, ⟨n, ra, p1, p2, p3, p4, p5, p6⟩, h4, h5, h6, h7⟩ := h
    rw [p3, show nO z 0 2 = nI (z 0 2) from rfl]
    have e2 : nI j ≤ nI (z 0 2) ↔ j ≤ z 0 2 := nI_leI hj (by omega)
    by_cases d : j ≤ z 0 2
    · rw [if_pos (e2.mpr d), if_pos (e2.mpr d), pk_sub d, sIu]
      obtain ⟨pt', t1, t2, t3⟩ := f_bringBack_s (a := a) (j := j) p1 p4 d p2 p3 (p5 ((n + 16 - j) % 16)).1
      have hold := p6 (z 0 2 - j) (by omega)
      rw [show (n + 16 - z 0 2 + (z 0 2 - j)) % 16 = (n + 16 - j) % 16 by omega] at hold
      have ul := m_undo_l (z := rN z 0 (nU (z 0) 2 (z 0 2 - j))) (by rw [rN_s, nU_s]; omega)
      rw [show (rN z 0 (nU (z 0) 2 (z 0 2 - j))) 0 2 = z 0 2 - j by rw [rN_s, nU_s], show (rN z 0 (nU (z 0) 2 (z 0 2 - j))) 2 = z 2 from rfl] at ul
      rw [bd_s t1, ul]
      try dsimp only
      rw [show nO (bc a (ra ((n + 16 - j) % 16))) 0 2 = nI (z 2 (367 * (z 0 2 - j) + 2)) from congrArg nI (by rw [bc_0 (by decide)]; exact hold.e2.symm)]
      refine ⟨_, bc a (ra ((n + 16 - j) % 16)), pt', _, rfl, rfl, ?_⟩
      · refine ⟨?_, h2, ?_, IM_c h4 rfl rfl, IM_c h5 rfl rfl, BK_c h6 rfl rfl, RB_c h7 rfl⟩
        · rw [rN_s]
          exact SW_c (SW_bc h1.bd hold) (fun k hk => if_pos hk)
        · have eu : rN (rN z 0 (nU (z 0) 2 (z 0 2 - j))) 1 (fun k => if k < 367 then z 2 (367 * (z 0 2 - j) + k) else (rN z 0 (nU (z 0) 2 (z 0 2 - j))) 1 k) 0 2 = z 0 2 - j := rfl
          refine ⟨(n + 16 - j) % 16, ra, Nat.mod_lt _ (by decide), t3, by rw [eu]; exact t2, by rw [eu]; omega, p5, fun i hi => ?_⟩
          rw [eu] at hi ⊢
          have := p6 i (by omega)
          rw [show ((n + 16 - j) % 16 + 16 - (z 0 2 - j) + i) % 16 = (n + 16 - z 0 2 + i) % 16 by omega]
          exact this
    · rw [if_neg (fun q => d (e2.mp q)), if_neg (fun q => d (e2.mp q))]
      exact ⟨_, _, _, _, rfl, rfl, h'⟩
  · rw [if_neg (fun q => c (e.mp q)), if_neg c, bd_s rfl, if_pos rfl]
    exact ⟨_, _, _, _, rfl, rfl, h⟩
theorem note_s (h : Sm f a pt i0 v0 i1 v1 bk z rg) (x y v : Int32) : ∃ r bk' z', f_x_note f (nO a) bk x y v = some (r, bk') ∧ f_m_note (nO z) x y v = some (r, nO z') ∧ Sm f a pt i0 v0 i1 v1 bk' z' rg := by
  have s := h.sw
  have hM := s.bd.1
  have hP := s.bd.2.1
  unfold f_x_note f_m_note
  rw [bd_s (f_hasPlace_s s.bd), bd_s (m_pla s x)]
  by_cases hx : hv (a 0 1) x
  · rw [if_neg (b01_n hx), if_neg (b01_n hx), bd_s (f_hasValue_s s.bd), bd_s (m_val s y)]
    by_cases hy : hv (a 0 0) y
    · rw [if_neg (b01_n hy), if_neg (b01_n hy), bd_s (set_x v), bd_s (set_m v)]
      by_cases hz : hv 256 v
      · rw [if_neg (b01_n hz), if_neg (b01_n hz)]
        obtain ⟨p, hp, rfl⟩ := hx
        obtain ⟨u, hu, rfl⟩ := hy
        obtain ⟨k, hk, rfl⟩ := hz
        have h' := h
        obtain ⟨h1, h2, h3, h4, h5, ⟨b1, b2, b3⟩, h7⟩ := h
        have e1 : nI (z 0 7) < 20 ↔ z 0 7 < 20 := nI_ltI (b := 20) (by omega) (by decide)
        have e2 : nI (z 0 7) = 20 ↔ z 0 7 = 20 := nI_eq (b := 20) (by omega) (by decide)
        rw [b1, show nO z 0 7 = nI (z 0 7) from rfl]
        by_cases c : z 0 7 < 20
        · rw [if_pos (e1.mpr c), if_neg (fun q => by have := e2.mp q; omega)]
          unfold f_add
          rw [b1, gd_t (ck_nI c (by decide)), gd_t (ck_nI c (by decide)), bd_s rfl, ix3, nI_1, nI_1, ad2, ix256, gd_t (ck_nI (by omega) (by decide)), gd_t (ck_nI (by omega) (by decide)), gd_t (ck_nI (by omega) (by decide)), cl (by omega), cl (by omega), cl (by omega), cl (by omega), sA_sA, sA_sA, upd_nO, upd_fn, upd_fn, sA_nO, sIu]
          refine ⟨_, _, _, rfl, rfl, h1, h2, PS_c h3 rfl rfl, IM_c h4 rfl rfl, IM_c h5 rfl rfl, ⟨?_, ?_, fun i hi => ?_⟩, RB_c h7 rfl⟩
          · rfl
          · show z 0 7 + 1 ≤ 20
            omega
          · have hi : i < z 0 7 + 1 := hi
            show nU (nU (nU (z 5) (3 * z 0 7) p) (3 * z 0 7 + 1) u) (3 * z 0 7 + 2) k (3 * i) < 10 ∧ nU (nU (nU (z 5) (3 * z 0 7) p) (3 * z 0 7 + 1) u) (3 * z 0 7 + 2) k (3 * i + 1) < 8 ∧ nU (nU (nU (z 5) (3 * z 0 7) p) (3 * z 0 7 + 1) u) (3 * z 0 7 + 2) k (3 * i + 2) < 256 ∧ upd (bk 1) (z 0 7) (nI p) i = nI (nU (nU (nU (z 5) (3 * z 0 7) p) (3 * z 0 7 + 1) u) (3 * z 0 7 + 2) k (3 * i)) ∧ upd (bk 2) (z 0 7) (nI (u * 256 + k)) i = nI (nU (nU (nU (z 5) (3 * z 0 7) p) (3 * z 0 7 + 1) u) (3 * z 0 7 + 2) k (3 * i + 1) * 256 + nU (nU (nU (z 5) (3 * z 0 7) p) (3 * z 0 7 + 1) u) (3 * z 0 7 + 2) k (3 * i + 2))
            by_cases d : i = z 0 7
            · rw [d, nU_s, nU_n (show 3 * z 0 7 ≠ 3 * z 0 7 + 2 by omega), nU_n (show 3 * z 0 7 ≠ 3 * z 0 7 + 1 by omega), nU_s, nU_n (show 3 * z 0 7 + 1 ≠ 3 * z 0 7 + 2 by omega), nU_s, pk_us, pk_us]
              exact ⟨by omega, by omega, hk, rfl, rfl⟩
            · rw [nU_n (by omega), nU_n (by omega), nU_n (by omega), nU_n (by omega), nU_n (by omega), nU_n (by omega), nU_n (by omega), nU_n (by omega), nU_n (by omega), pk_un d, pk_un d]
              exact b3 i (by omega)
        · rw [if_neg (fun q => c (e1.mp q)), if_pos (e2.mpr (by omega))]
          exact ⟨_, _, _, rfl, rfl, h'⟩
      · rw [if_pos (b01_f hz), if_pos (b01_f hz)]
        exact ⟨_, _, _, rfl, rfl, h⟩
    · rw [if_pos (b01_f hy), if_pos (b01_f hy)]
      exact ⟨_, _, _, rfl, rfl, h⟩
  · rw [if_pos (b01_f hx), if_pos (b01_f hx)]
    exact ⟨_, _, _, rfl, rfl, h⟩
theorem tear_s (h : Sm f a pt i0 v0 i1 v1 bk z rg) : ∃ r bk' z', f_x_tear f bk = some (r, bk') ∧ f_m_tear (nO z) = some (r, nO z') ∧ Sm f a pt i0 v0 i1 v1 bk' z' rg := by
  unfold f_x_tear f_m_tear
  obtain ⟨h1, h2, h3, h4, h5, ⟨b1, b2, b3⟩, h7⟩ := h
  rw [b1, show nO z 0 7 = nI (z 0 7) from rfl, show sI (nO z) 7 0 = nO (rN z 0 (nU (z 0) 7 0)) from sIu z 7 0]
  refine ⟨_, _, _, rfl, rfl, h1, h2, PS_c h3 rfl rfl, IM_c h4 rfl rfl, IM_c h5 rfl rfl, ⟨rfl, ?_, fun i hi => ?_⟩, RB_c h7 rfl⟩
  · show 0 ≤ 20
    omega
  · have hi : i < 0 := hi
    omega
theorem seed_s (h : Sm f a pt i0 v0 i1 v1 bk z rg) (x : Int32) : ∃ r f' z', f_x_seed f x = some (r, f') ∧ f_m_seed (nO z) x = some (r, nO z') ∧ Sm f' a pt i0 v0 i1 v1 bk z' rg := by
  unfold f_x_seed f_m_seed
  rcases nI_any x with hx | ⟨j, hj, rfl⟩
  · have hn : ¬ (0 : Int32) ≤ x := by
      intro q
      rw [Int32.le_iff_toInt_le] at q
      rw [Int32.lt_iff_toInt_lt] at hx
      omega
    rw [if_neg hn, if_neg hn]
    exact ⟨_, _, _, rfl, rfl, h⟩
  · rw [if_pos (nI_pos' hj), if_pos (nI_pos' hj), h.2.1.1, show nO z 0 5 = nI (z 0 5) from rfl, sIu]
    exact ⟨_, _, _, rfl, rfl, h.sd rfl hj⟩
theorem PS_0 {z' : NO} (h : PS pt rg z) (e : z' 0 2 = 0) : PS (sI pt 0 0) rg z' := by
  obtain ⟨n, ra, p1, p2, p3, p4, p5, p6⟩ := h
  exact ⟨n, ra, p1, p2, by rw [e]; rfl, by rw [e]; omega, p5, fun i hi => by omega⟩
theorem in01 (x : Int32) : f_m_in x 0 1 = some (b01 (hv 2 x)) := in_s (n := 1) (by decide)
theorem keep_row {x : Nat} (hx : x < 2) : ∃ z', lp_m_keep_14 (nI x) (k_m_keep_14 (nI x)) 10000 0 (nO z) = some (1, nO z') ∧ (∀ q, q ≠ 0 → q ≠ 3 → q ≠ 4 → z' q = z q) ∧ (∀ k, k ≠ 2 → z' 0 k = z 0 k) ∧ z' 0 2 = 0 ∧ (∀ k, k < 367 → z' 3 (368 * x + k) = z 1 k) ∧ z' 3 (368 * x + 367) = z 0 5 ∧ (∀ k, ¬ (368 * x ≤ k ∧ k < 368 * x + 368) → z' 3 k = z 3 k) ∧ z' 4 x = 1 ∧ (∀ k, k ≠ x → z' 4 k = z 4 k) := by
  rw [m_keep_l hx, k_m_keep_14, show 368 * nI x + 367 = nI (368 * x + 367) from ix368 x 367, gd_t (ck_nI (by omega) (by decide)), gd_t (ck_nI hx (by decide)), cl (by omega), cl (by omega), show vp_nar .boolean 1 = nI 1 from by decide, show nO (rN z 3 (fun k => if 368 * x ≤ k ∧ k < 368 * x + 367 then z 1 (k - 368 * x) else z 3 k)) 0 5 = nI (z 0 5) from rfl, upd_nO, upd_nO, sA_nO, sA_nO, show (0 : Int32) = nI 0 from rfl, sIu]
  refine ⟨_, rfl, fun q q0 q3 q4 => ?_, fun k hk => ?_, ?_, fun k hk => ?_, ?_, fun k hk => ?_, ?_, fun k hk => ?_⟩
  · rw [rN_n q0, rN_n q4, rN_n q3, rN_n q3]
  · rw [rN_s, nU_n hk]
    rfl
  · rw [rN_s, nU_s]
  · rw [rN_n (by decide), rN_n (by decide), rN_s, nU_n (by omega), rN_s, if_pos (by omega)]
    exact congrArg (z 1) (by omega)
  · rw [rN_n (by decide), rN_n (by decide), rN_s, nU_s]
  · rw [rN_n (by decide), rN_n (by decide), rN_s, nU_n (by omega), rN_s, if_neg (by omega)]
  · rw [rN_n (by decide), rN_s, nU_s]
  · rw [rN_n (by decide), rN_s, nU_n hk]
    rfl
theorem IM_o {im v : Ob} {x y : Nat} {z' : NO} (h : IM im v y z) (hx : x < 2) (hy : y < 2) (hn : y ≠ x) (e3 : ∀ k, ¬ (368 * x ≤ k ∧ k < 368 * x + 368) → z' 3 k = z 3 k) (e4 : ∀ k, k ≠ x → z' 4 k = z 4 k) : IM im v y z' := by
  obtain ⟨b, t1, t2, t3, t4, t5⟩ := h
  refine ⟨b, t1, t2, by rw [e4 y hn]; exact t3, by rw [e4 y hn]; exact t4, fun q => ?_⟩
  rw [e4 y hn] at q
  obtain ⟨u1, u2, u3⟩ := t5 q
  rw [e3 (368 * y + 367) (by omega)]
  exact ⟨SW_c u1 (fun k hk => e3 _ (by omega)), u2, u3⟩
theorem keep_s (h : Sm f a pt i0 v0 i1 v1 bk z rg) (x : Int32) : ∃ r pt' i0' v0' i1' v1' z', f_x_keep f (nO a) pt i0 v0 i1 v1 x = some (r, pt', i0', v0', i1', v1') ∧ f_m_keep (nO z) x = some (r, nO z') ∧ Sm f a pt' i0' v0' i1' v1' bk z' rg := by
  unfold f_x_keep f_m_keep
  rw [bd_s (in01 x)]
  by_cases hx : hv 2 x
  · obtain ⟨j, hj, rfl⟩ := hx
    have hh : hv 2 (nI j) := ⟨j, hj, rfl⟩
    rw [if_neg (nI_pos (by omega)), if_pos (show nI j ≤ 1 from nI_le (b := 1) (by omega) (by decide)), if_neg (b01_n hh)]
    obtain ⟨z', k1, k2, k3, k4, k5, k6, k7, k8, k9⟩ := keep_row (z := z) hj
    obtain ⟨h1, h2, h3, h4, h5, h6, h7⟩ := h
    have w1 : z' 1 = z 1 := k2 1 (by decide) (by decide) (by decide)
    have w5 : z' 0 5 = z 0 5 := k3 5 (by decide)
    have hbk : BK bk z' := BK_c h6 (k3 7 (by decide)) (k2 5 (by decide) (by decide) (by decide))
    have hrb : RB z' := RB_c h7 (k2 8 (by decide) (by decide) (by decide))
    have hne : ∀ {im v : Ob} {b : NO}, v = nO b → Bd b → im 0 1 = nI 1 → im 0 0 = f 0 0 → IM im (nO (bc b a)) j z' := by
      intro im v b e1 e2 e3 e4
      refine ⟨bc b a, rfl, Bd_bc e2 h1.bd, by rw [k8]; exact e3, by rw [k8]; omega, fun _ => ⟨SW_c (SW_bc e2 h1) k5, ?_, ?_⟩⟩
      · rw [k6, e4]; exact h2.1
      · rw [k6]; exact h2.2
    rw [k1]
    by_cases c : j = 0
    · obtain ⟨b, t1, t2, -⟩ := h4
      rw [if_pos (show nI j = 0 by rw [c]; rfl), t1, bd_s (f_become_s b a)]
      unfold f_forget
      rw [bd_s rfl]
      refine ⟨_, _, _, _, _, _, z', rfl, rfl, by rw [w1]; exact h1, by rw [w5]; exact h2, PS_0 h3 k4, ?_, IM_o h5 hj (by decide) (by omega) k7 k9, hbk, hrb⟩
      have := hne (im := sI (sI i0 1 1) 0 (f 0 0)) t1 t2 rfl rfl
      rwa [c] at this
    · obtain ⟨b, t1, t2, -⟩ := h5
      have cj : j = 1 := by omega
      rw [if_neg (show ¬ nI j = 0 by rw [cj]; decide), t1, bd_s (f_become_s b a)]
      unfold f_forget
      rw [bd_s rfl]
      refine ⟨_, _, _, _, _, _, z', rfl, rfl, by rw [w1]; exact h1, by rw [w5]; exact h2, PS_0 h3 k4, IM_o h4 hj (by decide) (by omega) k7 k9, ?_, hbk, hrb⟩
      have := hne (im := sI (sI i1 1 1) 0 (f 0 0)) t1 t2 rfl rfl
      rwa [cj] at this
  · rw [if_pos (b01_f hx)]
    by_cases c : x < 0
    · rw [if_pos c]
      exact ⟨_, _, _, _, _, _, _, rfl, rfl, h⟩
    · obtain ⟨j, hj, rfl⟩ := nI_of c
      rw [if_neg c, if_neg (fun q => hx ⟨j, by have := (nI_leI (b := 1) hj (by decide)).mp q; omega, rfl⟩)]
      exact ⟨_, _, _, _, _, _, _, rfl, rfl, h⟩
theorem goBack_s (h : Sm f a pt i0 v0 i1 v1 bk z rg) (x : Int32) : ∃ r f' a' pt' z', f_x_goBack f (nO a) pt i0 v0 i1 v1 x = some (r, f', nO a', pt') ∧ f_m_goBack (nO z) x = some (r, nO z') ∧ Sm f' a' pt' i0 v0 i1 v1 bk z' rg := by
  unfold f_x_goBack f_m_goBack
  rw [bd_s (in01 x)]
  by_cases hx : hv 2 x
  · obtain ⟨j, hj, rfl⟩ := hx
    have hh : hv 2 (nI j) := ⟨j, hj, rfl⟩
    rw [if_neg (nI_pos (by omega)), if_pos (show nI j ≤ 1 from nI_le (b := 1) (by omega) (by decide)), if_neg (b01_n hh), gd_t (ck_nI hj (by decide)), cl (by omega), show nO z 4 j = nI (z 4 j) from rfl, m_back_l hj]
    have h' := h
    obtain ⟨h1, h2, h3, h4, h5, h6, h7⟩ := h
    have hk : k_m_goBack_26 (nI j) (nI 367) (nO (rN z 1 (fun k => if k < 367 then z 3 (368 * j + k) else z 1 k))) = some (1, nO (rN (rN z 1 (fun k => if k < 367 then z 3 (368 * j + k) else z 1 k)) 0 (nU (nU (z 0) 5 (z 3 (368 * j + 367))) 2 0))) := by
      rw [k_m_goBack_26, show 368 * nI j + 367 = nI (368 * j + 367) from ix368 j 367, gd_t (ck_nI (by omega) (by decide)), cl (by omega), show nO (rN z 1 (fun k => if k < 367 then z 3 (368 * j + k) else z 1 k)) 3 (368 * j + 367) = nI (z 3 (368 * j + 367)) from rfl, show (0 : Int32) = nI 0 from rfl, sI2]
      rfl
    have fin : ∀ {im v : Ob}, IM im v j z → z 4 j ≠ 0 → ∃ b, v = nO b ∧ Sm (sI f 0 (im 0 0)) (bc a b) (sI pt 0 0) i0 v0 i1 v1 bk (rN (rN z 1 (fun k => if k < 367 then z 3 (368 * j + k) else z 1 k)) 0 (nU (nU (z 0) 5 (z 3 (368 * j + 367))) 2 0)) rg := by
      rintro im v ⟨b, t1, t2, t3, t4, t5⟩ q
      obtain ⟨u1, u2, u3⟩ := t5 q
      refine ⟨b, t1, ?_, ⟨?_, ?_⟩, PS_0 h3 rfl, IM_c h4 rfl rfl, IM_c h5 rfl rfl, BK_c h6 rfl rfl, RB_c h7 rfl⟩
      · rw [rN_n (by decide), rN_s]
        exact SW_c (SW_bc h1.bd u1) (fun k hk => if_pos hk)
      · rw [rN_s, nU_n (by decide), nU_s]
        exact u2
      · rw [rN_s, nU_n (by decide), nU_s]
        exact u3
    by_cases c : j = 0
    · rw [if_pos (show nI j = 0 by rw [c]; rfl)]
      have im := h4
      rw [← c] at im
      obtain ⟨b, t1, t2, t3, t4, -⟩ := im
      rw [t3]
      have e0 : nI (z 4 j) = 0 ↔ z 4 j = 0 := nI_eq (b := 0) (by omega) (by decide)
      by_cases d : z 4 j = 0
      · rw [if_pos (e0.mpr d), if_pos (e0.mpr d)]
        exact ⟨_, _, _, _, _, rfl, rfl, h'⟩
      · rw [if_neg (fun q => d (e0.mp q)), if_neg (fun q => d (e0.mp q)), hk]
        obtain ⟨b', r1, r2⟩ := fin (by rw [c]; exact h4) d
        rw [r1, bd_s (f_become_s a b')]
        unfold f_forget
        rw [bd_s rfl]
        rw [r1] at r2
        exact ⟨_, _, _, _, _, rfl, rfl, r2⟩
    · have cj : j = 1 := by omega
      rw [if_neg (show ¬ nI j = 0 by rw [cj]; decide)]
      have im := h5
      rw [← cj] at im
      obtain ⟨b, t1, t2, t3, t4, -⟩ := im
      rw [t3]
      have e0 : nI (z 4 j) = 0 ↔ z 4 j = 0 := nI_eq (b := 0) (by omega) (by decide)
      by_cases d : z 4 j = 0
      · rw [if_pos (e0.mpr d), if_pos (e0.mpr d)]
        exact ⟨_, _, _, _, _, rfl, rfl, h'⟩
      · rw [if_neg (fun q => d (e0.mp q)), if_neg (fun q => d (e0.mp q)), hk]
        obtain ⟨b', r1, r2⟩ := fin (by rw [cj]; exact h5) d
        rw [r1, bd_s (f_become_s a b')]
        unfold f_forget
        rw [bd_s rfl]
        rw [r1] at r2
        exact ⟨_, _, _, _, _, rfl, rfl, r2⟩
  · rw [if_pos (b01_f hx)]
    by_cases c : x < 0
    · rw [if_pos c]
      exact ⟨_, _, _, _, _, rfl, rfl, h⟩
    · obtain ⟨j, hj, rfl⟩ := nI_of c
      rw [if_neg c, if_neg (fun q => hx ⟨j, by have := (nI_leI (b := 1) hj (by decide)).mp q; omega, rfl⟩)]
      exact ⟨_, _, _, _, _, rfl, rfl, h⟩
end DG
