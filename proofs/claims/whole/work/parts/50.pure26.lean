/-! deeds on the web: both sides answer alike and stay alike -/
section DE
variable {f pt i0 v0 i1 v1 bk : Ob} {a z : NO} {rg : Nat → Ob}
theorem build_s (h : Sm f a pt i0 v0 i1 v1 bk z rg) (x y v : Int32) : ∃ r a' pt' rg' z', f_x_build f (nO a) pt rg x y v = some (r, nO a', pt', rg') ∧ f_m_build (nO z) x y v = some (r, nO z') ∧ Sm f a' pt' i0 v0 i1 v1 bk z' rg' := by
  unfold f_x_build f_m_build
  by_cases q1 : x < 0
  · rw [if_pos q1, show f_m_in x 0 2 = some 0 from if_pos q1, bd_s rfl, if_pos rfl]
    exact ⟨_, _, _, _, _, rfl, rfl, h⟩
  rw [if_neg q1]
  by_cases q2 : 2 < x
  · rw [if_pos q2, show f_m_in x 0 2 = some 0 by unfold f_m_in; rw [if_neg q1, if_pos q2], bd_s rfl, if_pos rfl]
    exact ⟨_, _, _, _, _, rfl, rfl, h⟩
  rw [if_neg q2, show f_m_in x 0 2 = some 1 by unfold f_m_in; rw [if_neg q1, if_neg q2], bd_s (v := 1) rfl, if_neg (show ¬ (1 : Int32) = 0 by decide)]
  by_cases q3 : y < 1
  · rw [if_pos q3, show f_m_in y 1 8 = some 0 from if_pos q3, bd_s rfl, if_pos rfl]
    exact ⟨_, _, _, _, _, rfl, rfl, h⟩
  rw [if_neg q3]
  by_cases q4 : 8 < y
  · rw [if_pos q4, show f_m_in y 1 8 = some 0 by unfold f_m_in; rw [if_neg q3, if_pos q4], bd_s rfl, if_pos rfl]
    exact ⟨_, _, _, _, _, rfl, rfl, h⟩
  rw [if_neg q4, show f_m_in y 1 8 = some 1 by unfold f_m_in; rw [if_neg q3, if_neg q4], bd_s (v := 1) rfl, if_neg (show ¬ (1 : Int32) = 0 by decide)]
  by_cases q5 : v < 0
  · rw [if_pos q5, show f_m_in v 0 10 = some 0 from if_pos q5, bd_s rfl, if_pos rfl]
    exact ⟨_, _, _, _, _, rfl, rfl, h⟩
  rw [if_neg q5]
  obtain ⟨o, ho, rfl⟩ := nI_of q1
  obtain ⟨P, hP, rfl⟩ := nI_of q5
  rcases lt1_any y with hy | ⟨m, hm0, hm, rfl⟩
  · exact absurd hy q3
  have ho2 : o ≤ 2 := by
    have : ¬ 2 < o := fun w => q2 ((nI_ltI (show 2 < 2 ^ 31 by decide) ho).mpr w)
    omega
  have hm8 : m ≤ 8 := by
    have : ¬ 8 < m := fun w => q4 ((nI_ltI (show 8 < 2 ^ 31 by decide) hm).mpr w)
    omega
  have e10 : nI P ≤ 10 ↔ P ≤ 10 := nI_leI (b := 10) hP (by decide)
  have e10' : (10 : Int32) < nI P ↔ 10 < P := nI_ltI (a := 10) (by decide) hP
  by_cases q6 : P ≤ 10
  · obtain ⟨pt', rg', z1, r1, r2, r3, -, -, r4⟩ := h.rem
    obtain ⟨a', b1, b2⟩ := f_becomeNew_s h.sw.bd (o := o) (y := m) (P := P) (by omega) hm0 hm8 q6
    obtain ⟨z2, d1, d2, d3⟩ := m_builds_s (z := z1) (o := o) (y := m) (P := P) (by omega) hm0 hm8 q6
    rw [if_pos (e10.mpr q6), show f_m_in (nI P) 0 10 = some 1 by unfold f_m_in; rw [if_neg q5, if_neg (fun w => by have := e10'.mp w; omega)], bd_s (v := 1) rfl, if_neg (show ¬ (1 : Int32) = 0 by decide), bd_s r1, bd_s b1, bd_s r2, bd_s d1]
    refine ⟨_, _, _, _, z2, rfl, ?_, ?_⟩
    · rw [c2, show nO z 1 2 = nO a 0 2 from congrArg nI h.sw.e2]
    · have e : z2 = rN z1 1 (z2 1) := by
        funext q
        by_cases hq : q = 1
        · rw [hq, rN_s]
        · rw [rN_n hq]; exact d2 q hq
      rw [e]
      exact r4.w (SW_c b2 d3)
  · rw [if_neg (fun w => q6 (e10.mp w)), show f_m_in (nI P) 0 10 = some 0 by unfold f_m_in; rw [if_neg q5, if_pos (e10'.mpr (by omega))], bd_s rfl, if_pos rfl]
    exact ⟨_, _, _, _, _, rfl, rfl, h⟩
theorem cell_s (h : Sm f a pt i0 v0 i1 v1 bk z rg) (x y v : Int32) : ∃ r a' pt' rg' z', f_x_cell f (nO a) pt rg x y v = some (r, nO a', pt', rg') ∧ f_m_cell (nO z) x y v = some (r, nO z') ∧ Sm f a' pt' i0 v0 i1 v1 bk z' rg' := by
  have s := h.sw
  have hM := s.bd.1
  unfold f_x_cell f_m_cell
  rw [bd_s (f_hasValue_s s.bd), bd_s (m_val s x)]
  by_cases hx : hv (a 0 0) x
  · rw [if_neg (b01_n hx), if_neg (b01_n hx), bd_s (f_hasValue_s s.bd), bd_s (m_val s y)]
    by_cases hy : hv (a 0 0) y
    · rw [if_neg (b01_n hy), if_neg (b01_n hy), bd_s (f_hasValue_s s.bd), bd_s (m_val s v)]
      by_cases hz : hv (a 0 0) v
      · rw [if_neg (b01_n hz), if_neg (b01_n hz)]
        obtain ⟨i, hi, rfl⟩ := hx
        obtain ⟨j, hj, rfl⟩ := hy
        obtain ⟨k, hk, rfl⟩ := hz
        obtain ⟨pt', rg', z1, r1, r2, r3, -, -, r4⟩ := h.rem
        have S' := SW_cell r4.sw hi hj hk
        have S2 : SW (rN a 1 (nU (a 1) (i * 8 + j) k)) ((rN z1 1 (nU (z1 1) (3 + 8 * i + j) k)) 1) := by rw [rN_s]; exact S'
        rw [bd_s r1, bd_s r2, ix8, ixT, gd_t (ck_nI (by omega) (by decide)), gd_t (ck_nI (by omega) (by decide)), cl (by omega), cl (by omega), sAu, sAu, bd_s (f_brokenLaw_s S'.bd), bd_s (m_broken_s S2.bs (by rw [S2.e0]; exact S2.m0)), ← bl_c S2.eqv S2.gd]
        exact ⟨_, _, _, _, _, rfl, rfl, r4.w S'⟩
      · rw [if_pos (b01_f hz), if_pos (b01_f hz)]
        exact ⟨_, _, _, _, _, rfl, rfl, h⟩
    · rw [if_pos (b01_f hy), if_pos (b01_f hy)]
      exact ⟨_, _, _, _, _, rfl, rfl, h⟩
  · rw [if_pos (b01_f hx), if_pos (b01_f hx)]
    exact ⟨_, _, _, _, _, rfl, rfl, h⟩
theorem start_s (h : Sm f a pt i0 v0 i1 v1 bk z rg) (x y v : Int32) : ∃ r a' pt' rg' z', f_x_start f (nO a) pt rg x y v = some (r, nO a', pt', rg') ∧ f_m_start (nO z) x y v = some (r, nO z') ∧ Sm f a' pt' i0 v0 i1 v1 bk z' rg' := by
  have s := h.sw
  have hM := s.bd.1
  have hP := s.bd.2.1
  unfold f_x_start f_m_start
  rw [bd_s (f_hasPlace_s s.bd), bd_s (m_pla s x)]
  by_cases hx : hv (a 0 1) x
  · rw [if_neg (b01_n hx), if_neg (b01_n hx), bd_s (f_hasValue_s s.bd), bd_s (m_val s y)]
    by_cases hy : hv (a 0 0) y
    · rw [if_neg (b01_n hy), if_neg (b01_n hy), bd_s (set_x v), bd_s (set_m v)]
      by_cases hz : hv 256 v
      · rw [if_neg (b01_n hz), if_neg (b01_n hz)]
        obtain ⟨i, hi, rfl⟩ := hx
        obtain ⟨j, hj, rfl⟩ := hy
        obtain ⟨k, hk, rfl⟩ := hz
        obtain ⟨pt', rg', z1, r1, r2, r3, -, -, r4⟩ := h.rem
        have S' := SW_start r4.sw hi hj hk
        rw [bd_s r1, bd_s r2, ix256, ix67, ix77, gd_t (ck_nI (by omega) (by decide)), gd_t (ck_nI (by omega) (by decide)), gd_t (ck_nI (by omega) (by decide)), cl (by omega), cl (by omega), cl (by omega), sAu, sA_sA, upd_nO, upd_fn, sA_nO]
        exact ⟨_, _, _, _, _, rfl, rfl, r4.w S'⟩
      · rw [if_pos (b01_f hz), if_pos (b01_f hz)]
        exact ⟨_, _, _, _, _, rfl, rfl, h⟩
    · rw [if_pos (b01_f hy), if_pos (b01_f hy)]
      exact ⟨_, _, _, _, _, rfl, rfl, h⟩
  · rw [if_pos (b01_f hx), if_pos (b01_f hx)]
    exact ⟨_, _, _, _, _, rfl, rfl, h⟩
theorem way_s (h : Sm f a pt i0 v0 i1 v1 bk z rg) (x y : Int32) : ∃ r a' pt' rg' z', f_x_way f (nO a) pt rg x y = some (r, nO a', pt', rg') ∧ f_m_way (nO z) x y = some (r, nO z') ∧ Sm f a' pt' i0 v0 i1 v1 bk z' rg' := by
  have s := h.sw
  have hW := s.bd.2.2.1
  unfold f_x_way f_m_way
  rw [bd_s (f_hasPlace_s s.bd), bd_s (m_pla s x)]
  by_cases hx : hv (a 0 1) x
  · rw [if_neg (b01_n hx), if_neg (b01_n hx), bd_s (f_hasPlace_s s.bd), bd_s (m_pla s y)]
    by_cases hy : hv (a 0 1) y
    · rw [if_neg (b01_n hy), if_neg (b01_n hy), c2, show nO a 0 2 = nI (a 0 2) from rfl, show nO z 1 2 = nI (a 0 2) from congrArg nI s.e2]
      have e1 : nI (a 0 2) < 20 ↔ a 0 2 < 20 := nI_ltI (b := 20) (by omega) (by decide)
      have e2 : nI (a 0 2) = 20 ↔ a 0 2 = 20 := nI_eq (b := 20) (by omega) (by decide)
      by_cases c : a 0 2 < 20
      · rw [if_pos (e1.mpr c), if_neg (fun q => by have := e2.mp q; omega)]
        obtain ⟨i, hi, rfl⟩ := hx
        obtain ⟨j, hj, rfl⟩ := hy
        obtain ⟨pt', rg', z1, r1, r2, r3, -, -, r4⟩ := h.rem
        have S' := SW_way (i := i) (j := j) (g := 0) (t := 0) (h := 0) r4.sw c hi hj (by decide) (by decide) s.m0
        have hz1 : z1 1 2 = a 0 2 := r4.sw.e2
        rw [bd_s r1, bd_s r2, bd_s (f_addWay_s i j c), show f_m_comes (nO z1) (nI i) (nI j) 0 0 0 = some (nO (rN z1 1 (sw (z1 1) i j 0 0 0))) from m_comes_s i j 0 0 0 (by omega), bd_s rfl]
        refine ⟨_, _, _, _, _, rfl, ?_, r4.w S'⟩
        rw [show nO (rN z1 1 (sw (z1 1) i j 0 0 0)) 1 2 = nI (a 0 2 + 1) from congrArg nI (by rw [rN_s, sw_2, hz1]), nI_pred]
      · rw [if_neg (fun q => c (e1.mp q)), if_pos (e2.mpr (by omega))]
        exact ⟨_, _, _, _, _, rfl, rfl, h⟩
    · rw [if_pos (b01_f hy), if_pos (b01_f hy)]
      exact ⟨_, _, _, _, _, rfl, rfl, h⟩
  · rw [if_pos (b01_f hx), if_pos (b01_f hx)]
    exact ⟨_, _, _, _, _, rfl, rfl, h⟩
theorem drop_s (h : Sm f a pt i0 v0 i1 v1 bk z rg) (x : Int32) : ∃ r a' pt' rg' z', f_x_drop f (nO a) pt rg x = some (r, nO a', pt', rg') ∧ f_m_drop (nO z) x = some (r, nO z') ∧ Sm f a' pt' i0 v0 i1 v1 bk z' rg' := by
  have s := h.sw
  have hW := s.bd.2.2.1
  unfold f_x_drop f_m_drop
  rw [bd_s (f_hasWay_s s.bd), bd_s (m_way s x)]
  by_cases hx : hv (a 0 2) x
  · rw [if_neg (b01_n hx), if_neg (b01_n hx)]
    obtain ⟨i, hi, rfl⟩ := hx
    obtain ⟨pt', rg', z1, r1, r2, r3, -, -, r4⟩ := h.rem
    have S' := SW_drop r4.sw hi
    have hz1 : z1 1 2 = a 0 2 := r4.sw.e2
    rw [bd_s r1, bd_s r2, bd_s (f_removeWay_s hW hi), m_drop_l (by omega) (by omega), hz1]
    exact ⟨_, _, _, _, _, rfl, rfl, r4.w S'⟩
  · rw [if_pos (b01_f hx), if_pos (b01_f hx)]
    exact ⟨_, _, _, _, _, rfl, rfl, h⟩
theorem map_s (h : Sm f a pt i0 v0 i1 v1 bk z rg) (x y v : Int32) : ∃ r a' pt' rg' z', f_x_map f (nO a) pt rg x y v = some (r, nO a', pt', rg') ∧ f_m_map (nO z) x y v = some (r, nO z') ∧ Sm f a' pt' i0 v0 i1 v1 bk z' rg' := by
  have s := h.sw
  have hM := s.bd.1
  have hW := s.bd.2.2.1
  unfold f_x_map f_m_map
  rw [bd_s (f_hasWay_s s.bd), bd_s (m_way s x)]
  by_cases hx : hv (a 0 2) x
  · rw [if_neg (b01_n hx), if_neg (b01_n hx), bd_s (f_hasValue_s s.bd), bd_s (m_val s y)]
    by_cases hy : hv (a 0 0) y
    · rw [if_neg (b01_n hy), if_neg (b01_n hy), bd_s (f_hasValue_s s.bd), bd_s (m_val s v)]
      by_cases hz : hv (a 0 0) v
      · rw [if_neg (b01_n hz), if_neg (b01_n hz)]
        obtain ⟨i, hi, rfl⟩ := hx
        obtain ⟨j, hj, rfl⟩ := hy
        obtain ⟨k, hk, rfl⟩ := hz
        obtain ⟨pt', rg', z1, r1, r2, r3, -, -, r4⟩ := h.rem
        have S' := SW_map r4.sw hi hj hk
        have ei : ((107 + (13 * nI i)) + 5) + nI j = nI (112 + 13 * i + j) := by
          rw [show (107 : Int32) = nI 107 from rfl, show (13 : Int32) = nI 13 from rfl, show (5 : Int32) = nI 5 from rfl, pk_mul, nI_add, nI_add, nI_add]
          exact congrArg nI (by omega)
        rw [bd_s r1, bd_s r2, ix8, gd_t (ck_nI (by omega) (by decide)), gd_t (ck_nI (by omega) (by decide)), cl (by omega), sAu, bd_s (m_of_mp (by omega) (by omega)), ei, gd_t (ck_nI (by omega) (by decide)), cl (by omega), sAu, ← (r4.sw.eqv.2.2.2.2.1 i hi).2.2.2.2.2 j hj]
        exact ⟨_, _, _, _, _, rfl, rfl, r4.w S'⟩
      · rw [if_pos (b01_f hz), if_pos (b01_f hz)]
        exact ⟨_, _, _, _, _, rfl, rfl, h⟩
    · rw [if_pos (b01_f hy), if_pos (b01_f hy)]
      exact ⟨_, _, _, _, _, rfl, rfl, h⟩
  · rw [if_pos (b01_f hx), if_pos (b01_f hx)]
    exact ⟨_, _, _, _, _, rfl, rfl, h⟩
theorem ixw2 (i k : Nat) : (107 + (13 * nI i)) + nI k = nI (107 + 13 * i + k) := by rw [show (107 : Int32) = nI 107 from rfl, show (13 : Int32) = nI 13 from rfl, pk_mul, nI_add, nI_add]
theorem marks_s (h : Sm f a pt i0 v0 i1 v1 bk z rg) (x y v : Int32) : ∃ r a' pt' rg' z', f_x_marks f (nO a) pt rg x y v = some (r, nO a', pt', rg') ∧ f_m_marks (nO z) x y v = some (r, nO z') ∧ Sm f a' pt' i0 v0 i1 v1 bk z' rg' := by
  have s := h.sw
  have hW := s.bd.2.2.1
  unfold f_x_marks f_m_marks
  rw [bd_s (f_hasWay_s s.bd), bd_s (m_way s x)]
  by_cases hx : hv (a 0 2) x
  · rw [if_neg (b01_n hx), if_neg (b01_n hx), bd_s (set_x y), bd_s (set_m y)]
    by_cases hy : hv 256 y
    · rw [if_neg (b01_n hy), if_neg (b01_n hy), bd_s (set_x v), bd_s (set_m v)]
      by_cases hz : hv 256 v
      · rw [if_neg (b01_n hz), if_neg (b01_n hz)]
        obtain ⟨i, hi, rfl⟩ := hx
        obtain ⟨j, hj, rfl⟩ := hy
        obtain ⟨k, hk, rfl⟩ := hz
        obtain ⟨pt', rg', z1, r1, r2, r3, -, -, r4⟩ := h.rem
        have S' := SW_marks r4.sw hi hj hk
        have e2 : (107 + (13 * nI i)) + 2 = nI (109 + 13 * i) := by rw [show (107 + (13 * nI i)) + 2 = nI (107 + 13 * i + 2) from ixw2 i 2]; exact congrArg nI (by omega)
        have e3 : (107 + (13 * nI i)) + 3 = nI (110 + 13 * i) := by rw [show (107 + (13 * nI i)) + 3 = nI (107 + 13 * i + 3) from ixw2 i 3]; exact congrArg nI (by omega)
        rw [bd_s r1, bd_s r2, e2, e3, gd_t (ck_nI (by omega) (by decide)), gd_t (ck_nI (by omega) (by decide)), gd_t (ck_nI (by omega) (by decide)), gd_t (ck_nI (by omega) (by decide)), cl (by omega), cl (by omega), cl (by omega), upd_nO, upd_nO, sA_nO, sA_nO, sA_sA, upd_nO, upd_fn, sA_nO]
        exact ⟨_, _, _, _, _, rfl, rfl, r4.w S'⟩
      · rw [if_pos (b01_f hz), if_pos (b01_f hz)]
        exact ⟨_, _, _, _, _, rfl, rfl, h⟩
    · rw [if_pos (b01_f hy), if_pos (b01_f hy)]
      exact ⟨_, _, _, _, _, rfl, rfl, h⟩
  · rw [if_pos (b01_f hx), if_pos (b01_f hx)]
    exact ⟨_, _, _, _, _, rfl, rfl, h⟩
theorem gate_s (h : Sm f a pt i0 v0 i1 v1 bk z rg) (x y : Int32) : ∃ r a' pt' rg' z', f_x_gate f (nO a) pt rg x y = some (r, nO a', pt', rg') ∧ f_m_gate (nO z) x y = some (r, nO z') ∧ Sm f a' pt' i0 v0 i1 v1 bk z' rg' := by
  have s := h.sw
  have hM := s.bd.1
  have hW := s.bd.2.2.1
  unfold f_x_gate f_m_gate
  rw [bd_s (f_hasWay_s s.bd), bd_s (m_way s x)]
  by_cases hx : hv (a 0 2) x
  · rw [if_neg (b01_n hx), if_neg (b01_n hx), bd_s (f_hasValue_s s.bd), bd_s (m_val s y)]
    by_cases hy : hv (a 0 0) y
    · rw [if_neg (b01_n hy), if_neg (b01_n hy)]
      obtain ⟨i, hi, rfl⟩ := hx
      obtain ⟨j, hj, rfl⟩ := hy
      obtain ⟨pt', rg', z1, r1, r2, r3, -, -, r4⟩ := h.rem
      have S' := SW_gate r4.sw hi hj
      have e4 : (107 + (13 * nI i)) + 4 = nI (111 + 13 * i) := by rw [show (107 + (13 * nI i)) + 4 = nI (107 + 13 * i + 4) from ixw2 i 4]; exact congrArg nI (by omega)
      rw [bd_s r1, bd_s r2, gd_t (ck_nI (by omega) (by decide)), gd_t (ck_nI (by omega) (by decide)), cl (by omega), sAu, bd_s (m_of_gt (by omega)), e4, gd_t (ck_nI (by omega) (by decide)), cl (by omega), sAu, ← (r4.sw.eqv.2.2.2.2.1 i hi).2.2.2.2.1]
      exact ⟨_, _, _, _, _, rfl, rfl, r4.w S'⟩
    · rw [if_pos (b01_f hy), if_pos (b01_f hy)]
      exact ⟨_, _, _, _, _, rfl, rfl, h⟩
  · rw [if_pos (b01_f hx), if_pos (b01_f hx)]
    exact ⟨_, _, _, _, _, rfl, rfl, h⟩
theorem write_s (h : Sm f a pt i0 v0 i1 v1 bk z rg) (jd : Ob) (x y v : Int32) : ∃ r a' pt' jd' rg' z', f_x_write f (nO a) pt jd rg x y v = some (r, nO a', pt', jd', rg') ∧ f_m_write (nO z) x y v = some (r, nO z') ∧ Sm f a' pt' i0 v0 i1 v1 bk z' rg' := by
  have s := h.sw
  have hM := s.bd.1
  have hP := s.bd.2.1
  unfold f_x_write f_m_write
  rw [bd_s (f_hasPlace_s s.bd), bd_s (m_pla s x)]
  by_cases hx : hv (a 0 1) x
  · rw [if_neg (b01_n hx), if_neg (b01_n hx), bd_s (f_hasValue_s s.bd), bd_s (m_val s y)]
    by_cases hy : hv (a 0 0) y
    · rw [if_neg (b01_n hy), if_neg (b01_n hy), bd_s (set_x v), bd_s (set_m v)]
      by_cases hz : hv 256 v
      · rw [if_neg (b01_n hz), if_neg (b01_n hz)]
        obtain ⟨i, hi, rfl⟩ := hx
        obtain ⟨j, hj, rfl⟩ := hy
        obtain ⟨k, hk, rfl⟩ := hz
        rw [bd_s (f_isKept_s s.bd (by omega)), bd_s (m_kep s (by omega))]
        by_cases c : kp a i
        · rw [if_neg (b01_n c), if_neg (b01_n c)]
          obtain ⟨pt', rg', z1, r1, r2, r3, -, -, r4⟩ := h.rem
          have S' := SW_write r4.sw hi hj hk
          have S2 := r4.w S'
          obtain ⟨r, jd', t1, t2, -⟩ := f_refusedAt_s S' jd
          obtain ⟨r', z3, u1, u2, u3, -⟩ := m_refused_s S2.sw S2.rb
          have e : r = r' := t2.eq u2 (fun _ _ => Iff.rfl)
          rw [bd_s r1, bd_s r2, ix256, ix87, ix97, gd_t (ck_nI (by omega) (by decide)), gd_t (ck_nI (by omega) (by decide)), gd_t (ck_nI (by omega) (by decide)), cl (by omega), cl (by omega), cl (by omega), sAu, sA_sA, upd_nO, upd_fn, sA_nO, bd_s t1, bd_s u1, e]
          exact ⟨_, _, _, _, _, _, rfl, rfl, S2.q u3⟩
        · rw [if_pos (b01_f c), if_pos (b01_f c)]
          exact ⟨_, _, _, _, _, _, rfl, rfl, h⟩
      · rw [if_pos (b01_f hz), if_pos (b01_f hz)]
        exact ⟨_, _, _, _, _, _, rfl, rfl, h⟩
    · rw [if_pos (b01_f hy), if_pos (b01_f hy)]
      exact ⟨_, _, _, _, _, _, rfl, rfl, h⟩
  · rw [if_pos (b01_f hx), if_pos (b01_f hx)]
    exact ⟨_, _, _, _, _, _, rfl, rfl, h⟩
end DE
