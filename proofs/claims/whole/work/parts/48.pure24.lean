/-! what there is: both sides answer alike -/
section RD
variable {f pt i0 v0 i1 v1 bk : Ob} {a z : NO} {rg : Nat → Ob}
theorem b01_n {c : Prop} (h : c) : ¬ b01 c = 0 := by rw [b01_t h]; decide
theorem sT_ne {s : (Nat → Nat) × List Nat} {T : Nat} (h : s.2 = []) (hT : T ≤ 2000) : sT s T = nI T ∧ ¬ sT s T = -1 ∧ 0 ≤ sT s T := by
  have e : sT s T = nI T := by unfold sT; rw [if_pos h]
  refine ⟨e, ?_, by rw [e]; exact nI_pos' (by omega)⟩
  rw [e]
  intro q
  have := nI_pos (n := T) (by omega)
  rw [q] at this
  exact this (by decide)
theorem told_s (h : Sm f a pt i0 v0 i1 v1 bk z rg) (kn tr jd : Ob) (x : Int32) : ∃ r kn' tr' jd' z', f_x_told f (nO a) pt bk kn tr jd x = some (r, kn', tr', jd') ∧ f_m_told (nO z) x = some (r, nO z') ∧ SmQ z z' := by
  have s := h.sw
  have hM0 : 0 < z 1 0 := by rw [s.e0]; exact s.m0
  unfold f_x_told f_m_told
  by_cases q : x = 0
  · rw [if_pos q, if_pos q, c0]
    exact ⟨_, _, _, _, z, rfl, by rw [show nO z 1 0 = nI (a 0 0) from congrArg nI s.e0]; rfl, SmQ.rf z⟩
  rw [if_neg q, if_neg q]
  by_cases q : x = 1
  · rw [if_pos q, if_pos q, c1]
    exact ⟨_, _, _, _, z, rfl, by rw [show nO z 1 1 = nI (a 0 1) from congrArg nI s.e1]; rfl, SmQ.rf z⟩
  rw [if_neg q, if_neg q]
  by_cases q : x = 2
  · rw [if_pos q, if_pos q, c2]
    exact ⟨_, _, _, _, z, rfl, by rw [show nO z 1 2 = nI (a 0 2) from congrArg nI s.e2]; rfl, SmQ.rf z⟩
  rw [if_neg q, if_neg q]
  by_cases q : x = 3
  · rw [if_pos q, if_pos q, bd_s (f_brokenLaw_s s.bd), bd_s (m_broken_s s.bs hM0), ← bl_c s.eqv s.gd]
    exact ⟨_, _, _, _, z, rfl, rfl, SmQ.rf z⟩
  rw [if_neg q, if_neg q]
  by_cases q : x = 4
  · obtain ⟨r, r1, r2⟩ := f_firstOut_s s.bd
    obtain ⟨r', t1, t2⟩ := m_first_s s.bs
    rw [show wb (z 1) 0 2 = a 0 2 from s.e2] at t2
    have e : r = r' := r2.eq t2 (fun i hi => not_congr (ko_c s.eqv s.gd hi))
    rw [if_pos q, if_pos q, bd_s r1, bd_s t1, e]
    exact ⟨_, _, _, _, z, rfl, rfl, SmQ.rf z⟩
  rw [if_neg q, if_neg q]
  by_cases q : x = 5
  · rw [if_pos q, if_pos q, bd_s (f_isWell_s s.bd), bd_s (m_well s)]
    by_cases w : WL a
    · rw [if_neg (by rw [b01_t w]; decide), if_neg (by rw [b01_t w]; decide)]
      exact ⟨_, _, _, _, z, rfl, rfl, SmQ.rf z⟩
    · rw [if_pos (by rw [b01_f w]), if_pos (by rw [b01_f w])]
      exact ⟨_, _, _, _, z, rfl, rfl, SmQ.rf z⟩
  rw [if_neg q, if_neg q]
  by_cases q : x = 6
  · rw [if_pos q, if_pos q, bd_s (f_keptPlaces_s s.bd), bd_s (m_kept_s s.bs), kept_c s.eqv s.gd]
    exact ⟨_, _, _, _, z, rfl, rfl, SmQ.rf z⟩
  rw [if_neg q, if_neg q]
  by_cases q : x = 7
  · obtain ⟨r, jd', r1, r2, -⟩ := f_refusedAt_s s jd
    obtain ⟨r', z', t1, t2, t3, -⟩ := m_refused_s s h.rb
    have e : r = r' := r2.eq t2 (fun i hi => Iff.rfl)
    rw [if_pos q, if_pos q, bd_s r1, bd_s t1, e]
    exact ⟨_, _, _, _, z', rfl, rfl, t3⟩
  rw [if_neg q, if_neg q]
  by_cases q : x = 8
  · obtain ⟨kn', jd', r1⟩ := ex_x s f kn jd
    obtain ⟨z', t1, t2⟩ := ex_m s h.rb
    rw [if_pos q, if_pos q, bd_s r1, bd_s t1]
    try dsimp only
    by_cases w : EX a
    · rw [if_neg (by rw [b01_t w]; decide), if_neg (by rw [b01_t w]; decide)]
      exact ⟨_, _, _, _, z', rfl, rfl, t2⟩
    · rw [if_pos (by rw [b01_f w]), if_pos (by rw [b01_f w])]
      exact ⟨_, _, _, _, z', rfl, rfl, t2⟩
  rw [if_neg q, if_neg q]
  by_cases q : x = 9
  · rw [if_pos q, if_pos q, bd_s (m_well s)]
    unfold f_x_waysThatMatter
    by_cases w : WL a
    · obtain ⟨kn', k1, k2⟩ := fk_y s w f kn
      obtain ⟨tr', t1⟩ := mt_x s f kn' tr k2
      obtain ⟨z', u1, u2⟩ := mt_m s w
      rw [if_neg (by rw [b01_t w]; decide), bd_s k1]
      try dsimp only
      rw [if_neg (by decide), t1, bd_s rfl, bd_s u1]
      exact ⟨_, _, _, _, z', rfl, rfl, u2⟩
    · rw [if_pos (by rw [b01_f w]), bd_s (fk_n s w f kn)]
      try dsimp only
      rw [if_pos rfl, bd_s rfl]
      exact ⟨_, _, _, _, z, rfl, rfl, SmQ.rf z⟩
  rw [if_neg q, if_neg q]
  by_cases q : x = 10
  · rw [if_pos q, if_pos q, h.book.1]
    exact ⟨_, _, _, _, z, rfl, rfl, SmQ.rf z⟩
  rw [if_neg q, if_neg q]
  by_cases q : x = 11
  · obtain ⟨r, kn', r1, r2⟩ := wr_x s h.book f kn
    obtain ⟨r', z', t1, t2, t3⟩ := wr_m s h.book
    have e : r = r' := r2.eq t2 (fun i hi => Iff.rfl)
    rw [if_pos q, if_pos q, bd_s r1, bd_s t1, e]
    exact ⟨_, _, _, _, z', rfl, rfl, t3⟩
  rw [if_neg q, if_neg q]
  by_cases q : x = 12
  · obtain ⟨n, ra, -, -, p3, -⟩ := h.ps
    rw [if_pos q, if_pos q, p3]
    exact ⟨_, _, _, _, z, rfl, rfl, SmQ.rf z⟩
  rw [if_neg q, if_neg q]
  exact ⟨_, _, _, _, z, rfl, rfl, SmQ.rf z⟩
theorem joined_s (s : SW a (z 1)) (f : Ob) (x y : Int32) : ∃ r, f_x_joined f (nO a) x y = some r ∧ f_m_joined (nO z) x y = some r := by
  unfold f_x_joined f_m_joined
  have hM := s.bd.1
  rw [bd_s (f_hasValue_s s.bd), bd_s (m_val s x)]
  by_cases hx : hv (a 0 0) x
  · obtain ⟨i, hi, rfl⟩ := hx
    rw [if_neg (by rw [b01_t ⟨i, hi, rfl⟩]; decide), if_neg (by rw [b01_t ⟨i, hi, rfl⟩]; decide), bd_s (f_hasValue_s s.bd), bd_s (m_val s y)]
    by_cases hy : hv (a 0 0) y
    · obtain ⟨j, hj, rfl⟩ := hy
      rw [if_neg (by rw [b01_t ⟨j, hj, rfl⟩]; decide), if_neg (by rw [b01_t ⟨j, hj, rfl⟩]; decide), bd_s (f_join_s (by omega) (by omega)), bd_s (m_both_s (by omega) (by omega)), ← s.eqv.2.2.2.1 i hi j hj]
      exact ⟨_, rfl, rfl⟩
    · rw [if_pos (by rw [b01_f hy]), if_pos (by rw [b01_f hy])]
      exact ⟨_, rfl, rfl⟩
  · rw [if_pos (by rw [b01_f hx]), if_pos (by rw [b01_f hx])]
    exact ⟨_, rfl, rfl⟩
theorem below_s (s : SW a (z 1)) (f : Ob) (x y : Int32) : ∃ r, f_x_below f (nO a) x y = some r ∧ f_m_below (nO z) x y = some r := by
  unfold f_x_below f_m_below
  have hM := s.bd.1
  rw [bd_s (f_hasValue_s s.bd), bd_s (m_val s x)]
  by_cases hx : hv (a 0 0) x
  · obtain ⟨i, hi, rfl⟩ := hx
    rw [if_neg (by rw [b01_t ⟨i, hi, rfl⟩]; decide), if_neg (by rw [b01_t ⟨i, hi, rfl⟩]; decide), bd_s (f_hasValue_s s.bd), bd_s (m_val s y)]
    by_cases hy : hv (a 0 0) y
    · obtain ⟨j, hj, rfl⟩ := hy
      rw [if_neg (by rw [b01_t ⟨j, hj, rfl⟩]; decide), if_neg (by rw [b01_t ⟨j, hj, rfl⟩]; decide), bd_s (f_isBelow_s s.bd (by omega) (by omega)), bd_s (m_isBelow_s s.bs (by omega) (by omega)), ← s.eqv.2.2.2.1 i hi j hj]
      by_cases c : jn a i j = j
      · rw [if_neg (by rw [b01_t c]; decide)]
        exact ⟨_, rfl, rfl⟩
      · rw [if_pos (by rw [b01_f c])]
        exact ⟨_, rfl, rfl⟩
    · rw [if_pos (by rw [b01_f hy]), if_pos (by rw [b01_f hy])]
      exact ⟨_, rfl, rfl⟩
  · rw [if_pos (by rw [b01_f hx]), if_pos (by rw [b01_f hx])]
    exact ⟨_, rfl, rfl⟩
theorem mapped_s (s : SW a (z 1)) (f : Ob) (x y : Int32) : ∃ r, f_x_mapped f (nO a) x y = some r ∧ f_m_mapped (nO z) x y = some r := by
  unfold f_x_mapped f_m_mapped
  have hM := s.bd.1
  have hW := s.bd.2.2.1
  rw [bd_s (f_hasWay_s s.bd), bd_s (m_way s x)]
  by_cases hx : hv (a 0 2) x
  · obtain ⟨i, hi, rfl⟩ := hx
    rw [if_neg (by rw [b01_t ⟨i, hi, rfl⟩]; decide), if_neg (by rw [b01_t ⟨i, hi, rfl⟩]; decide), bd_s (f_hasValue_s s.bd), bd_s (m_val s y)]
    by_cases hy : hv (a 0 0) y
    · obtain ⟨j, hj, rfl⟩ := hy
      rw [if_neg (by rw [b01_t ⟨j, hj, rfl⟩]; decide), if_neg (by rw [b01_t ⟨j, hj, rfl⟩]; decide), ix8, gd_t (ck_nI (by omega) (by decide)), cl (by omega), bd_s (m_of_mp (by omega) (by omega)), ← (s.eqv.2.2.2.2.1 i hi).2.2.2.2.2 j hj]
      exact ⟨_, rfl, rfl⟩
    · rw [if_pos (by rw [b01_f hy]), if_pos (by rw [b01_f hy])]
      exact ⟨_, rfl, rfl⟩
  · rw [if_pos (by rw [b01_f hx]), if_pos (by rw [b01_f hx])]
    exact ⟨_, rfl, rfl⟩
theorem steps_s (s : SW a (z 1)) (f tr : Ob) (x : Int32) : ∃ r tr' z', f_x_steps f (nO a) tr x = some (r, tr') ∧ f_m_steps (nO z) x = some (r, nO z') ∧ SmQ z z' := by
  unfold f_x_steps f_m_steps
  rw [bd_s (cho_x x), bd_s (cho_m x)]
  by_cases hx : hv 3 x
  · obtain ⟨i, hi, rfl⟩ := hx
    obtain ⟨tr', t1, -⟩ := run_c s hi (-1) tr
    obtain ⟨z', u1, u2, -⟩ := works_c s (jj := 7) (Or.inr rfl) hi (-1)
    rw [if_neg (by rw [b01_t ⟨i, hi, rfl⟩]; decide), if_neg (by rw [b01_t ⟨i, hi, rfl⟩]; decide), bd_s t1, bd_s u1]
    exact ⟨_, _, z', rfl, rfl, SmW.q (Or.inr rfl) u2⟩
  · rw [if_pos (by rw [b01_f hx]), if_pos (by rw [b01_f hx])]
    exact ⟨_, _, z, rfl, rfl, SmQ.rf z⟩
theorem worked_s (s : SW a (z 1)) (f tr : Ob) (x y : Int32) : ∃ r tr' z', f_x_worked f (nO a) tr x y = some (r, tr') ∧ f_m_worked (nO z) x y = some (r, nO z') ∧ SmQ z z' := by
  unfold f_x_worked f_m_worked
  have hP := s.bd.2.1
  rw [bd_s (f_hasPlace_s s.bd), bd_s (m_pla s y)]
  by_cases hy : hv (a 0 1) y
  · obtain ⟨p, hp, rfl⟩ := hy
    rw [if_neg (by rw [b01_t ⟨p, hp, rfl⟩]; decide), if_neg (by rw [b01_t ⟨p, hp, rfl⟩]; decide), bd_s (cho_x x), bd_s (cho_m x)]
    by_cases hx : hv 3 x
    · obtain ⟨i, hi, rfl⟩ := hx
      obtain ⟨tr', t1, t2⟩ := run_c s hi (-1) tr
      obtain ⟨z', u1, u2, u3⟩ := works_c s (jj := 7) (Or.inr rfl) hi (-1)
      have hf := fS_fin s.bd s.gd.lv hi (-1)
      have hlt := fS_lt s i (-1) p
      have q := u3 p (by omega)
      rw [if_neg (by rw [b01_t ⟨i, hi, rfl⟩]; decide), if_neg (by rw [b01_t ⟨i, hi, rfl⟩]; decide), bd_s t1, bd_s u1]
      try dsimp only
      by_cases c : (fS a i (-1)).2 = []
      · obtain ⟨-, e2, e3⟩ := sT_ne c hf.1
        rw [if_neg e2, if_pos e3, gd_t (ck_nI (by omega) (by decide)), gd_t (ck_nI (by omega) (by decide)), ix10, gd_t (ck_nI (by omega) (by decide)), cl (by omega), cl (by omega), t2 p hp]
        refine ⟨_, _, z', rfl, ?_, SmW.q (Or.inr rfl) u2⟩
        rw [show nO z' 7 p = nI ((fS a i (-1)).1 p / 256) from congrArg nI q.1, show nO z' 7 (10 + p) = nI ((fS a i (-1)).1 p % 256) from congrArg nI q.2, show (256 : Int32) = nI 256 from rfl, pk_mul, nI_add]
        congr 3
        omega
      · have e : sT (fS a i (-1)) (fT a i (-1)) = -1 := by unfold sT; rw [if_neg c]
        rw [e, if_pos rfl, if_neg (by decide)]
        exact ⟨_, _, z', rfl, rfl, SmW.q (Or.inr rfl) u2⟩
    · rw [if_pos (by rw [b01_f hx]), if_pos (by rw [b01_f hx])]
      exact ⟨_, _, z, rfl, rfl, SmQ.rf z⟩
  · rw [if_pos (by rw [b01_f hy]), if_pos (by rw [b01_f hy])]
    exact ⟨_, _, z, rfl, rfl, SmQ.rf z⟩
theorem knownAt_y (s : SW a (z 1)) (w : WL a) {k : Nat} (hk : k < 20) : ∃ z', f_m_knownAt (nO z) (nI k) = some (nI (z' 6 k), nO z') ∧ SmQ z z' ∧ Fm (z' 6) (fS a 0 (-1)).1 := by
  unfold f_m_knownAt
  obtain ⟨z', u1, u2, u3⟩ := works_c s (jj := 6) (Or.inl rfl) (ch := 0) (by decide) (-1)
  have e := fS_end s w (ch := 0) (by decide) (-1)
  rw [bd_s (m_well s), if_neg (by rw [b01_t w]; decide), show f_m_works 6 (nO z) 0 (-1) = some (sT (fS a 0 (-1)) (fT a 0 (-1)), nO z') from u1, bd_s rfl]
  try dsimp only
  rw [if_neg (show ¬ (sT (fS a 0 (-1)) (fT a 0 (-1))) < 0 by rw [e.1]; exact nI_pos (by omega)), gd_t (ck_nI hk (by decide)), cl (by omega)]
  exact ⟨z', rfl, SmW.q (Or.inl rfl) u2, u3⟩
theorem knownAt_n (s : SW a (z 1)) (w : ¬ WL a) (x : Int32) : f_m_knownAt (nO z) x = some (-1, nO z) := by
  unfold f_m_knownAt
  rw [bd_s (m_well s), if_pos (by rw [b01_f w])]
theorem rebAt_x {st : Nat → Nat} (s : SW a st) (f jd : Ob) {p : Nat} (hp : p < a 0 1) : ∃ jd', f_x_rebuiltAt f (nO a) jd (nI p) = some (nI (rbs a (a 0 1) p), jd') := by
  unfold f_x_rebuiltAt
  have hP := s.bd.2.1
  obtain ⟨jd', r1, r2⟩ := f_rebuild_s s jd
  rw [bd_s r1, gd_t (ck_nI (by omega) (by decide)), cl (by omega), r2 p hp]
  exact ⟨_, rfl⟩
theorem rebAt_m (s : SW a (z 1)) (hr : RB z) {k : Nat} (hk : k < 20) : ∃ z', f_m_rebuiltAt (nO z) (nI k) = some (nI (z' 8 k), nO z') ∧ SmQ z z' ∧ R8 a (a 0 1) z' := by
  unfold f_m_rebuiltAt
  obtain ⟨z', r1, r2, r3⟩ := m_rebuilds_s s hr
  rw [bd_s r1, gd_t (ck_nI hk (by decide)), cl (by omega)]
  exact ⟨z', rfl, r2, r3⟩
theorem place_s (h : Sm f a pt i0 v0 i1 v1 bk z rg) (kn jd : Ob) (x y : Int32) : ∃ r kn' jd' z', f_x_place f (nO a) kn jd x y = some (r, kn', jd') ∧ f_m_place (nO z) x y = some (r, nO z') ∧ SmQ z z' := by
  have s := h.sw
  have hP := s.bd.2.1
  unfold f_x_place f_m_place
  rw [bd_s (f_hasPlace_s s.bd), bd_s (m_pla s x)]
  by_cases hx : hv (a 0 1) x
  · obtain ⟨p, hp, rfl⟩ := hx
    have pl := s.pl p hp
    have bb := s.bs.2.2.2.2.1 p (by omega)
    have hst := s.bd.st p
    have hwr := s.bd.wr p
    have hh : hv (a 0 1) (nI p) := ⟨p, hp, rfl⟩
    rw [if_neg (b01_n hh), if_neg (b01_n hh), ix10, ix67, ix77, ix87, ix97]
    simp only [gd_t (ck_nI (show p < 10 by omega) (by decide)), gd_t (ck_nI (show 67 + p < 367 by omega) (by decide)), gd_t (ck_nI (show 77 + p < 367 by omega) (by decide)), gd_t (ck_nI (show 87 + p < 367 by omega) (by decide)), gd_t (ck_nI (show 97 + p < 367 by omega) (by decide)), cl (show p < 2 ^ 31 by omega), cl (show 67 + p < 2 ^ 31 by omega), cl (show 77 + p < 2 ^ 31 by omega), cl (show 87 + p < 2 ^ 31 by omega), cl (show 97 + p < 2 ^ 31 by omega), show nO a 2 p = nI (a 2 p) from rfl, show nO a 3 p = nI (a 3 p) from rfl]
    by_cases q : y = 0
    · rw [if_pos q, if_pos q, bd_s (f_valueOf_s hst)]
      exact ⟨_, _, _, z, rfl, by rw [show nO z 1 (67 + p) = nI (a 2 p / 256) from congrArg nI (by omega)], SmQ.rf z⟩
    rw [if_neg q, if_neg q]
    by_cases q : y = 1
    · rw [if_pos q, if_pos q, bd_s (f_setOf_s hst)]
      exact ⟨_, _, _, z, rfl, by rw [show nO z 1 (77 + p) = nI (a 2 p % 256) from congrArg nI (by omega)], SmQ.rf z⟩
    rw [if_neg q, if_neg q]
    by_cases q : y = 2
    · rw [if_pos q, if_pos q]
      by_cases w : WL a
      · obtain ⟨kn', k1, k2⟩ := fk_y s w f kn
        obtain ⟨z', u1, u2, u3⟩ := knownAt_y s w (k := p) (by omega)
        rw [bd_s k1, bd_s u1]
        try dsimp only
        rw [if_neg (by decide), k2 p hp, bd_s (f_valueOf_s (fS_lt s 0 (-1) p))]
        exact ⟨_, _, _, z', rfl, by rw [(u3 p (by omega)).1], u2⟩
      · rw [bd_s (fk_n s w f kn), bd_s (knownAt_n s w _)]
        exact ⟨_, _, _, z, rfl, rfl, SmQ.rf z⟩
    rw [if_neg q, if_neg q]
    by_cases q : y = 3
    · rw [if_pos q, if_pos q]
      by_cases w : WL a
      · obtain ⟨kn', k1, k2⟩ := fk_y s w f kn
        obtain ⟨z', u1, u2, u3⟩ := knownAt_y s w (k := 10 + p) (by omega)
        rw [bd_s k1, bd_s u1]
        try dsimp only
        rw [if_neg (by decide), k2 p hp, bd_s (f_setOf_s (fS_lt s 0 (-1) p))]
        exact ⟨_, _, _, z', rfl, by rw [(u3 p (by omega)).2], u2⟩
      · rw [bd_s (fk_n s w f kn), bd_s (knownAt_n s w _)]
        exact ⟨_, _, _, z, rfl, rfl, SmQ.rf z⟩
    rw [if_neg q, if_neg q]
    by_cases q : y = 4
    · obtain ⟨jd', r1⟩ := rebAt_x s f jd hp
      obtain ⟨z', u1, u2, u3⟩ := rebAt_m s h.rb (k := p) (by omega)
      rw [if_pos q, if_pos q, bd_s r1, bd_s u1]
      try dsimp only
      rw [bd_s (f_valueOf_s (rbs_lt s.bd _ _))]
      exact ⟨_, _, _, z', rfl, by rw [(u3.2 p hp).1], u2⟩
    rw [if_neg q, if_neg q]
    by_cases q : y = 5
    · obtain ⟨jd', r1⟩ := rebAt_x s f jd hp
      obtain ⟨z', u1, u2, u3⟩ := rebAt_m s h.rb (k := 10 + p) (by omega)
      rw [if_pos q, if_pos q, bd_s r1, bd_s u1]
      try dsimp only
      rw [bd_s (f_setOf_s (rbs_lt s.bd _ _))]
      exact ⟨_, _, _, z', rfl, by rw [(u3.2 p hp).2], u2⟩
    rw [if_neg q, if_neg q]
    by_cases q : y = 6
    · rw [if_pos q, if_pos q, bd_s (f_isKept_s s.bd (by omega)), bd_s (m_kep s (by omega))]
      by_cases c : kp a p
      · rw [if_neg (by rw [b01_t c]; decide), if_neg (by rw [b01_t c]; decide), bd_s (f_valueOf_s hwr)]
        exact ⟨_, _, _, z, rfl, by rw [show nO z 1 (87 + p) = nI (a 3 p / 256) from congrArg nI (by omega)], SmQ.rf z⟩
      · rw [if_pos (by rw [b01_f c]), if_pos (by rw [b01_f c])]
        exact ⟨_, _, _, z, rfl, rfl, SmQ.rf z⟩
    rw [if_neg q, if_neg q]
    by_cases q : y = 7
    · rw [if_pos q, if_pos q, bd_s (f_isKept_s s.bd (by omega)), bd_s (m_kep s (by omega))]
      by_cases c : kp a p
      · rw [if_neg (by rw [b01_t c]; decide), if_neg (by rw [b01_t c]; decide), bd_s (f_setOf_s hwr)]
        exact ⟨_, _, _, z, rfl, by rw [show nO z 1 (97 + p) = nI (a 3 p % 256) from congrArg nI (by omega)], SmQ.rf z⟩
      · rw [if_pos (by rw [b01_f c]), if_pos (by rw [b01_f c])]
        exact ⟨_, _, _, z, rfl, rfl, SmQ.rf z⟩
    rw [if_neg q, if_neg q]
    exact ⟨_, _, _, z, rfl, rfl, SmQ.rf z⟩
  · rw [if_pos (by rw [b01_f hx]), if_pos (by rw [b01_f hx])]
    exact ⟨_, _, _, z, rfl, rfl, SmQ.rf z⟩
end RD
