/-! both sides as they go on together -/
def PS (pt : Ob) (rg : Nat → Ob) (z : NO) : Prop := ∃ (n : Nat) (ra : Nat → NO), n < 16 ∧ pt 0 1 = nI n ∧ pt 0 0 = nI (z 0 2) ∧ z 0 2 ≤ 16 ∧ (∀ i, rg i = nO (ra i) ∧ Bd (ra i)) ∧ ∀ i, i < z 0 2 → SW (ra ((n + 16 - z 0 2 + i) % 16)) (fun k => z 2 (367 * i + k))
def IM (im v : Ob) (x : Nat) (z : NO) : Prop := ∃ b, v = nO b ∧ Bd b ∧ im 0 1 = nI (z 4 x) ∧ z 4 x ≤ 1 ∧ (z 4 x ≠ 0 → SW b (fun k => z 3 (368 * x + k)) ∧ im 0 0 = nI (z 3 (368 * x + 367)) ∧ z 3 (368 * x + 367) < 2 ^ 31)
def Sm (f : Ob) (a : NO) (pt i0 v0 i1 v1 bk : Ob) (z : NO) (rg : Nat → Ob) : Prop := SW a (z 1) ∧ (f 0 0 = nI (z 0 5) ∧ z 0 5 < 2 ^ 31) ∧ PS pt rg z ∧ IM i0 v0 0 z ∧ IM i1 v1 1 z ∧ BK bk z ∧ RB z
theorem PS_c {pt : Ob} {rg : Nat → Ob} {z z' : NO} (h : PS pt rg z) (e : z' 0 2 = z 0 2) (e2 : z' 2 = z 2) : PS pt rg z' := by
  unfold PS at *
  rw [e, e2]
  exact h
theorem IM_c {im v : Ob} {x : Nat} {z z' : NO} (h : IM im v x z) (e3 : z' 3 = z 3) (e4 : z' 4 = z 4) : IM im v x z' := by
  unfold IM at *
  rw [e3, e4]
  exact h
theorem BK_c {bk : Ob} {z z' : NO} (h : BK bk z) (e : z' 0 7 = z 0 7) (e5 : z' 5 = z 5) : BK bk z' := by
  unfold BK at *
  rw [e, e5]
  exact h
theorem RB_c {z z' : NO} (h : RB z) (e : z' 8 = z 8) : RB z' := by
  unfold RB at *
  rw [e]
  exact h
section SMS
variable {f pt i0 v0 i1 v1 bk : Ob} {a z : NO} {rg : Nat → Ob}
theorem Sm.sw (h : Sm f a pt i0 v0 i1 v1 bk z rg) : SW a (z 1) := h.1
theorem Sm.ps (h : Sm f a pt i0 v0 i1 v1 bk z rg) : PS pt rg z := h.2.2.1
theorem Sm.book (h : Sm f a pt i0 v0 i1 v1 bk z rg) : BK bk z := h.2.2.2.2.2.1
theorem Sm.rb (h : Sm f a pt i0 v0 i1 v1 bk z rg) : RB z := h.2.2.2.2.2.2
theorem Sm.q {z' : NO} (h : Sm f a pt i0 v0 i1 v1 bk z rg) (q : SmQ z z') : Sm f a pt i0 v0 i1 v1 bk z' rg := by
  obtain ⟨q1, q2, q3⟩ := q
  have e : ∀ i, i ≠ 0 → i < 6 → z' i = z i := fun i h0 h1 => q1 i h0 (by omega) (by omega) (by omega) (by omega)
  have e0 : ∀ k, k < 11 → z' 0 k = z 0 k := fun k hk => q2 k (by omega) (by omega) (by omega) (by omega) (by omega)
  obtain ⟨h1, h2, h3, h4, h5, h6, h7⟩ := h
  refine ⟨by rw [e 1 (by decide) (by decide)]; exact h1, by rw [e0 5 (by decide)]; exact h2, PS_c h3 (e0 2 (by decide)) (e 2 (by decide) (by decide)), IM_c h4 (e 3 (by decide) (by decide)) (e 4 (by decide) (by decide)), IM_c h5 (e 3 (by decide) (by decide)) (e 4 (by decide) (by decide)), BK_c h6 (e0 7 (by decide)) (e 5 (by decide) (by decide)), q3 h7⟩
/-- another web -/
theorem Sm.w {a' : NO} {g : Nat → Nat} (h : Sm f a pt i0 v0 i1 v1 bk z rg) (hs : SW a' g) : Sm f a' pt i0 v0 i1 v1 bk (rN z 1 g) rg := by
  obtain ⟨h1, h2, h3, h4, h5, h6, h7⟩ := h
  exact ⟨by rw [rN_s]; exact hs, h2, PS_c h3 rfl rfl, IM_c h4 rfl rfl, IM_c h5 rfl rfl, BK_c h6 rfl rfl, RB_c h7 rfl⟩
/-- another seed -/
theorem Sm.sd {f' : Ob} {s : Nat} (h : Sm f a pt i0 v0 i1 v1 bk z rg) (e : f' 0 0 = nI s) (hs : s < 2 ^ 31) : Sm f' a pt i0 v0 i1 v1 bk (rN z 0 (nU (z 0) 5 s)) rg := by
  obtain ⟨h1, h2, h3, h4, h5, h6, h7⟩ := h
  exact ⟨h1, ⟨by rw [rN_s, nU_s]; exact e, by rw [rN_s, nU_s]; exact hs⟩, PS_c h3 rfl rfl, IM_c h4 rfl rfl, IM_c h5 rfl rfl, BK_c h6 rfl rfl, RB_c h7 rfl⟩
/-- a deed is remembered -/
theorem Sm.rem (h : Sm f a pt i0 v0 i1 v1 bk z rg) : ∃ pt' rg' z', f_remember pt (nO a) rg = some (pt', rg') ∧ f_m_notes (nO z) = some (nO z') ∧ z' 1 = z 1 ∧ z' 6 = z 6 ∧ z' 0 5 = z 0 5 ∧ Sm f a pt' i0 v0 i1 v1 bk z' rg' := by
  obtain ⟨h1, h2, h3, h4, h5, h6, h7⟩ := h
  obtain ⟨n, ra, p1, p2, p3, p4, p5, p6⟩ := h3
  obtain ⟨pt', r1, r2, r3⟩ := f_remember_s (a := a) p1 p4 p2 p3 (p5 n).1
  obtain ⟨z', n1, n2, n3, n4, n5, n6⟩ := m_notes_s p4
  refine ⟨pt', _, z', r1, n1, n2 1 (by decide) (by decide), n2 6 (by decide) (by decide), n3 5 (by decide), by rw [n2 1 (by decide) (by decide)]; exact h1, by rw [n3 5 (by decide)]; exact h2, ?_, IM_c h4 (n2 3 (by decide) (by decide)) (n2 4 (by decide) (by decide)), IM_c h5 (n2 3 (by decide) (by decide)) (n2 4 (by decide) (by decide)), BK_c h6 (n3 7 (by decide)) (n2 5 (by decide) (by decide)), RB_c h7 (n2 8 (by decide) (by decide))⟩
  refine ⟨(n + 1) % 16, va_up ra n (bc (ra n) a), Nat.mod_lt _ (by decide), r3, by rw [r2, n4], by rw [n4]; split <;> omega, fun i => ?_, fun i hi => ?_⟩
  · by_cases c : i = n
    · rw [c, va_up_self, va_up_self]
      exact ⟨rfl, Bd_bc (p5 n).2 h1.bd⟩
    · rw [va_up_ne _ _ c, va_up_ne _ _ c]
      exact p5 i
  · have n4' := n4
    by_cases u : z 0 2 = 16
    · rw [if_pos u] at n4'
      rw [n4'] at hi ⊢
      by_cases c : i = 15
      · have e : ((n + 1) % 16 + 16 - 16 + i) % 16 = n := by omega
        rw [e, va_up_self]
        refine SW_c (SW_bc (p5 n).2 h1) (fun k hk => ?_)
        have := n6 k hk
        rw [if_pos u] at this
        rw [c]
        exact this
      · have e : ((n + 1) % 16 + 16 - 16 + i) % 16 = (n + 16 - z 0 2 + (i + 1)) % 16 := by omega
        have ne : (n + 16 - z 0 2 + (i + 1)) % 16 ≠ n := by omega
        rw [e, va_up_ne _ _ ne]
        refine SW_c (p6 (i + 1) (by omega)) (fun k hk => ?_)
        have := n5 i k hk (by rw [if_pos u]; omega)
        rw [if_pos u] at this
        exact this
    · rw [if_neg u] at n4'
      rw [n4'] at hi ⊢
      by_cases c : i = z 0 2
      · have e : ((n + 1) % 16 + 16 - (z 0 2 + 1) + i) % 16 = n := by omega
        rw [e, va_up_self]
        refine SW_c (SW_bc (p5 n).2 h1) (fun k hk => ?_)
        have := n6 k hk
        rw [if_neg u] at this
        rw [c]
        exact this
      · have e : ((n + 1) % 16 + 16 - (z 0 2 + 1) + i) % 16 = (n + 16 - z 0 2 + i) % 16 := by omega
        have ne : (n + 16 - z 0 2 + i) % 16 ≠ n := by omega
        rw [e, va_up_ne _ _ ne]
        refine SW_c (p6 i (by omega)) (fun k hk => ?_)
        have := n5 i k hk (by rw [if_neg u]; omega)
        rw [if_neg u] at this
        exact this
theorem m_val (h : SW a (z 1)) (x : Int32) : f_m_isValue (nO z) x = some (b01 (hv (a 0 0) x)) := by rw [m_isValue_s h.bs, show wb (z 1) 0 0 = a 0 0 from h.e0]
theorem m_pla (h : SW a (z 1)) (x : Int32) : f_m_isPlace (nO z) x = some (b01 (hv (a 0 1) x)) := by rw [m_isPlace_s h.bs, show wb (z 1) 0 1 = a 0 1 from h.e1]
theorem m_way (h : SW a (z 1)) (x : Int32) : f_m_isWay (nO z) x = some (b01 (hv (a 0 2) x)) := by rw [m_isWay_s h.bs, show wb (z 1) 0 2 = a 0 2 from h.e2]
theorem m_kep (h : SW a (z 1)) {p : Nat} (hp : p < 2 ^ 31) : f_m_isKept (nO z) (nI p) = some (b01 (kp a p)) := by rw [m_isKept_s h.bs hp, b01_c (kp_c h.eqv p).symm]
end SMS
theorem in_s {n : Nat} {x : Int32} (hn : n + 1 < 2 ^ 31) : f_m_in x 0 (nI n) = some (b01 (hv (n + 1) x)) := by
  rw [← m_in_s hn, nI_pred]
theorem set_x (x : Int32) : f_isSet x = some (b01 (hv 256 x)) := in_s (n := 255) (x := x) (by decide)
theorem set_m (x : Int32) : f_m_isSet x = some (b01 (hv 256 x)) := by
  unfold f_m_isSet
  rw [show f_m_in x 0 255 = some (b01 (hv 256 x)) from in_s (n := 255) (x := x) (by decide), bd_s rfl, gd_t b01_bz]
theorem cho_x (x : Int32) : f_isChoice x = some (b01 (hv 3 x)) := in_s (n := 2) (x := x) (by decide)
theorem cho_m (x : Int32) : f_m_in x 0 2 = some (b01 (hv 3 x)) := in_s (n := 2) (x := x) (by decide)
theorem lt1_any (y : Int32) : y < 1 ∨ ∃ j : Nat, 0 < j ∧ j < 2 ^ 31 ∧ y = nI j := by
  rcases nI_any y with h | ⟨j, hj, rfl⟩
  · left
    rw [Int32.lt_iff_toInt_lt] at h ⊢
    rw [show (0 : Int32).toInt = 0 from by decide] at h
    rw [show (1 : Int32).toInt = 1 from by decide]
    omega
  · by_cases c : j = 0
    · left; rw [c]; decide
    · exact Or.inr ⟨j, by omega, hj, rfl⟩
/-! draws -/
theorem lN_div {x d : Nat} (hx : x < 2 ^ 63) (h0 : 0 < d) (hd : d < 2 ^ 63) : lN x / lN d = lN (x / d) := by
  apply Int64.toInt_inj.mp
  have e1 : (lN x).toInt = x := lg_ofNat_toInt hx
  have e2 : (lN d).toInt = d := lg_ofNat_toInt hd
  have e3 : (lN (x / d)).toInt = (x / d : Nat) := lg_ofNat_toInt (Nat.lt_of_le_of_lt (Nat.div_le_self x d) hx)
  rw [lg_ldiv_nonneg (by rw [e1]; omega) (by rw [e2]; omega), e1, e2, e3]
  first | rfl | exact (Int.natCast_ediv _ _).symm
def nx (s : Nat) : Nat := (s * 1103515245 + 12345) % 2147483648
theorem nx_lt (s : Nat) : nx s < 2 ^ 31 := Nat.mod_lt _ (by decide)
theorem nx_s {s : Nat} (hs : s < 2 ^ 31) : Int64.toInt32 ((((Int32.toInt64 (nI s)) * 1103515245) + 12345) - (((Int32.toInt64 (nI s)) * 1103515245) + 12345) / 2147483648 * 2147483648) = nI (nx s) := by
  have hm : s * 1103515245 + 12345 < 2 ^ 63 := by omega
  rw [nI_l hs, show (1103515245 : Int64) = lN 1103515245 from rfl, show (12345 : Int64) = lN 12345 from rfl, show (2147483648 : Int64) = lN 2147483648 from rfl, lN_mul, lN_add, lN_div hm (by decide) (by decide), lN_mul, lN_sub (Nat.div_mul_le_self _ _), lN_i]
  exact congrArg nI (by unfold nx; have := Nat.div_add_mod' (s * 1103515245 + 12345) 2147483648; omega)
theorem draw_q {s n : Nat} (hs : s < 2 ^ 31) (h0 : 0 < n) (hn : n < 2 ^ 31) : nI s / 65536 - nI s / 65536 / nI n * nI n = nI (s / 65536 % n) := by
  rw [show (65536 : Int32) = nI 65536 from rfl, pk_div hs (by decide) (by decide), pk_rem (by omega) h0 hn]
theorem draw_x {f : Ob} {s n : Nat} (e : f 0 0 = nI s) (hs : s < 2 ^ 31) (h0 : 0 < n) (hn : n < 2 ^ 31) : ∃ f', f_x_draw f (nI n) = some (nI (nx s / 65536 % n), f') ∧ f' 0 0 = nI (nx s) := by
  unfold f_x_draw
  rw [if_neg (nI_nle h0 hn), gd_t (nz_nI h0 hn), e, nx_s hs, draw_q (nx_lt s) h0 hn]
  exact ⟨_, rfl, rfl⟩
theorem draw_m {z : NO} {n : Nat} (hs : z 0 5 < 2 ^ 31) (h0 : 0 < n) (hn : n < 2 ^ 31) : f_m_draw (nO z) (nI n) = some (nI (nx (z 0 5) / 65536 % n), nO (rN z 0 (nU (z 0) 5 (nx (z 0 5))))) := by
  unfold f_m_draw
  rw [gd_t (nz_nI h0 hn), show nO z 0 5 = nI (z 0 5) from rfl, nx_s hs, draw_q (nx_lt _) h0 hn, sIu]
