/-! the reference: its row of numbers as a web; what its reading methods answer -/
def wb (st : Nat → Nat) : NO := fun i k => match i with
  | 0 => st k
  | 1 => if k < 64 then st (3 + k) else 0
  | 2 => if k < 10 then st (67 + k) * 256 + st (77 + k) else 0
  | 3 => if k < 10 then st (87 + k) * 256 + st (97 + k) else 0
  | 4 => if k < 20 then st (107 + 13 * k) else 0
  | 5 => if k < 20 then st (108 + 13 * k) else 0
  | 6 => if k < 160 then st (112 + 13 * (k / 8) + k % 8) else 0
  | 7 => if k < 20 then st (109 + 13 * k) else 0
  | 8 => if k < 20 then st (110 + 13 * k) else 0
  | _ => if k < 20 then st (111 + 13 * k) else 0
def BdS (st : Nat → Nat) : Prop := st 0 ≤ 8 ∧ st 1 ≤ 10 ∧ st 2 ≤ 20 ∧ (∀ k, k < 64 → st (3 + k) < 8) ∧ (∀ p, p < 10 → st (67 + p) < 8 ∧ st (77 + p) < 256 ∧ st (87 + p) < 8 ∧ st (97 + p) < 256) ∧
  (∀ w, w < 20 → st (107 + 13 * w) < 10 ∧ st (108 + 13 * w) < 10 ∧ st (109 + 13 * w) < 256 ∧ st (110 + 13 * w) < 256 ∧ st (111 + 13 * w) < 8 ∧ ∀ x, x < 8 → st (112 + 13 * w + x) < 8)
theorem wb_if {c : Prop} [Decidable c] {x n : Nat} (h : c → x < n) (h0 : 0 < n) : (if c then x else 0) < n := by
  by_cases q : c
  · rw [if_pos q]; exact h q
  · rw [if_neg q]; exact h0
theorem Bd_wb {st : Nat → Nat} (h : BdS st) : Bd (wb st) := by
  obtain ⟨h0, h1, h2, h3, h4, h5⟩ := h
  refine ⟨h0, h1, h2, fun k => ⟨?_, ?_, ?_, ?_, ?_, ?_, ?_, ?_, ?_⟩⟩
  · exact wb_if (fun q => h3 k q) (by decide)
  · exact wb_if (fun q => by have := h4 k q; omega) (by decide)
  · exact wb_if (fun q => by have := h4 k q; omega) (by decide)
  · exact wb_if (fun q => (h5 k q).1) (by decide)
  · exact wb_if (fun q => (h5 k q).2.1) (by decide)
  · exact wb_if (fun q => (h5 (k / 8) (by omega)).2.2.2.2.2 (k % 8) (by omega)) (by decide)
  · exact wb_if (fun q => (h5 k q).2.2.1) (by decide)
  · exact wb_if (fun q => (h5 k q).2.2.2.1) (by decide)
  · exact wb_if (fun q => (h5 k q).2.2.2.2.1) (by decide)
theorem wb_jn {st : Nat → Nat} {x y : Nat} (hx : x < 8) (hy : y < 8) : jn (wb st) x y = st (3 + 8 * x + y) := by
  show (if x * 8 + y < 64 then st (3 + (x * 8 + y)) else 0) = _
  rw [if_pos (by omega)]
  congr 1
  omega
theorem wb_mp {st : Nat → Nat} {w x : Nat} (hw : w < 20) (hx : x < 8) : wb st 6 (w * 8 + x) = st (112 + 13 * w + x) := by
  show (if w * 8 + x < 160 then st (112 + 13 * ((w * 8 + x) / 8) + (w * 8 + x) % 8) else 0) = _
  rw [if_pos (by omega)]
  congr 1
  omega
theorem m_both_s {z : NO} {x y : Nat} (hx : x < 8) (hy : y < 8) : f_m_both (nO z) (nI x) (nI y) = some (nI (jn (wb (z 1)) x y)) := by
  unfold f_m_both
  rw [ixT, gd_t (ck_nI (by omega) (by decide)), cl (by omega), wb_jn hx hy]
  rfl
theorem m_isBelow_s {z : NO} (hb : BdS (z 1)) {x y : Nat} (hx : x < 8) (hy : y < 8) : f_m_isBelow (nO z) (nI x) (nI y) = some (b01 (jn (wb (z 1)) x y = y)) := by
  unfold f_m_isBelow
  have h := jn_lt (Bd_wb hb) x y
  rw [bd_s (m_both_s hx hy)]
  simp only [nI_eq (show jn (wb (z 1)) x y < 2 ^ 31 by omega) (show y < 2 ^ 31 by omega), ite_b01]
theorem m_of_s {z : NO} {w j : Nat} (h : 107 + 13 * w + j < 367) : f_m_of (nO z) (nI w) (nI j) = some (nI (z 1 (107 + 13 * w + j))) := by
  unfold f_m_of
  rw [ixW, gd_t (ck_nI h (by decide)), cl (by omega)]
  rfl
theorem m_of_fr {z : NO} {w : Nat} (h : w < 20) : f_m_of (nO z) (nI w) 0 = some (nI (wb (z 1) 4 w)) := by
  rw [show wb (z 1) 4 w = z 1 (107 + 13 * w + 0) from if_pos h]
  exact m_of_s (j := 0) (by omega)
theorem m_of_to {z : NO} {w : Nat} (h : w < 20) : f_m_of (nO z) (nI w) 1 = some (nI (wb (z 1) 5 w)) := by
  rw [show wb (z 1) 5 w = z 1 (107 + 13 * w + 1) from Eq.trans (if_pos h) (congrArg (z 1) (by omega))]
  exact m_of_s (j := 1) (by omega)
theorem m_of_gv {z : NO} {w : Nat} (h : w < 20) : f_m_of (nO z) (nI w) 2 = some (nI (wb (z 1) 7 w)) := by
  rw [show wb (z 1) 7 w = z 1 (107 + 13 * w + 2) from Eq.trans (if_pos h) (congrArg (z 1) (by omega))]
  exact m_of_s (j := 2) (by omega)
theorem m_of_tk {z : NO} {w : Nat} (h : w < 20) : f_m_of (nO z) (nI w) 3 = some (nI (wb (z 1) 8 w)) := by
  rw [show wb (z 1) 8 w = z 1 (107 + 13 * w + 3) from Eq.trans (if_pos h) (congrArg (z 1) (by omega))]
  exact m_of_s (j := 3) (by omega)
theorem m_of_gt {z : NO} {w : Nat} (h : w < 20) : f_m_of (nO z) (nI w) 4 = some (nI (wb (z 1) 9 w)) := by
  rw [show wb (z 1) 9 w = z 1 (107 + 13 * w + 4) from Eq.trans (if_pos h) (congrArg (z 1) (by omega))]
  exact m_of_s (j := 4) (by omega)
theorem m_of_mp {z : NO} {w x : Nat} (h : w < 20) (hx : x < 8) : f_m_of (nO z) (nI w) (5 + nI x) = some (nI (wb (z 1) 6 (w * 8 + x))) := by
  rw [ix5, m_of_s (by omega), wb_mp h hx]
  congr 3
  omega
/-- a number below n -/
def hv (n : Nat) (x : Int32) : Prop := ∃ j, j < n ∧ x = nI j
theorem hv_no {n : Nat} {x : Int32} (h : x < 0) (hn : n < 2 ^ 31) : ¬ hv n x := by
  rintro ⟨j, h1, rfl⟩
  exact nI_pos (by omega) h
theorem hv_nI {n j : Nat} (hj : j < 2 ^ 31) (hn : n < 2 ^ 31) : hv n (nI j) ↔ j < n := by
  constructor
  · rintro ⟨k, h1, h2⟩
    rw [(nI_eq hj (by omega)).mp h2]
    exact h1
  · intro h
    exact ⟨j, h, rfl⟩
theorem has_s {n : Nat} {x : Int32} (hn : n < 2 ^ 31) : (if x < 0 then some (0 : Int32) else (if nI n ≤ x then some 0 else some 1)) = some (b01 (hv n x)) := by
  by_cases h : x < 0
  · rw [if_pos h, b01_f (hv_no h hn)]
  · obtain ⟨j, hj, rfl⟩ := nI_of h
    rw [if_neg h]
    simp only [nI_leI hn hj, ite_b10]
    exact congrArg some (b01_c ⟨fun q => (hv_nI hj hn).mpr (by omega), fun q => by have := (hv_nI hj hn).mp q; omega⟩)
theorem f_hasValue_s {a : NO} {x : Int32} (hb : Bd a) : f_hasValue (nO a) x = some (b01 (hv (a 0 0) x)) := by have := hb.1; exact has_s (by omega)
theorem f_hasPlace_s {a : NO} {x : Int32} (hb : Bd a) : f_hasPlace (nO a) x = some (b01 (hv (a 0 1) x)) := by have := hb.2.1; exact has_s (by omega)
theorem f_hasWay_s {a : NO} {x : Int32} (hb : Bd a) : f_hasWay (nO a) x = some (b01 (hv (a 0 2) x)) := by have := hb.2.2.1; exact has_s (by omega)
theorem m1_lt (j : Nat) (hj : j < 2 ^ 31) : (-1 : Int32) < nI j := by
  rw [Int32.lt_iff_toInt_lt, nI_toInt hj]
  have : (-1 : Int32).toInt = -1 := by decide
  omega
theorem pred_lt {n j : Nat} (hn : n < 2 ^ 31) (hj : j < 2 ^ 31) : nI n - 1 < nI j ↔ n ≤ j := by
  cases n with
  | zero =>
    rw [show nI 0 - 1 = -1 from by decide]
    exact ⟨fun _ => Nat.zero_le _, fun _ => m1_lt j hj⟩
  | succ n =>
    rw [nI_pred, nI_ltI (by omega) hj]
    omega
theorem m_in_s {n : Nat} {x : Int32} (hn : n < 2 ^ 31) : f_m_in x 0 (nI n - 1) = some (b01 (hv n x)) := by
  unfold f_m_in
  by_cases h : x < 0
  · rw [if_pos h, b01_f (hv_no h hn)]
  · obtain ⟨j, hj, rfl⟩ := nI_of h
    rw [if_neg h]
    simp only [pred_lt hn hj, ite_b10]
    exact congrArg some (b01_c ⟨fun q => (hv_nI hj hn).mpr (by omega), fun q => by have := (hv_nI hj hn).mp q; omega⟩)
theorem m_isValue_s {z : NO} {x : Int32} (hb : BdS (z 1)) : f_m_isValue (nO z) x = some (b01 (hv (wb (z 1) 0 0) x)) := by
  unfold f_m_isValue
  have := hb.1
  rw [c0, bd_s (show f_m_in x 0 (nO z 1 0 - 1) = _ from m_in_s (n := z 1 0) (by omega)), gd_t b01_bz]
  rfl
theorem m_isPlace_s {z : NO} {x : Int32} (hb : BdS (z 1)) : f_m_isPlace (nO z) x = some (b01 (hv (wb (z 1) 0 1) x)) := by
  unfold f_m_isPlace
  have := hb.2.1
  rw [c1, bd_s (show f_m_in x 0 (nO z 1 1 - 1) = _ from m_in_s (n := z 1 1) (by omega)), gd_t b01_bz]
  rfl
theorem m_isWay_s {z : NO} {x : Int32} (hb : BdS (z 1)) : f_m_isWay (nO z) x = some (b01 (hv (wb (z 1) 0 2) x)) := by
  unfold f_m_isWay
  have := hb.2.2.1
  rw [c2, bd_s (show f_m_in x 0 (nO z 1 2 - 1) = _ from m_in_s (n := z 1 2) (by omega)), gd_t b01_bz]
  rfl
theorem m_isKept_s {z : NO} (hb : BdS (z 1)) {p : Nat} (hp : p < 2 ^ 31) : f_m_isKept (nO z) (nI p) = some (b01 (kp (wb (z 1)) p)) := by
  unfold f_m_isKept
  have hB := Bd_wb hb
  have hN := hb.2.2.1
  rcases lp_fst (F := fun fu i => lp_m_isKept_2 (nO z) (nI p) k_m_isKept_2 fu i) (z 1 2) (fun w => wb (z 1) 5 w = p ∧ p ≤ wb (z 1) 4 w) (fun _ => some 1) (some 0)
    (by
      intro fu i hi
      have h4 := hB.fr i
      have h5 := hB.to i
      try dsimp only
      rw [lp_m_isKept_2, c2, if_neg (show ¬ nO z 1 2 ≤ nI i from nle hi (by omega)), bd_s (m_of_to (by omega)), nI_1]
      simp only [nI_eq (show wb (z 1) 5 i < 2 ^ 31 by omega) hp]
      by_cases q1 : wb (z 1) 5 i = p
      · rw [if_pos q1, bd_s (m_of_fr (by omega))]
        simp only [nI_ltI (show wb (z 1) 4 i < 2 ^ 31 by omega) hp]
        by_cases q2 : wb (z 1) 4 i < p
        · exact Or.inl ⟨fun q => by omega, if_pos q2⟩
        · exact Or.inr ⟨⟨q1, by omega⟩, if_neg q2⟩
      · exact Or.inl ⟨fun q => q1 q.1, if_neg q1⟩)
    (by
      intro fu
      try dsimp only
      rw [lp_m_isKept_2, c2, if_pos (show nO z 1 2 ≤ nI (z 1 2) from nlr (by omega))]
      rfl) 10000 (by omega) with ⟨j, h1, h2, h3, h4⟩ | ⟨h1, h2⟩
  · rw [b01_t (c := kp (wb (z 1)) p) ⟨j, h1, h2⟩]; exact h4
  · rw [b01_f (c := kp (wb (z 1)) p) (fun ⟨j, q1, q2⟩ => h1 j q1 q2)]; exact h2
theorem dec3 {m : Nat} {P : Nat → Nat → Nat → Prop} : (∀ k, k < m * m * m → P (k / m / m) (k / m % m) (k % m)) ↔ ∀ x, x < m → ∀ y, y < m → ∀ z, z < m → P x y z := by
  constructor
  · intro h x hx y hy z hz
    have e1 : ((x * m + y) * m + z) / m = x * m + y := by
      rw [Nat.mul_comm (x * m + y) m, Nat.mul_add_div (by omega), Nat.div_eq_of_lt hz, Nat.add_zero]
    have e2 : ((x * m + y) * m + z) % m = z := by
      rw [Nat.mul_comm (x * m + y) m, Nat.mul_add_mod, Nat.mod_eq_of_lt hz]
    have e3 : (x * m + y) / m = x := by
      rw [Nat.mul_comm x m, Nat.mul_add_div (by omega), Nat.div_eq_of_lt hy, Nat.add_zero]
    have e4 : (x * m + y) % m = y := by
      rw [Nat.mul_comm x m, Nat.mul_add_mod, Nat.mod_eq_of_lt hy]
    have hk : (x * m + y) * m + z < m * m * m := by
      have h1 : x * m + y + 1 ≤ m * m := by
        have : (x + 1) * m ≤ m * m := Nat.mul_le_mul_right m hx
        rw [Nat.add_mul] at this
        omega
      have h2 : (x * m + y + 1) * m ≤ m * m * m := Nat.mul_le_mul_right m h1
      rw [Nat.add_mul (x * m + y) 1 m] at h2
      omega
    have := h _ hk
    rw [e1, e2, e3, e4] at this
    exact this
  · intro h k hk
    have hm : 0 < m := by
      rcases Nat.eq_zero_or_pos m with q | q
      · subst q; omega
      · exact q
    exact h _ (Nat.div_lt_of_lt_mul (Nat.div_lt_of_lt_mul (by rw [Nat.mul_assoc] at hk; exact hk))) _ (Nat.mod_lt _ hm) _ (Nat.mod_lt _ hm)
/-- a law of the reference, at three values -/
def hl (b : NO) (n x y z : Nat) : Prop := if n = 1 then jn b x x = x else if n = 2 then jn b x y = jn b y x else if n = 3 then jn b (jn b x y) z = jn b x (jn b y z) else jn b 0 x = x
theorem m_holds_s {z : NO} (hb : BdS (z 1)) {n x y u : Nat} (hn : n < 5) (hx : x < 8) (hy : y < 8) (hu : u < 8) : f_m_holds (nO z) (nI n) (nI x) (nI y) (nI u) = some (b01 (hl (wb (z 1)) n x y u)) := by
  unfold f_m_holds hl
  have hB := Bd_wb hb
  rw [show (1 : Int32) = nI 1 from rfl, show (2 : Int32) = nI 2 from rfl, show (3 : Int32) = nI 3 from rfl]
  simp only [nI_eq (show n < 2 ^ 31 by omega) (show 1 < 2 ^ 31 by decide), nI_eq (show n < 2 ^ 31 by omega) (show 2 < 2 ^ 31 by decide), nI_eq (show n < 2 ^ 31 by omega) (show 3 < 2 ^ 31 by decide)]
  have j1 := jn_lt hB x x
  have j2 := jn_lt hB x y
  have j3 := jn_lt hB y x
  have j4 := jn_lt hB y u
  have j5 := jn_lt hB (jn (wb (z 1)) x y) u
  have j6 := jn_lt hB x (jn (wb (z 1)) y u)
  have j7 := jn_lt hB 0 x
  by_cases c1 : n = 1
  · rw [if_pos c1, if_pos c1, bd_s (m_both_s hx hx)]
    simp only [nI_eq (show jn (wb (z 1)) x x < 2 ^ 31 by omega) (show x < 2 ^ 31 by omega)]
    exact ite_b01
  · rw [if_neg c1, if_neg c1]
    by_cases c2 : n = 2
    · rw [if_pos c2, if_pos c2, bd_s (m_both_s hx hy), bd_s (m_both_s hy hx)]
      simp only [nI_eq (show jn (wb (z 1)) x y < 2 ^ 31 by omega) (show jn (wb (z 1)) y x < 2 ^ 31 by omega)]
      exact ite_b01
    · rw [if_neg c2, if_neg c2]
      by_cases c3 : n = 3
      · rw [if_pos c3, if_pos c3, bd_s (m_both_s hx hy), bd_s (m_both_s j2 hu), bd_s (m_both_s hy hu), bd_s (m_both_s hx j4)]
        simp only [nI_eq (show jn (wb (z 1)) (jn (wb (z 1)) x y) u < 2 ^ 31 by omega) (show jn (wb (z 1)) x (jn (wb (z 1)) y u) < 2 ^ 31 by omega)]
        exact ite_b01
      · rw [if_neg c3, if_neg c3, bd_s (show f_m_both (nO z) 0 (nI x) = _ from m_both_s (x := 0) (by decide) hx)]
        simp only [nI_eq (show jn (wb (z 1)) 0 x < 2 ^ 31 by omega) (show x < 2 ^ 31 by omega)]
        exact ite_b01
theorem nz_nI {m : Nat} (h : 0 < m) (hm : m < 2 ^ 31) : nz (nI m) = true := by
  unfold nz
  simp [nI_ne0 h hm]
theorem cube_le {m : Nat} (h : m ≤ 8) : m * m * m ≤ 512 := by
  have h1 : m * m ≤ 8 * 8 := Nat.mul_le_mul h h
  have h2 : m * m * m ≤ 8 * 8 * 8 := Nat.mul_le_mul h1 h
  omega
theorem m_broken_16 {z : NO} (hb : BdS (z 1)) {n : Nat} (hn : n < 5) (kk : Int32 → Option Int32) : ((∀ x, x < z 1 0 → ∀ y, y < z 1 0 → ∀ u, u < z 1 0 → hl (wb (z 1)) n x y u) ∧ lp_m_broken_16 (nO z) (nI n) kk 10000 0 = kk (nI (z 1 0 * z 1 0 * z 1 0))) ∨ ((¬ ∀ x, x < z 1 0 → ∀ y, y < z 1 0 → ∀ u, u < z 1 0 → hl (wb (z 1)) n x y u) ∧ lp_m_broken_16 (nO z) (nI n) kk 10000 0 = some (nI n)) := by
  have hM := hb.1
  have hq := cube_le hM
  rw [← dec3 (P := hl (wb (z 1)) n)]
  exact lp_all (F := fun fu i => lp_m_broken_16 (nO z) (nI n) kk fu i) (z 1 0 * z 1 0 * z 1 0) (fun k => hl (wb (z 1)) n (k / z 1 0 / z 1 0) (k / z 1 0 % z 1 0) (k % z 1 0)) (some (nI n)) (kk (nI (z 1 0 * z 1 0 * z 1 0)))
    (by
      intro fu i hi
      have hm : 0 < z 1 0 := by
        rcases Nat.eq_zero_or_pos (z 1 0) with q | q
        · rw [q] at hi; omega
        · exact q
      have d1 : i / z 1 0 < 2 ^ 31 := Nat.lt_of_le_of_lt (Nat.div_le_self _ _) (by omega)
      have d2 : i / z 1 0 / z 1 0 < z 1 0 := Nat.div_lt_of_lt_mul (Nat.div_lt_of_lt_mul (by rw [Nat.mul_assoc] at hi; exact hi))
      have d3 := Nat.mod_lt (i / z 1 0) hm
      have d4 := Nat.mod_lt i hm
      try dsimp only
      rw [lp_m_broken_16, c0, show nO z 1 0 = nI (z 1 0) from rfl, pk_mul, pk_mul, if_neg (nle hi (by omega))]
      simp only [gd_t (nz_nI hm (by omega))]
      rw [pk_rem (show i < 2 ^ 31 by omega) hm (by omega), pk_div (show i < 2 ^ 31 by omega) hm (by omega), pk_rem d1 hm (by omega), pk_div d1 hm (by omega)]
      rw [bd_s (m_holds_s hb hn (by omega) (by omega) (by omega)), nI_1]
      by_cases c : hl (wb (z 1)) n (i / z 1 0 / z 1 0) (i / z 1 0 % z 1 0) (i % z 1 0)
      · exact Or.inl ⟨c, if_neg (by rw [b01_t c]; decide)⟩
      · exact Or.inr ⟨c, if_pos (by rw [b01_f c])⟩)
    (by
      intro fu
      try dsimp only
      rw [lp_m_broken_16, c0, show nO z 1 0 = nI (z 1 0) from rfl, pk_mul, pk_mul, if_pos (nlr (by omega))]) 10000 (by omega)
