/-! a way comes, a way goes, a new web -/
def aw (a : NO) (i j g t h : Nat) : NO := fun r => if r = 0 then nU (a 0) 2 (a 0 2 + 1) else if r = 4 then nU (a 4) (a 0 2) i else if r = 5 then nU (a 5) (a 0 2) j else if r = 6 then (fun k => if a 0 2 * 8 ≤ k ∧ k < a 0 2 * 8 + 8 then k - a 0 2 * 8 else a 6 k) else if r = 7 then nU (a 7) (a 0 2) g else if r = 8 then nU (a 8) (a 0 2) t else if r = 9 then nU (a 9) (a 0 2) h else a r
def sw (st : Nat → Nat) (i j g t h : Nat) : Nat → Nat := fun k => if k = 2 then st 2 + 1 else if k = 107 + 13 * st 2 then i else if k = 108 + 13 * st 2 then j else if k = 109 + 13 * st 2 then g else if k = 110 + 13 * st 2 then t else if k = 111 + 13 * st 2 then h else if 112 + 13 * st 2 ≤ k ∧ k < 120 + 13 * st 2 then k - (112 + 13 * st 2) else st k
section WAY
variable {a : NO} {st : Nat → Nat} {i j g t h : Nat}
theorem sw_2 : sw st i j g t h 2 = st 2 + 1 := if_pos rfl
theorem sw_o {k : Nat} (h2 : k ≠ 2) (hk : k < 107 + 13 * st 2 ∨ 120 + 13 * st 2 ≤ k) : sw st i j g t h k = st k := by
  unfold sw
  rw [if_neg h2, if_neg (by omega), if_neg (by omega), if_neg (by omega), if_neg (by omega), if_neg (by omega), if_neg (by omega)]
theorem sw_w0 : sw st i j g t h (107 + 13 * st 2) = i := by
  unfold sw
  rw [if_neg (by omega), if_pos rfl]
theorem sw_w1 : sw st i j g t h (108 + 13 * st 2) = j := by
  unfold sw
  rw [if_neg (by omega), if_neg (by omega), if_pos rfl]
theorem sw_w2 : sw st i j g t h (109 + 13 * st 2) = g := by
  unfold sw
  rw [if_neg (by omega), if_neg (by omega), if_neg (by omega), if_pos rfl]
theorem sw_w3 : sw st i j g t h (110 + 13 * st 2) = t := by
  unfold sw
  rw [if_neg (by omega), if_neg (by omega), if_neg (by omega), if_neg (by omega), if_pos rfl]
theorem sw_w4 : sw st i j g t h (111 + 13 * st 2) = h := by
  unfold sw
  rw [if_neg (by omega), if_neg (by omega), if_neg (by omega), if_neg (by omega), if_neg (by omega), if_pos rfl]
theorem sw_w5 {x : Nat} (hx : x < 8) : sw st i j g t h (112 + 13 * st 2 + x) = x := by
  unfold sw
  rw [if_neg (by omega), if_neg (by omega), if_neg (by omega), if_neg (by omega), if_neg (by omega), if_neg (by omega), if_pos (by omega)]
  omega
theorem BdS_way (hs : BdS st) (hW : st 2 < 20) (hi : i < 10) (hj : j < 10) (hg : g < 256) (ht : t < 256) (hh : h < 8) : BdS (sw st i j g t h) := by
  refine BdS_of (fun k hk => ?_)
  by_cases q2 : k = 2
  · rw [q2, sw_2]; show _ < 21; omega
  by_cases c : k < 107 + 13 * st 2 ∨ 120 + 13 * st 2 ≤ k
  · rw [sw_o q2 c]; exact BdS_k hs hk
  by_cases e : k = 107 + 13 * st 2
  · rw [e, sw_w0, bs_w0]; exact hi
  by_cases e : k = 108 + 13 * st 2
  · rw [e, sw_w1, bs_w1]; exact hj
  by_cases e : k = 109 + 13 * st 2
  · rw [e, sw_w2, bs_w2]; exact hg
  by_cases e : k = 110 + 13 * st 2
  · rw [e, sw_w3, bs_w3]; exact ht
  by_cases e : k = 111 + 13 * st 2
  · rw [e, sw_w4, bs_w4]; exact hh
  obtain ⟨x, rfl⟩ : ∃ x, k = 112 + 13 * st 2 + x := ⟨k - (112 + 13 * st 2), by omega⟩
  rw [sw_w5 (by omega), bs_w5 (by omega)]
  omega
theorem aw_00 : aw a i j g t h 0 0 = a 0 0 := rfl
theorem aw_01 : aw a i j g t h 0 1 = a 0 1 := rfl
theorem aw_02 : aw a i j g t h 0 2 = a 0 2 + 1 := rfl
theorem aw_6o {k : Nat} (hk : k < a 0 2 * 8) : aw a i j g t h 6 k = a 6 k := if_neg (by omega)
theorem aw_6n {x : Nat} (hx : x < 8) : aw a i j g t h 6 (a 0 2 * 8 + x) = x := by
  show (if a 0 2 * 8 ≤ a 0 2 * 8 + x ∧ a 0 2 * 8 + x < a 0 2 * 8 + 8 then a 0 2 * 8 + x - a 0 2 * 8 else _) = x
  rw [if_pos (by omega)]
  omega
theorem nU_lt {f : Nat → Nat} {k v n : Nat} (h1 : ∀ m, f m < n) (h2 : v < n) (m : Nat) : nU f k v m < n := by
  by_cases q : m = k
  · rw [q, nU_s]; exact h2
  · rw [nU_n q]; exact h1 m
theorem Bd_way (hb : Bd a) (hW : a 0 2 < 20) (hi : i < 10) (hj : j < 10) (hg : g < 256) (ht : t < 256) (hh : h < 8) : Bd (aw a i j g t h) := by
  refine ⟨hb.1, hb.2.1, by rw [aw_02]; omega, fun k => ⟨hb.t k, hb.st k, hb.wr k, nU_lt hb.fr hi k, nU_lt hb.to hj k, ?_, nU_lt hb.gv hg k, nU_lt hb.tk ht k, nU_lt hb.gt hh k⟩⟩
  show (if a 0 2 * 8 ≤ k ∧ k < a 0 2 * 8 + 8 then k - a 0 2 * 8 else a 6 k) < 8
  by_cases c : a 0 2 * 8 ≤ k ∧ k < a 0 2 * 8 + 8
  · rw [if_pos c]; omega
  · rw [if_neg c]; exact hb.mp k
theorem SW_way (s : SW a st) (hW : a 0 2 < 20) (hi : i < a 0 1) (hj : j < a 0 1) (hg : g < 256) (ht : t < 256) (hh : h < a 0 0) : SW (aw a i j g t h) (sw st i j g t h) := by
  have hM := s.bd.1
  have hP := s.bd.2.1
  have e2 := s.e2
  refine ⟨Bd_way s.bd hW (by omega) (by omega) hg ht (by omega), BdS_way s.bs (by omega) (by omega) (by omega) hg ht (by omega), s.m0, ⟨by rw [sw_o (by decide) (by omega)]; exact s.e0, by rw [sw_o (by decide) (by omega)]; exact s.e1, by rw [sw_2, aw_02, e2]⟩, fun x hx y hy => ?_, fun w hw => ?_, fun w hw x hx => ?_, fun p hp => ?_⟩
  · have hx : x < a 0 0 := hx
    have hy : y < a 0 0 := hy
    rw [sw_o (by omega) (by omega)]
    exact s.tb x hx y hy
  · rw [aw_02] at hw
    by_cases c : w = a 0 2
    · subst c
      show _ = nU (a 4) (a 0 2) i (a 0 2) ∧ _ = nU (a 5) (a 0 2) j (a 0 2) ∧ _ = nU (a 7) (a 0 2) g (a 0 2) ∧ _ = nU (a 8) (a 0 2) t (a 0 2) ∧ _ = nU (a 9) (a 0 2) h (a 0 2) ∧ nU (a 4) (a 0 2) i (a 0 2) < a 0 1 ∧ nU (a 5) (a 0 2) j (a 0 2) < a 0 1 ∧ nU (a 9) (a 0 2) h (a 0 2) < a 0 0
      rw [nU_s, nU_s, nU_s, nU_s, nU_s, ← e2, sw_w0, sw_w1, sw_w2, sw_w3, sw_w4]
      exact ⟨rfl, rfl, rfl, rfl, rfl, hi, hj, hh⟩
    · rw [sw_o (by omega) (by omega), sw_o (by omega) (by omega), sw_o (by omega) (by omega), sw_o (by omega) (by omega), sw_o (by omega) (by omega)]
      show _ = nU (a 4) (a 0 2) i w ∧ _ = nU (a 5) (a 0 2) j w ∧ _ = nU (a 7) (a 0 2) g w ∧ _ = nU (a 8) (a 0 2) t w ∧ _ = nU (a 9) (a 0 2) h w ∧ nU (a 4) (a 0 2) i w < a 0 1 ∧ nU (a 5) (a 0 2) j w < a 0 1 ∧ nU (a 9) (a 0 2) h w < a 0 0
      rw [nU_n c, nU_n c, nU_n c, nU_n c, nU_n c]
      exact s.wy w (by omega)
  · rw [aw_02] at hw
    have hx : x < a 0 0 := hx
    show _ ∧ _ < a 0 0
    by_cases c : w = a 0 2
    · rw [c, aw_6n (by omega), ← e2, sw_w5 (by omega)]
      exact ⟨rfl, hx⟩
    · rw [aw_6o (by omega), sw_o (by omega) (by omega)]
      exact s.mp w (by omega) x hx
  · have hp : p < a 0 1 := hp
    rw [sw_o (by omega) (by omega), sw_o (by omega) (by omega), sw_o (by omega) (by omega), sw_o (by omega) (by omega)]
    exact s.pl p hp
def dr (a : NO) (x : Nat) (f : Nat → Nat) : Nat → Nat := fun k => if x ≤ k ∧ k < x + (a 0 2 - x - 1) then f (x + 1 + (k - x)) else f k
def dw (a : NO) (x : Nat) : NO := fun r => if r = 0 then nU (a 0) 2 (a 0 2 - 1) else if r = 4 ∨ r = 5 ∨ r = 7 ∨ r = 8 ∨ r = 9 then dr a x (a r) else if r = 6 then (fun k => if x * 8 ≤ k ∧ k < x * 8 + (a 0 2 - x - 1) * 8 then a 6 ((x + 1) * 8 + (k - x * 8)) else a 6 k) else a r
def ds (st : Nat → Nat) (x : Nat) : Nat → Nat := fun k => if k = 2 then st 2 - 1 else if 107 + 13 * x ≤ k ∧ k < 354 then st (k + 13) else st k
theorem ds_2 {x : Nat} : ds st x 2 = st 2 - 1 := if_pos rfl
theorem ds_o {x k : Nat} (h2 : k ≠ 2) (hk : k < 107 + 13 * x ∨ 354 ≤ k) : ds st x k = st k := by
  unfold ds
  rw [if_neg h2, if_neg (by omega)]
theorem ds_n {x k k' : Nat} (hk : 107 + 13 * x ≤ k) (h2 : k < 354) (e : k' = k + 13) : ds st x k = st k' := by
  unfold ds
  rw [if_neg (by omega), if_pos ⟨hk, h2⟩, e]
theorem dr_lt {x n : Nat} {f : Nat → Nat} (h : ∀ k, f k < n) (k : Nat) : dr a x f k < n := by
  unfold dr
  by_cases c : x ≤ k ∧ k < x + (a 0 2 - x - 1)
  · rw [if_pos c]; exact h _
  · rw [if_neg c]; exact h _
theorem dr_o {x k : Nat} {f : Nat → Nat} (hk : k < x) : dr a x f k = f k := if_neg (by omega)
theorem dr_n {x k : Nat} {f : Nat → Nat} (hk : x ≤ k) (h2 : k + 1 < a 0 2) : dr a x f k = f (k + 1) := by
  unfold dr
  rw [if_pos (by omega)]
  congr 1
  omega
theorem dw_r {x r : Nat} (h : r = 4 ∨ r = 5 ∨ r = 7 ∨ r = 8 ∨ r = 9) : dw a x r = dr a x (a r) := by
  unfold dw
  rw [if_neg (by omega), if_pos h]
theorem dw_02 {x : Nat} : dw a x 0 2 = a 0 2 - 1 := rfl
theorem dw_6o {x k : Nat} (hk : k < x * 8) : dw a x 6 k = a 6 k := if_neg (by omega)
theorem dw_6n {x w v : Nat} (hw : x ≤ w) (h2 : w + 1 < a 0 2) (hv : v < 8) : dw a x 6 (w * 8 + v) = a 6 ((w + 1) * 8 + v) := by
  show (if x * 8 ≤ w * 8 + v ∧ w * 8 + v < x * 8 + (a 0 2 - x - 1) * 8 then a 6 ((x + 1) * 8 + (w * 8 + v - x * 8)) else _) = _
  rw [if_pos (by omega)]
  congr 1
  omega
theorem bs_hi {k : Nat} (h : 107 ≤ k) : bs k = if (k - 107) % 13 < 2 then 10 else if (k - 107) % 13 < 4 then 256 else 8 := by
  unfold bs
  rw [if_neg (by omega), if_neg (by omega), if_neg (by omega), if_neg (by omega), if_neg (by omega), if_neg (by omega), if_neg (by omega)]
theorem SW_drop (s : SW a st) {x : Nat} (hx : x < a 0 2) : SW (dw a x) (ds st x) := by
  have hM := s.bd.1
  have hP := s.bd.2.1
  have hW := s.bd.2.2.1
  have e2 := s.e2
  refine ⟨⟨hM, hP, by rw [dw_02]; omega, fun k => ⟨s.bd.t k, s.bd.st k, s.bd.wr k, ?_, ?_, ?_, ?_, ?_, ?_⟩⟩, BdS_of (fun k hk => ?_), s.m0, ⟨by rw [ds_o (by decide) (by omega)]; exact s.e0, by rw [ds_o (by decide) (by omega)]; exact s.e1, by rw [ds_2, dw_02, e2]⟩, fun v hv y hy => ?_, fun w hw => ?_, fun w hw v hv => ?_, fun p hp => ?_⟩
  · rw [dw_r (by omega)]; exact dr_lt s.bd.fr k
  · rw [dw_r (by omega)]; exact dr_lt s.bd.to k
  · show (if x * 8 ≤ k ∧ k < x * 8 + (a 0 2 - x - 1) * 8 then a 6 ((x + 1) * 8 + (k - x * 8)) else a 6 k) < 8
    by_cases c : x * 8 ≤ k ∧ k < x * 8 + (a 0 2 - x - 1) * 8
    · rw [if_pos c]; exact s.bd.mp _
    · rw [if_neg c]; exact s.bd.mp _
  · rw [dw_r (by omega)]; exact dr_lt s.bd.gv k
  · rw [dw_r (by omega)]; exact dr_lt s.bd.tk k
  · rw [dw_r (by omega)]; exact dr_lt s.bd.gt k
  · by_cases q2 : k = 2
    · rw [q2, ds_2]; show _ < 21; omega
    by_cases c : k < 107 + 13 * x ∨ 354 ≤ k
    · rw [ds_o q2 c]; exact BdS_k s.bs hk
    · rw [ds_n (k' := k + 13) (by omega) (by omega) rfl]
      have := BdS_k s.bs (show k + 13 < 367 by omega)
      have e : bs (k + 13) = bs k := by rw [bs_hi (by omega), bs_hi (show 107 ≤ k by omega), show (k + 13 - 107) % 13 = (k - 107) % 13 by omega]
      rwa [e] at this
  · have hv : v < a 0 0 := hv
    have hy : y < a 0 0 := hy
    rw [ds_o (by omega) (by omega)]
    exact s.tb v hv y hy
  · rw [dw_02] at hw
    rw [dw_r (r := 4) (by omega), dw_r (r := 5) (by omega), dw_r (r := 7) (by omega), dw_r (r := 8) (by omega), dw_r (r := 9) (by omega)]
    show _ ∧ _ ∧ _ ∧ _ ∧ _ ∧ _ < a 0 1 ∧ _ < a 0 1 ∧ _ < a 0 0
    by_cases c : w < x
    · rw [dr_o c, dr_o c, dr_o c, dr_o c, dr_o c, ds_o (by omega) (by omega), ds_o (by omega) (by omega), ds_o (by omega) (by omega), ds_o (by omega) (by omega), ds_o (by omega) (by omega)]
      exact s.wy w (by omega)
    · rw [dr_n (by omega) (by omega), dr_n (by omega) (by omega), dr_n (by omega) (by omega), dr_n (by omega) (by omega), dr_n (by omega) (by omega), ds_n (k' := 107 + 13 * (w + 1)) (by omega) (by omega) (by omega), ds_n (k' := 108 + 13 * (w + 1)) (by omega) (by omega) (by omega), ds_n (k' := 109 + 13 * (w + 1)) (by omega) (by omega) (by omega), ds_n (k' := 110 + 13 * (w + 1)) (by omega) (by omega) (by omega), ds_n (k' := 111 + 13 * (w + 1)) (by omega) (by omega) (by omega)]
      exact s.wy (w + 1) (by omega)
  · rw [dw_02] at hw
    have hv : v < a 0 0 := hv
    show _ ∧ _ < a 0 0
    by_cases c : w < x
    · rw [dw_6o (by omega), ds_o (by omega) (by omega)]
      exact s.mp w (by omega) v hv
    · rw [dw_6n (by omega) (by omega) (by omega), ds_n (k' := 112 + 13 * (w + 1) + v) (by omega) (by omega) (by omega)]
      exact s.mp (w + 1) (by omega) v hv
  · have hp : p < a 0 1 := hp
    rw [ds_o (by omega) (by omega), ds_o (by omega) (by omega), ds_o (by omega) (by omega), ds_o (by omega) (by omega)]
    exact s.pl p hp
/-- two values by an order -/
def jo (o M x y : Nat) : Nat := if o = 2 then x ||| y else if o = 1 ∧ x ≠ 0 ∧ y ≠ 0 ∧ x ≠ y then M - 1 else if x < y then y else x
theorem jo_lt {o M x y : Nat} (h1 : 0 < M) (hM : M ≤ 8) (ho : o = 2 → M = 8) (hx : x < M) (hy : y < M) : jo o M x y < M := by
  unfold jo
  by_cases c : o = 2
  · rw [if_pos c, ho c]
    rw [ho c] at hx hy
    exact Nat.or_lt_two_pow (n := 3) hx hy
  · rw [if_neg c]
    by_cases d : o = 1 ∧ x ≠ 0 ∧ y ≠ 0 ∧ x ≠ y
    · rw [if_pos d]; omega
    · rw [if_neg d]
      by_cases e : x < y
      · rw [if_pos e]; exact hy
      · rw [if_neg e]; exact hx
theorem jo_8 {o M x y : Nat} (hM : M ≤ 8) (hx : x < 8) (hy : y < 8) : jo o M x y < 8 := by
  unfold jo
  by_cases c : o = 2
  · rw [if_pos c]
    exact Nat.or_lt_two_pow (n := 3) hx hy
  · rw [if_neg c]
    by_cases d : o = 1 ∧ x ≠ 0 ∧ y ≠ 0 ∧ x ≠ y
    · rw [if_pos d]; omega
    · rw [if_neg d]
      by_cases e : x < y
      · rw [if_pos e]; exact hy
      · rw [if_neg e]; exact hx
def nst (o M P : Nat) : Nat → Nat := fun k => if k = 0 then M else if k = 1 then P else if 3 ≤ k ∧ k < 67 then jo o M ((k - 3) / 8) ((k - 3) % 8) else 0
theorem SW_new {o M P : Nat} (hb : Bd a) (ho : o = 2 → M = 8) (h1 : 0 < M) (hM : M ≤ 8) (hP : P ≤ 10) (e0 : a 0 0 = M) (e1 : a 0 1 = P) (e2 : a 0 2 = 0) (et : ∀ x, x < M → ∀ y, y < M → a 1 (x * 8 + y) = jo o M x y) (ep : ∀ p, p < 10 → a 2 p = 0 ∧ a 3 p = 0) : SW a (nst o M P) := by
  refine ⟨hb, BdS_of (fun k hk => ?_), by omega, ⟨by rw [e0]; rfl, by rw [e1]; rfl, by rw [e2]; rfl⟩, fun x hx y hy => ?_, fun w hw => by omega, fun w hw => by omega, fun p hp => ?_⟩
  · unfold nst
    by_cases q0 : k = 0
    · rw [if_pos q0, q0]; show _ < 9; omega
    rw [if_neg q0]
    by_cases q1 : k = 1
    · rw [if_pos q1, q1]; show _ < 11; omega
    rw [if_neg q1]
    by_cases c : 3 ≤ k ∧ k < 67
    · rw [if_pos c, show k = 3 + (k - 3) by omega, bs_t (by omega)]
      exact jo_8 hM (by omega) (by omega)
    · rw [if_neg c]
      unfold bs
      by_cases d1 : k = 2
      · rw [if_neg q0, if_neg q1, if_pos d1]; decide
      rw [if_neg q0, if_neg q1, if_neg d1]
      repeat' split
      all_goals decide
  · rw [e0] at hx hy ⊢
    rw [et x hx y hy]
    unfold nst
    rw [if_neg (by omega), if_neg (by omega), if_pos (by omega), show (3 + 8 * x + y - 3) / 8 = x by omega, show (3 + 8 * x + y - 3) % 8 = y by omega]
    exact ⟨rfl, jo_lt h1 hM ho hx hy⟩
  · rw [e1] at hp
    rw [e0, (ep p (by omega)).1, (ep p (by omega)).2]
    unfold nst
    rw [if_neg (by omega), if_neg (by omega), if_neg (by omega), if_neg (by omega), if_neg (by omega), if_neg (by omega), if_neg (by omega), if_neg (by omega), if_neg (by omega), if_neg (by omega), if_neg (by omega), if_neg (by omega)]
    exact ⟨rfl, rfl, h1, h1⟩
end WAY
