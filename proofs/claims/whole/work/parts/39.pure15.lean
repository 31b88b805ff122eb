/-! bounds by places -/
def bnd (i : Nat) : Nat := if i = 1 then 8 else if i = 2 then 2048 else if i = 3 then 2048 else if i = 4 then 10 else if i = 5 then 10 else if i = 6 then 8 else if i = 7 then 256 else if i = 8 then 256 else 8
theorem Bd_i {a : NO} (h : Bd a) {i : Nat} (h0 : i ≠ 0) (h9 : i < 10) (k : Nat) : a i k < bnd i := by
  have e : i = 1 ∨ i = 2 ∨ i = 3 ∨ i = 4 ∨ i = 5 ∨ i = 6 ∨ i = 7 ∨ i = 8 ∨ i = 9 := by omega
  rcases e with rfl | rfl | rfl | rfl | rfl | rfl | rfl | rfl | rfl
  · exact h.t k
  · exact h.st k
  · exact h.wr k
  · exact h.fr k
  · exact h.to k
  · exact h.mp k
  · exact h.gv k
  · exact h.tk k
  · exact h.gt k
theorem Bd_of {a : NO} (h0 : a 0 0 ≤ 8) (h1 : a 0 1 ≤ 10) (h2 : a 0 2 ≤ 20) (h : ∀ i, i ≠ 0 → i < 10 → ∀ k, a i k < bnd i) : Bd a :=
  ⟨h0, h1, h2, fun k => ⟨h 1 (by decide) (by decide) k, h 2 (by decide) (by decide) k, h 3 (by decide) (by decide) k, h 4 (by decide) (by decide) k, h 5 (by decide) (by decide) k, h 6 (by decide) (by decide) k, h 7 (by decide) (by decide) k, h 8 (by decide) (by decide) k, h 9 (by decide) (by decide) k⟩⟩
theorem Bd_put {a : NO} {i k v : Nat} (h : Bd a) (hi : i ≠ 0) (hv : v < bnd i) : Bd (rN a i (nU (a i) k v)) := by
  refine Bd_of (by rw [rN_n (Ne.symm hi)]; exact h.1) (by rw [rN_n (Ne.symm hi)]; exact h.2.1) (by rw [rN_n (Ne.symm hi)]; exact h.2.2.1) (fun j j0 j9 m => ?_)
  by_cases e : j = i
  · subst e
    rw [rN_s]
    by_cases q : m = k
    · rw [q, nU_s]; exact hv
    · rw [nU_n q]; exact Bd_i h j0 j9 m
  · rw [rN_n e]; exact Bd_i h j0 j9 m
def bs (k : Nat) : Nat := if k = 0 then 9 else if k = 1 then 11 else if k = 2 then 21 else if k < 77 then 8 else if k < 87 then 256 else if k < 97 then 8 else if k < 107 then 256 else if (k - 107) % 13 < 2 then 10 else if (k - 107) % 13 < 4 then 256 else 8
theorem bs_w0 {w : Nat} : bs (107 + 13 * w) = 10 := by
  unfold bs
  rw [if_neg (by omega), if_neg (by omega), if_neg (by omega), if_neg (by omega), if_neg (by omega), if_neg (by omega), if_neg (by omega), if_pos (by omega)]
theorem bs_w1 {w : Nat} : bs (108 + 13 * w) = 10 := by
  unfold bs
  rw [if_neg (by omega), if_neg (by omega), if_neg (by omega), if_neg (by omega), if_neg (by omega), if_neg (by omega), if_neg (by omega), if_pos (by omega)]
theorem bs_w2 {w : Nat} : bs (109 + 13 * w) = 256 := by
  unfold bs
  rw [if_neg (by omega), if_neg (by omega), if_neg (by omega), if_neg (by omega), if_neg (by omega), if_neg (by omega), if_neg (by omega), if_neg (by omega), if_pos (by omega)]
theorem bs_w3 {w : Nat} : bs (110 + 13 * w) = 256 := by
  unfold bs
  rw [if_neg (by omega), if_neg (by omega), if_neg (by omega), if_neg (by omega), if_neg (by omega), if_neg (by omega), if_neg (by omega), if_neg (by omega), if_pos (by omega)]
theorem bs_w4 {w : Nat} : bs (111 + 13 * w) = 8 := by
  unfold bs
  rw [if_neg (by omega), if_neg (by omega), if_neg (by omega), if_neg (by omega), if_neg (by omega), if_neg (by omega), if_neg (by omega), if_neg (by omega), if_neg (by omega)]
theorem bs_w5 {w x : Nat} (hx : x < 8) : bs (112 + 13 * w + x) = 8 := by
  unfold bs
  rw [if_neg (by omega), if_neg (by omega), if_neg (by omega), if_neg (by omega), if_neg (by omega), if_neg (by omega), if_neg (by omega), if_neg (by omega), if_neg (by omega)]
theorem bs_t {k : Nat} (hk : k < 64) : bs (3 + k) = 8 := by
  unfold bs
  rw [if_neg (by omega), if_neg (by omega), if_neg (by omega), if_pos (by omega)]
theorem bs_p0 {p : Nat} (hk : p < 10) : bs (67 + p) = 8 := by
  unfold bs
  rw [if_neg (by omega), if_neg (by omega), if_neg (by omega), if_pos (by omega)]
theorem bs_p1 {p : Nat} (hk : p < 10) : bs (77 + p) = 256 := by
  unfold bs
  rw [if_neg (by omega), if_neg (by omega), if_neg (by omega), if_neg (by omega), if_pos (by omega)]
theorem bs_p2 {p : Nat} (hk : p < 10) : bs (87 + p) = 8 := by
  unfold bs
  rw [if_neg (by omega), if_neg (by omega), if_neg (by omega), if_neg (by omega), if_neg (by omega), if_pos (by omega)]
theorem bs_p3 {p : Nat} (hk : p < 10) : bs (97 + p) = 256 := by
  unfold bs
  rw [if_neg (by omega), if_neg (by omega), if_neg (by omega), if_neg (by omega), if_neg (by omega), if_neg (by omega), if_pos (by omega)]
theorem BdS_of {st : Nat → Nat} (h : ∀ k, k < 367 → st k < bs k) : BdS st := by
  refine ⟨?_, ?_, ?_, fun k hk => ?_, fun p hp => ⟨?_, ?_, ?_, ?_⟩, fun w hw => ⟨?_, ?_, ?_, ?_, ?_, fun x hx => ?_⟩⟩
  · have := h 0 (by decide); exact Nat.le_of_lt_succ this
  · have := h 1 (by decide); exact Nat.le_of_lt_succ this
  · have := h 2 (by decide); exact Nat.le_of_lt_succ this
  · have := h (3 + k) (by omega); rwa [bs_t hk] at this
  · have := h (67 + p) (by omega); rwa [bs_p0 hp] at this
  · have := h (77 + p) (by omega); rwa [bs_p1 hp] at this
  · have := h (87 + p) (by omega); rwa [bs_p2 hp] at this
  · have := h (97 + p) (by omega); rwa [bs_p3 hp] at this
  · have := h (107 + 13 * w) (by omega); rwa [bs_w0] at this
  · have := h (108 + 13 * w) (by omega); rwa [bs_w1] at this
  · have := h (109 + 13 * w) (by omega); rwa [bs_w2] at this
  · have := h (110 + 13 * w) (by omega); rwa [bs_w3] at this
  · have := h (111 + 13 * w) (by omega); rwa [bs_w4] at this
  · have := h (112 + 13 * w + x) (by omega); rwa [bs_w5 hx] at this
theorem BdS_k {st : Nat → Nat} (h : BdS st) {k : Nat} (hk : k < 367) : st k < bs k := by
  obtain ⟨h0, h1, h2, h3, h4, h5⟩ := h
  by_cases q0 : k = 0
  · subst q0; exact Nat.lt_succ_of_le h0
  by_cases q1 : k = 1
  · subst q1; exact Nat.lt_succ_of_le h1
  by_cases q2 : k = 2
  · subst q2; exact Nat.lt_succ_of_le h2
  by_cases c : k < 67
  · obtain ⟨j, rfl⟩ : ∃ j, k = 3 + j := ⟨k - 3, by omega⟩
    rw [bs_t (by omega)]; exact h3 j (by omega)
  by_cases c : k < 77
  · obtain ⟨j, rfl⟩ : ∃ j, k = 67 + j := ⟨k - 67, by omega⟩
    rw [bs_p0 (by omega)]; exact (h4 j (by omega)).1
  by_cases c : k < 87
  · obtain ⟨j, rfl⟩ : ∃ j, k = 77 + j := ⟨k - 77, by omega⟩
    rw [bs_p1 (by omega)]; exact (h4 j (by omega)).2.1
  by_cases c : k < 97
  · obtain ⟨j, rfl⟩ : ∃ j, k = 87 + j := ⟨k - 87, by omega⟩
    rw [bs_p2 (by omega)]; exact (h4 j (by omega)).2.2.1
  by_cases c : k < 107
  · obtain ⟨j, rfl⟩ : ∃ j, k = 97 + j := ⟨k - 97, by omega⟩
    rw [bs_p3 (by omega)]; exact (h4 j (by omega)).2.2.2
  obtain ⟨w, j, hj, rfl⟩ : ∃ w j, j < 13 ∧ k = 107 + 13 * w + j := ⟨(k - 107) / 13, (k - 107) % 13, by omega, by omega⟩
  have q := h5 w (by omega)
  by_cases c0 : j = 0
  · subst c0; rw [show 107 + 13 * w + 0 = 107 + 13 * w by omega, bs_w0]; exact q.1
  by_cases c1 : j = 1
  · subst c1; rw [show 107 + 13 * w + 1 = 108 + 13 * w by omega, bs_w1]; exact q.2.1
  by_cases c2 : j = 2
  · subst c2; rw [show 107 + 13 * w + 2 = 109 + 13 * w by omega, bs_w2]; exact q.2.2.1
  by_cases c3 : j = 3
  · subst c3; rw [show 107 + 13 * w + 3 = 110 + 13 * w by omega, bs_w3]; exact q.2.2.2.1
  by_cases c4 : j = 4
  · subst c4; rw [show 107 + 13 * w + 4 = 111 + 13 * w by omega, bs_w4]; exact q.2.2.2.2.1
  obtain ⟨x, rfl⟩ : ∃ x, j = 5 + x := ⟨j - 5, by omega⟩
  rw [show 107 + 13 * w + (5 + x) = 112 + 13 * w + x by omega, bs_w5 (by omega)]
  exact q.2.2.2.2.2 x (by omega)
theorem BdS_put {st : Nat → Nat} {k v : Nat} (h : BdS st) (hv : v < bs k) : BdS (nU st k v) := by
  refine BdS_of (fun j hj => ?_)
  by_cases q : j = k
  · rw [q, nU_s]; exact hv
  · rw [nU_n q]; exact BdS_k h hj
section PUT
variable {a : NO} {st : Nat → Nat}
theorem SW_cell (h : SW a st) {x y v : Nat} (hx : x < a 0 0) (hy : y < a 0 0) (hv : v < a 0 0) : SW (rN a 1 (nU (a 1) (x * 8 + y) v)) (nU st (3 + 8 * x + y) v) := by
  have hM := h.bd.1
  have hP := h.bd.2.1
  have hW := h.bd.2.2.1
  refine ⟨Bd_put h.bd (by decide) (show v < 8 by omega), BdS_put h.bs (by rw [show 3 + 8 * x + y = 3 + (8 * x + y) by omega, bs_t (by omega)]; omega), h.m0, ⟨by rw [nU_n (by omega)]; exact h.e0, by rw [nU_n (by omega)]; exact h.e1, by rw [nU_n (by omega)]; exact h.e2⟩, fun x' hx' y' hy' => ?_, fun w hw => ?_, fun w hw x' hx' => ?_, fun p hp => ?_⟩
  · have hx' : x' < a 0 0 := hx'
    have hy' : y' < a 0 0 := hy'
    rw [rN_s]
    show _ ∧ _ < a 0 0
    by_cases q : x' = x ∧ y' = y
    · rw [q.1, q.2, nU_s, nU_s]; exact ⟨rfl, hv⟩
    · rw [nU_n (by omega), nU_n (by omega)]; exact h.tb x' hx' y' hy'
  · have hw : w < a 0 2 := hw
    rw [nU_n (by omega), nU_n (by omega), nU_n (by omega), nU_n (by omega), nU_n (by omega)]; exact h.wy w hw
  · have hw : w < a 0 2 := hw
    rw [nU_n (by omega)]; exact h.mp w hw x' hx'
  · have hp : p < a 0 1 := hp
    rw [nU_n (by omega), nU_n (by omega), nU_n (by omega), nU_n (by omega)]; exact h.pl p hp
theorem SW_start (h : SW a st) {p v s : Nat} (hp : p < a 0 1) (hv : v < a 0 0) (hs : s < 256) : SW (rN a 2 (nU (a 2) p (v * 256 + s))) (nU (nU st (67 + p) v) (77 + p) s) := by
  have hM := h.bd.1
  have hP := h.bd.2.1
  have hW := h.bd.2.2.1
  refine ⟨Bd_put h.bd (by decide) (show v * 256 + s < 2048 by omega), BdS_put (BdS_put h.bs (by rw [bs_p0 (by omega)]; omega)) (by rw [bs_p1 (by omega)]; omega), h.m0, ⟨by rw [nU_n (by omega), nU_n (by omega)]; exact h.e0, by rw [nU_n (by omega), nU_n (by omega)]; exact h.e1, by rw [nU_n (by omega), nU_n (by omega)]; exact h.e2⟩, fun x' hx' y' hy' => ?_, fun w hw => ?_, fun w hw x' hx' => ?_, fun q hq => ?_⟩
  · have hx' : x' < a 0 0 := hx'
    have hy' : y' < a 0 0 := hy'
    rw [nU_n (by omega), nU_n (by omega)]; exact h.tb x' hx' y' hy'
  · have hw : w < a 0 2 := hw
    rw [nU_n (by omega), nU_n (by omega), nU_n (by omega), nU_n (by omega), nU_n (by omega), nU_n (by omega), nU_n (by omega), nU_n (by omega), nU_n (by omega), nU_n (by omega)]; exact h.wy w hw
  · have hw : w < a 0 2 := hw
    rw [nU_n (by omega), nU_n (by omega)]; exact h.mp w hw x' hx'
  · have hq : q < a 0 1 := hq
    rw [rN_s, rN_n (by decide), nU_n (show 87 + q ≠ 77 + p by omega), nU_n (show 87 + q ≠ 67 + p by omega), nU_n (show 97 + q ≠ 77 + p by omega), nU_n (show 97 + q ≠ 67 + p by omega), nU_n (show 67 + q ≠ 77 + p by omega)]
    have r := h.pl q hq
    by_cases e : q = p
    · rw [e, nU_s, nU_s, nU_s]
      rw [e] at r
      exact ⟨rfl, r.2.1, hv, r.2.2.2⟩
    · rw [nU_n (show 67 + q ≠ 67 + p by omega), nU_n (show 77 + q ≠ 77 + p by omega), nU_n (show 77 + q ≠ 67 + p by omega), nU_n e]; exact r
theorem SW_write (h : SW a st) {p v s : Nat} (hp : p < a 0 1) (hv : v < a 0 0) (hs : s < 256) : SW (rN a 3 (nU (a 3) p (v * 256 + s))) (nU (nU st (87 + p) v) (97 + p) s) := by
  have hM := h.bd.1
  have hP := h.bd.2.1
  have hW := h.bd.2.2.1
  refine ⟨Bd_put h.bd (by decide) (show v * 256 + s < 2048 by omega), BdS_put (BdS_put h.bs (by rw [bs_p2 (by omega)]; omega)) (by rw [bs_p3 (by omega)]; omega), h.m0, ⟨by rw [nU_n (by omega), nU_n (by omega)]; exact h.e0, by rw [nU_n (by omega), nU_n (by omega)]; exact h.e1, by rw [nU_n (by omega), nU_n (by omega)]; exact h.e2⟩, fun x' hx' y' hy' => ?_, fun w hw => ?_, fun w hw x' hx' => ?_, fun q hq => ?_⟩
  · have hx' : x' < a 0 0 := hx'
    have hy' : y' < a 0 0 := hy'
    rw [nU_n (by omega), nU_n (by omega)]; exact h.tb x' hx' y' hy'
  · have hw : w < a 0 2 := hw
    rw [nU_n (by omega), nU_n (by omega), nU_n (by omega), nU_n (by omega), nU_n (by omega), nU_n (by omega), nU_n (by omega), nU_n (by omega), nU_n (by omega), nU_n (by omega)]; exact h.wy w hw
  · have hw : w < a 0 2 := hw
    rw [nU_n (by omega), nU_n (by omega)]; exact h.mp w hw x' hx'
  · have hq : q < a 0 1 := hq
    rw [rN_s, rN_n (by decide), nU_n (show 67 + q ≠ 97 + p by omega), nU_n (show 67 + q ≠ 87 + p by omega), nU_n (show 77 + q ≠ 97 + p by omega), nU_n (show 77 + q ≠ 87 + p by omega), nU_n (show 87 + q ≠ 97 + p by omega)]
    have r := h.pl q hq
    by_cases e : q = p
    · rw [e, nU_s, nU_s, nU_s]
      rw [e] at r
      exact ⟨r.1, rfl, r.2.2.1, hv⟩
    · rw [nU_n (show 87 + q ≠ 87 + p by omega), nU_n (show 97 + q ≠ 97 + p by omega), nU_n (show 97 + q ≠ 87 + p by omega), nU_n e]; exact r
theorem SW_map (h : SW a st) {w x v : Nat} (hw : w < a 0 2) (hx : x < a 0 0) (hv : v < a 0 0) : SW (rN a 6 (nU (a 6) (w * 8 + x) v)) (nU st (112 + 13 * w + x) v) := by
  have hM := h.bd.1
  have hP := h.bd.2.1
  have hW := h.bd.2.2.1
  refine ⟨Bd_put h.bd (by decide) (show v < 8 by omega), BdS_put h.bs (by rw [bs_w5 (by omega)]; omega), h.m0, ⟨by rw [nU_n (by omega)]; exact h.e0, by rw [nU_n (by omega)]; exact h.e1, by rw [nU_n (by omega)]; exact h.e2⟩, fun x' hx' y' hy' => ?_, fun w' hw' => ?_, fun w' hw' x' hx' => ?_, fun p hp => ?_⟩
  · have hx' : x' < a 0 0 := hx'
    have hy' : y' < a 0 0 := hy'
    rw [nU_n (by omega)]; exact h.tb x' hx' y' hy'
  · have hw' : w' < a 0 2 := hw'
    rw [nU_n (by omega), nU_n (by omega), nU_n (by omega), nU_n (by omega), nU_n (by omega)]; exact h.wy w' hw'
  · have hw' : w' < a 0 2 := hw'
    have hx' : x' < a 0 0 := hx'
    rw [rN_s]
    show _ ∧ _ < a 0 0
    by_cases q : w' = w ∧ x' = x
    · rw [q.1, q.2, nU_s, nU_s]; exact ⟨rfl, hv⟩
    · rw [nU_n (by omega), nU_n (by omega)]; exact h.mp w' hw' x' hx'
  · have hp : p < a 0 1 := hp
    rw [nU_n (by omega), nU_n (by omega), nU_n (by omega), nU_n (by omega)]; exact h.pl p hp
theorem SW_gate (h : SW a st) {w v : Nat} (hw : w < a 0 2) (hv : v < a 0 0) : SW (rN a 9 (nU (a 9) w v)) (nU st (111 + 13 * w) v) := by
  have hM := h.bd.1
  have hP := h.bd.2.1
  have hW := h.bd.2.2.1
  refine ⟨Bd_put h.bd (by decide) (show v < 8 by omega), BdS_put h.bs (by rw [bs_w4]; omega), h.m0, ⟨by rw [nU_n (by omega)]; exact h.e0, by rw [nU_n (by omega)]; exact h.e1, by rw [nU_n (by omega)]; exact h.e2⟩, fun x' hx' y' hy' => ?_, fun w' hw' => ?_, fun w' hw' x' hx' => ?_, fun p hp => ?_⟩
  · have hx' : x' < a 0 0 := hx'
    have hy' : y' < a 0 0 := hy'
    rw [nU_n (by omega)]; exact h.tb x' hx' y' hy'
  · have hw' : w' < a 0 2 := hw'
    have r := h.wy w' hw'
    rw [rN_s, nU_n (show 107 + 13 * w' ≠ 111 + 13 * w by omega), nU_n (show 108 + 13 * w' ≠ 111 + 13 * w by omega), nU_n (show 109 + 13 * w' ≠ 111 + 13 * w by omega), nU_n (show 110 + 13 * w' ≠ 111 + 13 * w by omega)]
    by_cases q : w' = w
    · rw [q, nU_s, nU_s]
      rw [q] at r
      exact ⟨r.1, r.2.1, r.2.2.1, r.2.2.2.1, rfl, r.2.2.2.2.2.1, r.2.2.2.2.2.2.1, hv⟩
    · rw [nU_n (by omega), nU_n q]; exact r
  · have hw' : w' < a 0 2 := hw'
    have hx' : x' < a 0 0 := hx'
    rw [nU_n (by omega)]; exact h.mp w' hw' x' hx'
  · have hp : p < a 0 1 := hp
    rw [nU_n (by omega), nU_n (by omega), nU_n (by omega), nU_n (by omega)]; exact h.pl p hp
theorem SW_marks (h : SW a st) {w g t : Nat} (hw : w < a 0 2) (hg : g < 256) (ht : t < 256) : SW (rN (rN a 7 (nU (a 7) w g)) 8 (nU (a 8) w t)) (nU (nU st (109 + 13 * w) g) (110 + 13 * w) t) := by
  have hM := h.bd.1
  have hP := h.bd.2.1
  have hW := h.bd.2.2.1
  refine ⟨Bd_put (a := rN a 7 (nU (a 7) w g)) (Bd_put h.bd (by decide) (show g < 256 from hg)) (by decide) (show t < 256 from ht), BdS_put (BdS_put h.bs (by rw [bs_w2]; omega)) (by rw [bs_w3]; omega), h.m0, ⟨by rw [nU_n (by omega), nU_n (by omega)]; exact h.e0, by rw [nU_n (by omega), nU_n (by omega)]; exact h.e1, by rw [nU_n (by omega), nU_n (by omega)]; exact h.e2⟩, fun x' hx' y' hy' => ?_, fun w' hw' => ?_, fun w' hw' x' hx' => ?_, fun p hp => ?_⟩
  · have hx' : x' < a 0 0 := hx'
    have hy' : y' < a 0 0 := hy'
    rw [nU_n (by omega), nU_n (by omega)]; exact h.tb x' hx' y' hy'
  · have hw' : w' < a 0 2 := hw'
    have r := h.wy w' hw'
    rw [nU_n (show 107 + 13 * w' ≠ 110 + 13 * w by omega), nU_n (show 107 + 13 * w' ≠ 109 + 13 * w by omega), nU_n (show 108 + 13 * w' ≠ 110 + 13 * w by omega), nU_n (show 108 + 13 * w' ≠ 109 + 13 * w by omega), nU_n (show 109 + 13 * w' ≠ 110 + 13 * w by omega), nU_n (show 111 + 13 * w' ≠ 110 + 13 * w by omega), nU_n (show 111 + 13 * w' ≠ 109 + 13 * w by omega)]
    show st (107 + 13 * w') = a 4 w' ∧ st (108 + 13 * w') = a 5 w' ∧ _ = nU (a 7) w g w' ∧ _ = nU (a 8) w t w' ∧ st (111 + 13 * w') = a 9 w' ∧ a 4 w' < a 0 1 ∧ a 5 w' < a 0 1 ∧ a 9 w' < a 0 0
    by_cases q : w' = w
    · rw [q, nU_s, nU_s, nU_s, nU_s]
      rw [q] at r
      exact ⟨r.1, r.2.1, rfl, rfl, r.2.2.2.2⟩
    · rw [nU_n (show 109 + 13 * w' ≠ 109 + 13 * w by omega), nU_n (show 110 + 13 * w' ≠ 110 + 13 * w by omega), nU_n (show 110 + 13 * w' ≠ 109 + 13 * w by omega), nU_n q, nU_n q]; exact r
  · have hw' : w' < a 0 2 := hw'
    have hx' : x' < a 0 0 := hx'
    rw [nU_n (by omega), nU_n (by omega)]; exact h.mp w' hw' x' hx'
  · have hp : p < a 0 1 := hp
    rw [nU_n (by omega), nU_n (by omega), nU_n (by omega), nU_n (by omega), nU_n (by omega), nU_n (by omega), nU_n (by omega), nU_n (by omega)]; exact h.pl p hp
end PUT
