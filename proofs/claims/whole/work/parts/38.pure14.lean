/-! a web of the one side and a row of the other side that are alike -/
def SWt (a : NO) (st : Nat → Nat) : Prop := ∀ x, x < a 0 0 → ∀ y, y < a 0 0 → st (3 + 8 * x + y) = a 1 (x * 8 + y) ∧ a 1 (x * 8 + y) < a 0 0
def SWw (a : NO) (st : Nat → Nat) : Prop := ∀ w, w < a 0 2 → st (107 + 13 * w) = a 4 w ∧ st (108 + 13 * w) = a 5 w ∧ st (109 + 13 * w) = a 7 w ∧ st (110 + 13 * w) = a 8 w ∧ st (111 + 13 * w) = a 9 w ∧ a 4 w < a 0 1 ∧ a 5 w < a 0 1 ∧ a 9 w < a 0 0
def SWm (a : NO) (st : Nat → Nat) : Prop := ∀ w, w < a 0 2 → ∀ x, x < a 0 0 → st (112 + 13 * w + x) = a 6 (w * 8 + x) ∧ a 6 (w * 8 + x) < a 0 0
def SWp (a : NO) (st : Nat → Nat) : Prop := ∀ p, p < a 0 1 → st (67 + p) * 256 + st (77 + p) = a 2 p ∧ st (87 + p) * 256 + st (97 + p) = a 3 p ∧ st (67 + p) < a 0 0 ∧ st (87 + p) < a 0 0
def SW (a : NO) (st : Nat → Nat) : Prop := Bd a ∧ BdS st ∧ 0 < a 0 0 ∧ (st 0 = a 0 0 ∧ st 1 = a 0 1 ∧ st 2 = a 0 2) ∧ SWt a st ∧ SWw a st ∧ SWm a st ∧ SWp a st
section SWs
variable {a : NO} {st : Nat → Nat}
theorem SW.bd (h : SW a st) : Bd a := h.1
theorem SW.bs (h : SW a st) : BdS st := h.2.1
theorem SW.m0 (h : SW a st) : 0 < a 0 0 := h.2.2.1
theorem SW.e0 (h : SW a st) : st 0 = a 0 0 := h.2.2.2.1.1
theorem SW.e1 (h : SW a st) : st 1 = a 0 1 := h.2.2.2.1.2.1
theorem SW.e2 (h : SW a st) : st 2 = a 0 2 := h.2.2.2.1.2.2
theorem SW.tb (h : SW a st) : SWt a st := h.2.2.2.2.1
theorem SW.wy (h : SW a st) : SWw a st := h.2.2.2.2.2.1
theorem SW.mp (h : SW a st) : SWm a st := h.2.2.2.2.2.2.1
theorem SW.pl (h : SW a st) : SWp a st := h.2.2.2.2.2.2.2
theorem SW.gd (h : SW a st) : Gd a := by
  refine ⟨h.bd, h.m0, fun x hx y hy => (h.tb x hx y hy).2, fun w hw => ?_, fun p hp => ?_⟩
  · have q := h.wy w hw
    exact ⟨q.2.2.2.2.2.1, q.2.2.2.2.2.2.1, q.2.2.2.2.2.2.2, fun x hx => (h.mp w hw x hx).2⟩
  · have q := h.pl p hp
    have hP := h.bd.2.1
    have r := h.bs.2.2.2.2.1 p (by omega)
    omega
theorem SW.eqv (h : SW a st) : Eqv a (wb st) := by
  have hM := h.bd.1
  have hP := h.bd.2.1
  have hW := h.bd.2.2.1
  refine ⟨h.e0.symm, h.e1.symm, h.e2.symm, fun x hx y hy => ?_, fun w hw => ?_, fun p hp => ?_⟩
  · rw [wb_jn (by omega) (by omega)]
    exact (h.tb x hx y hy).1.symm
  · have q := h.wy w hw
    refine ⟨?_, ?_, ?_, ?_, ?_, fun x hx => ?_⟩
    · show _ = if w < 20 then st (107 + 13 * w) else 0
      rw [if_pos (by omega), q.1]
    · show _ = if w < 20 then st (108 + 13 * w) else 0
      rw [if_pos (by omega), q.2.1]
    · show _ = if w < 20 then st (109 + 13 * w) else 0
      rw [if_pos (by omega), q.2.2.1]
    · show _ = if w < 20 then st (110 + 13 * w) else 0
      rw [if_pos (by omega), q.2.2.2.1]
    · show _ = if w < 20 then st (111 + 13 * w) else 0
      rw [if_pos (by omega), q.2.2.2.2.1]
    · rw [wb_mp (by omega) (by omega)]
      exact (h.mp w hw x hx).1.symm
  · have q := h.pl p hp
    constructor
    · show _ = if p < 10 then st (67 + p) * 256 + st (77 + p) else 0
      rw [if_pos (by omega), q.1]
    · show _ = if p < 10 then st (87 + p) * 256 + st (97 + p) else 0
      rw [if_pos (by omega), q.2.1]
theorem BdS_c {st' : Nat → Nat} (h : BdS st) (e : ∀ k, k < 367 → st' k = st k) : BdS st' := by
  obtain ⟨h0, h1, h2, h3, h4, h5⟩ := h
  refine ⟨by rw [e 0 (by decide)]; exact h0, by rw [e 1 (by decide)]; exact h1, by rw [e 2 (by decide)]; exact h2, fun k hk => by rw [e _ (by omega)]; exact h3 k hk, fun p hp => ?_, fun w hw => ?_⟩
  · rw [e _ (by omega), e _ (by omega), e _ (by omega), e _ (by omega)]
    exact h4 p hp
  · rw [e _ (by omega), e _ (by omega), e _ (by omega), e _ (by omega), e _ (by omega)]
    have q := h5 w hw
    exact ⟨q.1, q.2.1, q.2.2.1, q.2.2.2.1, q.2.2.2.2.1, fun x hx => by rw [e _ (by omega)]; exact q.2.2.2.2.2 x hx⟩
theorem SW_c {st' : Nat → Nat} (h : SW a st) (e : ∀ k, k < 367 → st' k = st k) : SW a st' := by
  have hM := h.bd.1
  have hP := h.bd.2.1
  have hW := h.bd.2.2.1
  refine ⟨h.bd, BdS_c h.bs e, h.m0, ⟨by rw [e 0 (by decide)]; exact h.e0, by rw [e 1 (by decide)]; exact h.e1, by rw [e 2 (by decide)]; exact h.e2⟩, fun x hx y hy => ?_, fun w hw => ?_, fun w hw x hx => ?_, fun p hp => ?_⟩
  · rw [e _ (by omega)]; exact h.tb x hx y hy
  · rw [e _ (by omega), e _ (by omega), e _ (by omega), e _ (by omega), e _ (by omega)]; exact h.wy w hw
  · rw [e _ (by omega)]; exact h.mp w hw x hx
  · rw [e _ (by omega), e _ (by omega), e _ (by omega), e _ (by omega)]; exact h.pl p hp
/-- how long the rows of a web are -/
def bcl (i : Nat) : Nat := if i = 1 then 64 else if i = 2 ∨ i = 3 then 10 else if i = 6 then 160 else 20
/-- d becomes s -/
def bc (d s : NO) : NO := fun i k => if i = 0 then (if k < 3 then s 0 k else d 0 k) else if i < 10 ∧ k < bcl i then s i k else d i k
theorem bc_0 {d s : NO} {k : Nat} (h : k < 3) : bc d s 0 k = s 0 k := by
  unfold bc
  rw [if_pos rfl, if_pos h]
theorem bc_i {d s : NO} {i k : Nat} (h0 : i ≠ 0) (h : i < 10) (hk : k < bcl i) : bc d s i k = s i k := by
  unfold bc
  rw [if_neg h0, if_pos ⟨h, hk⟩]
theorem bc_lt {d s : NO} {n i : Nat} (hi : i ≠ 0) (h1 : ∀ k, d i k < n) (h2 : ∀ k, s i k < n) (k : Nat) : bc d s i k < n := by
  unfold bc
  rw [if_neg hi]
  by_cases c : i < 10 ∧ k < bcl i
  · rw [if_pos c]; exact h2 k
  · rw [if_neg c]; exact h1 k
theorem Bd_bc {d s : NO} (hd : Bd d) (hs : Bd s) : Bd (bc d s) := by
  refine ⟨by rw [bc_0 (by decide)]; exact hs.1, by rw [bc_0 (by decide)]; exact hs.2.1, by rw [bc_0 (by decide)]; exact hs.2.2.1, fun k => ⟨?_, ?_, ?_, ?_, ?_, ?_, ?_, ?_, ?_⟩⟩
  · exact bc_lt (by decide) hd.t hs.t k
  · exact bc_lt (by decide) hd.st hs.st k
  · exact bc_lt (by decide) hd.wr hs.wr k
  · exact bc_lt (by decide) hd.fr hs.fr k
  · exact bc_lt (by decide) hd.to hs.to k
  · exact bc_lt (by decide) hd.mp hs.mp k
  · exact bc_lt (by decide) hd.gv hs.gv k
  · exact bc_lt (by decide) hd.tk hs.tk k
  · exact bc_lt (by decide) hd.gt hs.gt k
theorem SW_bc {d : NO} (hd : Bd d) (h : SW a st) : SW (bc d a) st := by
  have hM := h.bd.1
  have hP := h.bd.2.1
  have hW := h.bd.2.2.1
  have e0 : bc d a 0 0 = a 0 0 := bc_0 (by decide)
  have e1 : bc d a 0 1 = a 0 1 := bc_0 (by decide)
  have e2 : bc d a 0 2 = a 0 2 := bc_0 (by decide)
  refine ⟨Bd_bc hd h.bd, h.bs, by rw [e0]; exact h.m0, ⟨by rw [e0]; exact h.e0, by rw [e1]; exact h.e1, by rw [e2]; exact h.e2⟩, ?_, ?_, ?_, ?_⟩
  · unfold SWt
    rw [e0]
    intro x hx y hy
    rw [bc_i (by decide) (by decide) (show x * 8 + y < 64 by omega)]
    exact h.tb x hx y hy
  · unfold SWw
    rw [e0, e1, e2]
    intro w hw
    rw [bc_i (by decide) (by decide) (show w < 20 by omega), bc_i (by decide) (by decide) (show w < 20 by omega), bc_i (by decide) (by decide) (show w < 20 by omega), bc_i (by decide) (by decide) (show w < 20 by omega), bc_i (by decide) (by decide) (show w < 20 by omega)]
    exact h.wy w hw
  · unfold SWm
    rw [e0, e2]
    intro w hw x hx
    rw [bc_i (by decide) (by decide) (show w * 8 + x < 160 by omega)]
    exact h.mp w hw x hx
  · unfold SWp
    rw [e0, e1]
    intro p hp
    rw [bc_i (by decide) (by decide) (show p < 10 by omega), bc_i (by decide) (by decide) (show p < 10 by omega)]
    exact h.pl p hp
end SWs
theorem cp0 {f g : Nat → Int32} {m : Int32} {n k : Nat} (hm : Int32.toNatClampNeg m = n) : va_cpy f g (Int32.toNatClampNeg 0) (Int32.toNatClampNeg 0) (Int32.toNatClampNeg m) k = if k < n then f k else g k := by
  rw [hm, c0]
  unfold va_cpy
  by_cases c : k < n
  · rw [if_pos c, if_pos ⟨Nat.zero_le _, by omega⟩]
    congr 1
    omega
  · rw [if_neg c, if_neg (by omega)]
theorem bc_row {d s : NO} {i n k : Nat} (h0 : i ≠ 0) (h : i < 10) (hn : bcl i = n) : (if k < n then nO s i k else nO d i k) = nI (bc d s i k) := by
  unfold bc
  rw [if_neg h0, hn]
  by_cases c : k < n
  · rw [if_pos c, if_pos ⟨h, c⟩]; rfl
  · rw [if_neg c, if_neg (fun q => c q.2)]; rfl
theorem f_become_s (d s : NO) : f_become (nO d) (nO s) = some (nO (bc d s)) := by
  unfold f_become
  rw [gd_t (by decide), gd_t (by decide), gd_t (by decide), gd_t (by decide), gd_t (by decide), gd_t (by decide), gd_t (by decide), gd_t (by decide), gd_t (by decide)]
  congr 1
  funext i k
  by_cases h9 : i = 9
  · subst h9
    rw [sA_s, cp0 (n := 20) (by decide)]
    exact bc_row (by decide) (by decide) rfl
  rw [sA_n _ _ h9]
  by_cases h8 : i = 8
  · subst h8
    rw [sA_s, cp0 (n := 20) (by decide)]
    exact bc_row (by decide) (by decide) rfl
  rw [sA_n _ _ h8]
  by_cases h7 : i = 7
  · subst h7
    rw [sA_s, cp0 (n := 20) (by decide)]
    exact bc_row (by decide) (by decide) rfl
  rw [sA_n _ _ h7]
  by_cases h6 : i = 6
  · subst h6
    rw [sA_s, cp0 (n := 160) (by decide)]
    exact bc_row (by decide) (by decide) rfl
  rw [sA_n _ _ h6]
  by_cases h5 : i = 5
  · subst h5
    rw [sA_s, cp0 (n := 20) (by decide)]
    exact bc_row (by decide) (by decide) rfl
  rw [sA_n _ _ h5]
  by_cases h4 : i = 4
  · subst h4
    rw [sA_s, cp0 (n := 20) (by decide)]
    exact bc_row (by decide) (by decide) rfl
  rw [sA_n _ _ h4]
  by_cases h3 : i = 3
  · subst h3
    rw [sA_s, cp0 (n := 10) (by decide)]
    exact bc_row (by decide) (by decide) rfl
  rw [sA_n _ _ h3]
  by_cases h2 : i = 2
  · subst h2
    rw [sA_s, cp0 (n := 10) (by decide)]
    exact bc_row (by decide) (by decide) rfl
  rw [sA_n _ _ h2]
  by_cases h1 : i = 1
  · subst h1
    rw [sA_s, cp0 (n := 64) (by decide)]
    exact bc_row (by decide) (by decide) rfl
  rw [sA_n _ _ h1]
  rw [show nO s 0 0 = nI (s 0 0) from rfl, show nO s 0 1 = nI (s 0 1) from rfl, show nO s 0 2 = nI (s 0 2) from rfl, sI2, sIu]
  show nI _ = nI _
  congr 1
  by_cases h0 : i = 0
  · subst h0
    rw [rN_s, rN_s]
    unfold bc
    rw [if_pos rfl]
    by_cases q2 : k = 2
    · subst q2; rw [nU_s]; rfl
    rw [nU_n q2]
    by_cases q1 : k = 1
    · subst q1; rw [nU_s]; rfl
    rw [nU_n q1]
    by_cases q0 : k = 0
    · subst q0; rw [nU_s]; rfl
    rw [nU_n q0, if_neg (by omega)]
  · rw [rN_n h0, rN_n h0]
    unfold bc
    rw [if_neg h0, if_neg (by omega)]
