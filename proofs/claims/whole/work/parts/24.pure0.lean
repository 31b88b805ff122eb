/-! THE PURE PART: numbers, loops, and what both sides' functions come to -/
abbrev NO : Type := Nat → Nat → Nat
def nO (a : NO) : Ob := fun i k => nI (a i k)
def nU (g : Nat → Nat) (k v : Nat) : Nat → Nat := fun j => if j = k then v else g j
def rN (a : NO) (i : Nat) (g : Nat → Nat) : NO := fun p => if p = i then g else a p
theorem nU_s {g : Nat → Nat} {k v : Nat} : nU g k v k = v := if_pos rfl
theorem nU_n {g : Nat → Nat} {k v j : Nat} (h : j ≠ k) : nU g k v j = g j := if_neg h
theorem rN_s {a : NO} {i : Nat} {g : Nat → Nat} : rN a i g i = g := if_pos rfl
theorem rN_n {a : NO} {i j : Nat} {g : Nat → Nat} (h : j ≠ i) : rN a i g j = a j := if_neg h
theorem sA_s (w : Ob) (i : Nat) (g : Nat → Int32) : sA w i g i = g := by simp [sA]
theorem beq_f {a b : Nat} (h : a ≠ b) : Nat.beq a b = false := by
  cases hb : Nat.beq a b with
  | false => rfl
  | true => exact absurd (Nat.eq_of_beq_eq_true hb) h
theorem sA_n (w : Ob) {i j : Nat} (g : Nat → Int32) (h : j ≠ i) : sA w i g j = w j := by unfold sA; rw [beq_f h]; rfl
theorem sA_nO (a : NO) (i : Nat) (g : Nat → Nat) : sA (nO a) i (fun k => nI (g k)) = nO (rN a i g) := by
  funext p q
  by_cases h : p = i
  · subst h
    rw [sA_s]
    show nI (g q) = nI (rN a p g p q)
    rw [rN_s]
  · rw [sA_n _ _ h]
    show nI (a p q) = nI (rN a i g p q)
    rw [rN_n h]
theorem upd_nO (a : NO) (i k v : Nat) : upd (nO a i) k (nI v) = fun j => nI (nU (a i) k v j) := by
  funext j
  unfold upd nU
  by_cases h : j = k
  · rw [if_pos h, if_pos h]
  · rw [if_neg h, if_neg h]
    rfl
theorem upd_fn (g : Nat → Nat) (k v : Nat) : upd (fun j => nI (g j)) k (nI v) = fun j => nI (nU g k v j) := by
  funext j
  unfold upd nU
  by_cases h : j = k
  · rw [if_pos h, if_pos h]
  · rw [if_neg h, if_neg h]
theorem sAu (a : NO) (i k v : Nat) : sA (nO a) i (upd (nO a i) k (nI v)) = nO (rN a i (nU (a i) k v)) := by rw [upd_nO, sA_nO]
theorem sA_sA (w : Ob) (i : Nat) (g h : Nat → Int32) : sA (sA w i g) i h = sA w i h := by
  funext p
  by_cases q : p = i
  · subst q
    rw [sA_s, sA_s]
  · rw [sA_n _ _ q, sA_n _ _ q, sA_n _ _ q]
theorem sIu (a : NO) (k v : Nat) : sI (nO a) k (nI v) = nO (rN a 0 (nU (a 0) k v)) := by
  unfold sI
  rw [← sA_nO]
  congr 1
  funext b
  by_cases h : b = k
  · subst h
    simp [nU]
  · have h2 : Nat.beq b k = false := beq_f h
    rw [h2]
    show nO a 0 b = nI (nU (a 0) k v b)
    rw [nU_n h]
    rfl
theorem O0_nO : O0 = nO (fun _ _ => 0) := rfl
theorem gd_t {α : Type} {b : Bool} {k : Option α} (h : b = true) : gd b k = k := by rw [h]; rfl
theorem bd_s {α β : Type} {x : Option α} {k : α → Option β} {v : α} (h : x = some v) : bd x k = k v := by rw [h]; rfl
theorem ck_nI {i n : Nat} (h : i < n) (hn : n < 2 ^ 31) : ck (nI i) n = true := by
  unfold ck
  have h1 : ¬ nI i < 0 := nI_pos (by omega)
  rw [nI_clamp (by omega)]
  simp [h1, h]
theorem cl {n : Nat} (h : n < 2 ^ 31) : Int32.toNatClampNeg (nI n) = n := nI_clamp h
noncomputable def b01 (c : Prop) : Int32 := @ite _ c (Classical.propDecidable c) 1 0
theorem b01_t {c : Prop} (h : c) : b01 c = 1 := by unfold b01; exact if_pos h
theorem b01_f {c : Prop} (h : ¬ c) : b01 c = 0 := by unfold b01; exact if_neg h
theorem b01_c {c d : Prop} (h : c ↔ d) : b01 c = b01 d := by rw [show c = d from propext h]
theorem b01_0 {c : Prop} : b01 c = 0 ↔ ¬ c := by
  by_cases h : c
  · rw [b01_t h]
    exact ⟨fun q => absurd q (by decide), fun q => absurd h q⟩
  · rw [b01_f h]
    exact ⟨fun _ => h, fun _ => rfl⟩
theorem b01_bz {c : Prop} : bz (b01 c) = true := by
  by_cases h : c
  · rw [b01_t h]; rfl
  · rw [b01_f h]; rfl
/-- a loop from i on, with a state, that comes to N or leaves early -/
theorem lp_ex {σ R : Type} (F : Nat → Int32 → σ → Option R) (N : Nat) (inv : Nat → σ → Prop) (Ex : Option R → Prop) (ke : σ → Option R)
    (hstep : ∀ fu i s, i < N → inv i s → (∃ r, Ex r ∧ F (fu + 1) (nI i) s = r) ∨ ∃ s', inv (i + 1) s' ∧ F (fu + 1) (nI i) s = F fu (nI (i + 1)) s')
    (hend : ∀ fu s, inv N s → F (fu + 1) (nI N) s = ke s) :
    ∀ fu i s, inv i s → i ≤ N → N - i < fu → (∃ r, Ex r ∧ F fu (nI i) s = r) ∨ ∃ s', inv N s' ∧ F fu (nI i) s = ke s' := by
  intro fu
  induction fu with
  | zero => intro i s _ _ h; omega
  | succ fu ih =>
    intro i s hi hN hf
    by_cases h : i = N
    · subst h
      exact Or.inr ⟨s, hi, hend fu s hi⟩
    · rcases hstep fu i s (by omega) hi with h1 | ⟨s', h1, h2⟩
      · exact Or.inl h1
      · rcases ih (i + 1) s' h1 (by omega) (by omega) with ⟨r, h3, h4⟩ | ⟨s2, h3, h4⟩
        · exact Or.inl ⟨r, h3, h2.trans h4⟩
        · exact Or.inr ⟨s2, h3, h2.trans h4⟩
theorem lp_inv {σ R : Type} (F : Nat → Int32 → σ → Option R) (N : Nat) (inv : Nat → σ → Prop) (ke : σ → Option R)
    (hstep : ∀ fu i s, i < N → inv i s → ∃ s', inv (i + 1) s' ∧ F (fu + 1) (nI i) s = F fu (nI (i + 1)) s')
    (hend : ∀ fu s, inv N s → F (fu + 1) (nI N) s = ke s) :
    ∀ fu i s, inv i s → i ≤ N → N - i < fu → ∃ s', inv N s' ∧ F fu (nI i) s = ke s' := by
  intro fu i s h1 h2 h3
  rcases lp_ex F N inv (fun _ => False) ke (fun fu i s a b => Or.inr (hstep fu i s a b)) hend fu i s h1 h2 h3 with ⟨r, h, _⟩ | h
  · exact h.elim
  · exact h
theorem nx_or (a b : Nat) : nI a ||| nI b = nI (a ||| b) := by
  apply Int32.toBitVec_inj.mp
  show BitVec.ofNat 32 a ||| BitVec.ofNat 32 b = BitVec.ofNat 32 (a ||| b)
  apply BitVec.eq_of_toNat_eq
  simp [Nat.or_mod_two_pow]
theorem nx_and (a b : Nat) : nI a &&& nI b = nI (a &&& b) := by
  apply Int32.toBitVec_inj.mp
  show BitVec.ofNat 32 a &&& BitVec.ofNat 32 b = BitVec.ofNat 32 (a &&& b)
  apply BitVec.eq_of_toNat_eq
  simp [Nat.and_mod_two_pow]
theorem nx_xor (a b : Nat) : nI a ^^^ nI b = nI (a ^^^ b) := by
  apply Int32.toBitVec_inj.mp
  show BitVec.ofNat 32 a ^^^ BitVec.ofNat 32 b = BitVec.ofNat 32 (a ^^^ b)
  apply BitVec.eq_of_toNat_eq
  simp [Nat.xor_mod_two_pow]
theorem m1_nI : (-1 : Int32) = nI 4294967295 := rfl
/-- marks s without t, with g -/
def mk (s t g : Nat) : Nat := (s &&& (t ^^^ 4294967295)) ||| g
theorem mk_nI (s t g : Nat) : (nI s &&& (nI t ^^^ (-1))) ||| nI g = nI (mk s t g) := by rw [m1_nI, nx_xor, nx_and, nx_or]; rfl
theorem mk_lt {s t g : Nat} (hs : s < 256) (hg : g < 256) : mk s t g < 256 := Nat.or_lt_two_pow (n := 8) (Nat.lt_of_le_of_lt Nat.and_le_left hs) hg
theorem or_lt {s g : Nat} (hs : s < 256) (hg : g < 256) : s ||| g < 256 := Nat.or_lt_two_pow (n := 8) hs hg
/-- no marks of s beside t -/
def sb (s t : Nat) : Prop := s &&& (t ^^^ 4294967295) = 0
theorem sb_nI {s t : Nat} (hs : s < 256) : (nI s &&& (nI t ^^^ (-1))) = 0 ↔ sb s t := by
  rw [m1_nI, nx_xor, nx_and, ← nI_0, nI_eq (Nat.lt_of_le_of_lt Nat.and_le_left (by omega)) (by decide)]
  rfl
theorem pw_nI : ∀ k, k < 31 → (1 : Int32) <<< (nI k &&& 31) = nI (2 ^ k) := by decide +kernel
theorem dv_nI {h : Nat} (hh : h < 2048) : nI h / 256 = nI (h / 256) := pk_div (by omega) (by decide) (by decide)
theorem an_nI {h : Nat} (hh : h < 2048) : nI h &&& 255 = nI (h % 256) := pk_andN (by omega) 8 (by decide)
theorem ix8 (a b : Nat) : nI a * 8 + nI b = nI (a * 8 + b) := by rw [show (8 : Int32) = nI 8 from rfl, pk_mul, nI_add]
theorem ix256 (a b : Nat) : nI a * 256 + nI b = nI (a * 256 + b) := by rw [show (256 : Int32) = nI 256 from rfl, pk_mul, nI_add]
theorem ixT (a b : Nat) : 3 + 8 * nI a + nI b = nI (3 + 8 * a + b) := by rw [show (8 : Int32) = nI 8 from rfl, show (3 : Int32) = nI 3 from rfl, pk_mul, nI_add, nI_add]
theorem ixW (a b : Nat) : 107 + 13 * nI a + nI b = nI (107 + 13 * a + b) := by rw [show (107 : Int32) = nI 107 from rfl, show (13 : Int32) = nI 13 from rfl, pk_mul, nI_add, nI_add]
theorem ix5 (b : Nat) : 5 + nI b = nI (5 + b) := by rw [show (5 : Int32) = nI 5 from rfl, nI_add]
theorem ix10 (b : Nat) : 10 + nI b = nI (10 + b) := by rw [show (10 : Int32) = nI 10 from rfl, nI_add]
theorem ix67 (b : Nat) : 67 + nI b = nI (67 + b) := by rw [show (67 : Int32) = nI 67 from rfl, nI_add]
theorem ix77 (b : Nat) : 77 + nI b = nI (77 + b) := by rw [show (77 : Int32) = nI 77 from rfl, nI_add]
theorem ix87 (b : Nat) : 87 + nI b = nI (87 + b) := by rw [show (87 : Int32) = nI 87 from rfl, nI_add]
theorem ix97 (b : Nat) : 97 + nI b = nI (97 + b) := by rw [show (97 : Int32) = nI 97 from rfl, nI_add]
theorem c0 : Int32.toNatClampNeg 0 = 0 := by decide
theorem c1 : Int32.toNatClampNeg 1 = 1 := by decide
theorem c2 : Int32.toNatClampNeg 2 = 2 := by decide
/-- of an int: it is below 0, or a number that is at least n, or one below n -/
theorem nI_any (x : Int32) : x < 0 ∨ ∃ j : Nat, j < 2 ^ 31 ∧ x = nI j := by
  by_cases h : x < 0
  · exact Or.inl h
  · exact Or.inr (nI_of h)
