/-! MY BASE: pure partial functions, one word list for all methods, contracts in two forms (reads only; writes), rows for calls. -/
def gd {α : Type} (b : Bool) (k : Option α) : Option α := bif b then k else none
theorem gd_some {α : Type} {b : Bool} {k : Option α} {v : α} (h : gd b k = some v) : b = true ∧ k = some v := by
  cases b with
  | false => exact absurd h (by simp [gd])
  | true => exact ⟨rfl, h⟩
def bd {α β : Type} (x : Option α) (k : α → Option β) : Option β := x.bind k
theorem bd_some {α β : Type} {x : Option α} {k : α → Option β} {v : β} (h : bd x k = some v) : ∃ q, x = some q ∧ k q = some v := by
  cases x with
  | none => exact absurd h (by simp [bd])
  | some q => exact ⟨q, rfl, h⟩
theorem ite_t {α : Type} {c : Prop} [Decidable c] {a b v : α} (hc : c) (h : (if c then a else b) = v) : a = v := by rw [if_pos hc] at h; exact h
theorem ite_f {α : Type} {c : Prop} [Decidable c] {a b v : α} (hc : ¬ c) (h : (if c then a else b) = v) : b = v := by rw [if_neg hc] at h; exact h
def ck (i : Int32) (n : Nat) : Bool := !(decide (i < 0) || decide (n ≤ i.toNatClampNeg))
theorem ck_in {i : Int32} {n : Nat} (h : ck i n = true) : vp_in i n := by
  intro q
  rcases q with q | q
  · simp [ck, q] at h
  · simp [ck, q] at h
def nz (i : Int32) : Bool := !(decide (i = 0))
theorem nz_ne {i : Int32} (h : nz i = true) : ¬ i = 0 := by intro q; simp [nz, q] at h
def bz (i : Int32) : Bool := decide (i = 0) || decide (i = 1)
theorem bz_or {i : Int32} (h : bz i = true) : i = 0 ∨ i = 1 := by simpa [bz] using h
def cpy (sp dp n : Int32) (n0 n1 : Nat) : Bool := !(decide (sp < 0)) && !(decide (dp < 0)) && !(decide (n < 0)) && decide (sp.toNatClampNeg + n.toNatClampNeg ≤ n0) && decide (dp.toNatClampNeg + n.toNatClampNeg ≤ n1)
theorem cpy_all {sp dp n : Int32} {n0 n1 : Nat} (h : cpy sp dp n n0 n1 = true) : (((¬ sp < 0 ∧ ¬ dp < 0) ∧ ¬ n < 0) ∧ sp.toNatClampNeg + n.toNatClampNeg ≤ n0) ∧ dp.toNatClampNeg + n.toNatClampNeg ≤ n1 := by
  simpa only [cpy, Bool.and_eq_true, Bool.not_eq_true', decide_eq_false_iff_not, decide_eq_true_eq] using h
theorem cpy_1 {sp dp n : Int32} {n0 n1 : Nat} (h : cpy sp dp n n0 n1 = true) : ¬ sp < 0 := (cpy_all h).1.1.1.1
theorem cpy_2 {sp dp n : Int32} {n0 n1 : Nat} (h : cpy sp dp n n0 n1 = true) : ¬ dp < 0 := (cpy_all h).1.1.1.2
theorem cpy_3 {sp dp n : Int32} {n0 n1 : Nat} (h : cpy sp dp n n0 n1 = true) : ¬ n < 0 := (cpy_all h).1.1.2
theorem cpy_4 {sp dp n : Int32} {n0 n1 : Nat} (h : cpy sp dp n n0 n1 = true) : sp.toNatClampNeg + n.toNatClampNeg ≤ n0 := (cpy_all h).1.2
theorem cpy_5 {sp dp n : Int32} {n0 n1 : Nat} (h : cpy sp dp n n0 n1 = true) : dp.toNatClampNeg + n.toNatClampNeg ≤ n1 := (cpy_all h).2
/-- an object's numbers: row 0 its int fields, row i its i-th array -/
abbrev Ob : Type := Nat → Nat → Int32
def sA (w : Ob) (i : Nat) (g : Nat → Int32) : Ob := fun a => bif Nat.beq a i then g else w a
abbrev kTy (cI cZ cR : ClassId) : List (ClassId × FieldType) := [(cI, .int), (cZ, .boolean), (cR, .object RX4)]
def kNest : List (String × Nat × MethodName × String) := [(RX6, 9, yX4_init, "FixedFacts"), (RX3, 17, yX4_init, "FixedFacts"), (RX6, 25, yX1_init, "FixedFacts"), (RX1, 9, yX4_init, "FixedFacts"), (RX6, 35, yX0_init, "FixedFacts"), (RX6, 42, yX5_init, "FixedFacts"), (RX6, 52, yX2_init, "FixedFacts"), (RX4, 96, yX6_valueOf, "FixedFacts"), (RX4, 100, yX6_setOf, "FixedFacts")]
def KN (D : va_G) (cI cZ cR : ClassId) (U : State) : Prop := va_K D vwCl (kTy cI cZ cR) U ∧ (∀ q ∈ kNest, va_Nw (.methodLinkNest q.1 q.2.1 q.2.2.1 q.2.2.2) U) ∧ va_AO RX4 U
theorem KN.moved {D : va_G} {cI cZ cR : ClassId} {s U : State} (hW : s.WarmedH U.vm) (h : KN D cI cZ cR s) : KN D cI cZ cR U := ⟨va_K.moved hW.alike h.1, fun q hq => va_Nw.warmM hW (h.2.1 q hq), va_AO.moved hW.alike h.2.2⟩
theorem KN.blind {D : va_G} {cI cZ cR : ClassId} {U : State} {g : JFrame} {mk : MethodId} {a : Array Value} (h : KN D cI cZ cR U) : KN D cI cZ cR (U.calling g mk a) := ⟨va_K.moved (u := U) (U := U.calling g mk a) (Vm.Alike.refl U.vm) h.1, fun q hq => va_Nw.same rfl rfl (h.2.1 q hq), va_AO.moved (u := U) (U := U.calling g mk a) (Vm.Alike.refl U.vm) h.2.2⟩
def kPr (D : va_G) (cI cZ cR : ClassId) (wc : va_W) : State → Prop := fun U => KN D cI cZ cR U ∧ va_P D vwCl wc U.heap
def kPw (D : va_G) (cI cZ cR : ClassId) (wc : va_W) (sz : Nat) : State → Prop := fun U => U.heap.size = sz ∧ KN D cI cZ cR U ∧ va_P D vwCl wc U.heap ∧ va_D (fun _ => True) wc
theorem kPr_blind {D : va_G} {cI cZ cR : ClassId} {wc : va_W} {av : List Value} : FrameBlind (va_Pc av (kPr D cI cZ cR wc)) := fun _ _ _ _ q => ⟨q.1, q.2.1.blind, q.2.2⟩
theorem kPw_blind {D : va_G} {cI cZ cR : ClassId} {wc : va_W} {sz : Nat} {av : List Value} : FrameBlind (va_Pc av (kPw D cI cZ cR wc sz)) := fun _ _ _ _ q => ⟨q.1, q.2.1, q.2.2.1.blind, q.2.2.2⟩
abbrev wM (y : MethodName) (b : ByteArray) (n : Nat) (r : Option FieldType) : List Cond := Cond.code y b n r :: wT
/-- what is the same at every call of a method -/
def kMS (y : MethodName) (b : ByteArray) (n : Nat) (r : Option FieldType) (k : Nat) : Prop := Cond.code y b n r ∈ wT ∧ Cond.initialized y.cls ∈ wT ∧ (y.cls ≠ "java/lang/invoke/MethodHandle" ∧ y.cls ≠ "java/lang/invoke/VarHandle" ∧ (parseMethodDescriptor y.desc).map (fun d => d.parameters.length) = some k)
def kMV (y : MethodName) : Prop := Cond.instanceMethod y ∈ wT ∧ Cond.selects y.cls y y ∈ wT
theorem kGI {y : MethodName} {b : ByteArray} {n : Nat} {r : Option FieldType} (h : Cond.code y b n r ∈ wT) : GoodIn wT (wM y b n r) := fun w hw => (List.mem_cons.mp hw).elim (fun e => by rw [e]; exact ⟨h, kGood _ h⟩) (fun h => ⟨h, kGood w h⟩)
abbrev kCr (l : Launch) (y : MethodName) (cc : ByteArray) (maxL : Nat) (ret : Option FieldType) (rm : Room) (av : List Value) (D : va_G) (cI cZ cR : ClassId) (wc : va_W) (r : Int32) : Prop := Met l y (wM y cc maxL ret) rm (va_Pc av (kPr D cI cZ cR wc)) (vp_Si fun q => q = r) 0 0 (fun _ => False)
abbrev kCi (l : Launch) (y : MethodName) (cc : ByteArray) (maxL : Nat) (ret : Option FieldType) (rm : Room) (av : List Value) (D : va_G) (cI cZ cR : ClassId) (wc : va_W) (sz : Nat) (wd : va_W) (r : Int32) : Prop := Met l y (wM y cc maxL ret) rm (va_Pc av (kPw D cI cZ cR wc sz)) (va_Qi (fun q (_ : Unit) => q = r) (fun _ t => va_P D vwCl wd t.heap ∧ va_D (va_A wc sz) wd) (va_A wc sz)) 0 0 (va_A wc sz)
abbrev kCv (l : Launch) (y : MethodName) (cc : ByteArray) (maxL : Nat) (ret : Option FieldType) (rm : Room) (av : List Value) (D : va_G) (cI cZ cR : ClassId) (wc : va_W) (sz : Nat) (wd : va_W) : Prop := Met l y (wM y cc maxL ret) rm (va_Pc av (kPw D cI cZ cR wc sz)) (va_Qv (fun (_ : Unit) => True) (fun _ t => va_P D vwCl wd t.heap ∧ va_D (va_A wc sz) wd) (va_A wc sz)) 0 0 (va_A wc sz)
theorem no_none {α : Type} {v : α} {P : Prop} (h : (none : Option α) = some v) : P := by cases h
def sI (w : Ob) (k : Nat) (v : Int32) : Ob := sA w 0 (fun b => bif Nat.beq b k then v else w 0 b)
abbrev cWeb (cI : ClassId) (a a1 a2 a3 a4 a5 a6 a7 a8 a9 : Nat) (w : Ob) : va_W := [(a, .inr (4, [.int (w 0 0), .int (w 0 1), .int (w 0 2), .ref a1, .ref a2, .ref a3, .ref a4, .ref a5, .ref a6, .ref a7, .ref a8, .ref a9])), (a1, .inl (cI, 64, .inl (w 1))), (a2, .inl (cI, 10, .inl (w 2))), (a3, .inl (cI, 10, .inl (w 3))), (a4, .inl (cI, 20, .inl (w 4))), (a5, .inl (cI, 20, .inl (w 5))), (a6, .inl (cI, 160, .inl (w 6))), (a7, .inl (cI, 20, .inl (w 7))), (a8, .inl (cI, 20, .inl (w 8))), (a9, .inl (cI, 20, .inl (w 9)))]
abbrev cArr (cI : ClassId) (n a : Nat) (g : Nat → Int32) : va_W := [(a, .inl (cI, n, .inl g))]
abbrev cWork (cI : ClassId) (a a1 a2 : Nat) (w : Ob) : va_W := [(a, .inr (5, [.ref a1, .ref a2, .int (w 0 0)])), (a1, .inl (cI, 10, .inl (w 1))), (a2, .inl (cI, 10, .inl (w 2)))]
abbrev cJudge (cI : ClassId) (a a1 : Nat) (w : Ob) : va_W := [(a, .inr (2, [.ref a1])), (a1, .inl (cI, 10, .inl (w 1)))]
abbrev cBook (cI : ClassId) (a a1 a2 : Nat) (w : Ob) : va_W := [(a, .inr (0, [.int (w 0 0), .ref a1, .ref a2])), (a1, .inl (cI, 20, .inl (w 1))), (a2, .inl (cI, 20, .inl (w 2)))]
abbrev cModel (cI cZ : ClassId) (a a1 a2 a3 a4 a5 a6 a7 a8 a9 : Nat) (w : Ob) : va_W := [(a, .inr (7, [.ref a1, .ref a2, .int (w 0 2), .ref a3, .ref a4, .int (w 0 5), .ref a5, .int (w 0 7), .ref a6, .ref a7, .ref a8, .int (w 0 11), .int (w 0 12), .int (w 0 13), .int (w 0 14), .ref a9, .int (w 0 16)])), (a1, .inl (cI, 367, .inl (w 1))), (a2, .inl (cI, 5872, .inl (w 2))), (a3, .inl (cI, 736, .inl (w 3))), (a4, .inl (cZ, 2, .inl (w 4))), (a5, .inl (cI, 60, .inl (w 5))), (a6, .inl (cI, 20, .inl (w 6))), (a7, .inl (cI, 20, .inl (w 7))), (a8, .inl (cI, 20, .inl (w 8))), (a9, .inl (cI, 10, .inl (w 9)))]
section KB
variable {p : Program} {l : Launch} {e : Env} {R : Room} {s : State} {m : MethodId} {args : Array Value} {below : List Frame} {meth : Method} {c : Code} {H : Heap} {locs : List Loc} {cells slots : Nat} {Q : State → Prop}
variable {D : va_G} {cI cZ cR : ClassId} {cc bytes : ByteArray} {nL maxL index n pc : Nat} {own : String} {y : MethodName} {ret : Option FieldType} {rm : Room} {b : Nat} {As rest : List Value} {ls : Array Slot} {wc wd : va_W} {r v : Int32} {A : Nat → Prop} {sz : Nat}
theorem kCB {mc ms : Nat} (ht : ∀ w ∈ wT, w.before args s = true) (hs : kMS y bytes maxL ret n) (hl : Cond.methodLink own index y ∈ wT) (hrc : rm.cells = mc) (hrs : rm.slots = ms) (hR : rm.frames + 1 ≤ R.frames ∧ 8 + (maxL + 11) + rm.locals ≤ R.locals) : CallB R s args own index y bytes maxL ret (wM y bytes maxL ret) rm mc ms n :=
  callB_of n ht (kGI hs.1) rfl hrc hrs (ht _ hs.2.1) (ht _ hl) hs.2.2 hR
theorem kCW {mc ms : Nat} (ht : ∀ w ∈ wT, w.before args s = true) (hs : kMS y bytes maxL ret n) (hv : kMV y) (hl : Cond.methodLink own index y ∈ wT) (hrc : rm.cells = mc) (hrs : rm.slots = ms) (hR : rm.frames + 1 ≤ R.frames ∧ 8 + (maxL + 11) + rm.locals ≤ R.locals) : CallW R s args own y.cls index y bytes maxL ret (wM y bytes maxL ret) rm mc ms n :=
  ⟨kCB ht hs hl hrc hrs hR, ht _ hv.1, ht _ hv.2⟩
/-- behind a call that reads only -/
theorem kx_si {post : Int32 → Prop} {a : Array Value} {st0 : List Value} (hr : va_Run p l e R s m args below meth c H locs cells slots 0 0 (F0 m pc ls st0) rest (vp_Si post a) (fun _ => False))
    (kk : ∀ r : Int32, post r → W p l e R s m args below meth c H locs cells slots Q (F0 m (pc + 3) ls (.int r :: rest))) : W p l e R s m args below meth c H locs cells slots Q (F0 m pc ls st0) := by
  intro T hT X
  obtain ⟨v, st₀, t, T', L, h0, X', hL, e1, e2, ⟨r, hv, hp, hh⟩, st⟩ := hr T hT X
  cases hv
  obtain ⟨t2, a1, b1⟩ := kk r hp T' (by rw [e1, hh, h0]) (Stand.forget X' (fun q h => (hL q h).elim))
  exact ⟨t2, st t2 a1, b1⟩
/-- a call of an instance method that reads only -/
theorem kx_rv (hx : p.tables.exec = Jvm.exec) (hb : c.code = cc) (hml : c.maxLocals = nL) (hown : s.vm.findClass own = some m.cls) (hts : ∀ w ∈ wT, w.before args s = true) (hk : KN D cI cZ cR s) (hP : va_P D vwCl wc H) (hsz : ls.size = nL)
    (hs : kMS y bytes maxL ret n) (hv : kMV y) (hM : Met l y (wM y bytes maxL ret) rm (va_Pc (.ref b :: As) (kPr D cI cZ cR wc)) (vp_Si fun q => q = r) 0 0 (fun _ => False))
    (hl : Cond.methodLink own index y ∈ wT) (hrc : rm.cells = 0) (hrs : rm.slots = 0) (hR : rm.frames + 1 ≤ R.frames ∧ 8 + (maxL + 11) + rm.locals ≤ R.locals)
    {ci q0 N : Nat} {T : u_T} {fs : List Value} (hcl : vwCl[ci]? = some (y.cls, T, N)) (he : wc[q0]? = some (b, .inr (ci, fs))) (hn : As.length = n) (hW : (rest.map fun v => v.category).sum ≤ 8) (hc : cells ≤ R.cells ∧ slots ≤ R.slots) (hdg : decode cc pc = .ok (.invokevirtual index, 3))
    (kk : W p l e R s m args below meth c H locs cells slots Q (F0 m (pc + 3) ls (.int r :: rest))) : W p l e R s m args below meth c H locs cells slots Q (F0 m pc ls (As.reverse ++ .ref b :: rest)) :=
  kx_si (va_runV (As := As) (rest := rest) ⟨hx, hb, hml, hown, hts⟩ hM (kCW hts hs hv hl hrc hrs hR) ⟨kPr_blind, va_recv hk.1 hP hcl he, fun U hU hW' => ⟨rfl, hk.moved hW', by rw [hU]; exact hP⟩⟩ rfl hn hsz rfl (lv_room hW) hdg hc) (fun q hq => by rw [hq]; exact kk)
/-- a call of a static method of the same class that reads only -/
theorem kx_rs (hx : p.tables.exec = Jvm.exec) (hb : c.code = cc) (hml : c.maxLocals = nL) (hown : s.vm.findClass own = some m.cls) (hts : ∀ w ∈ wT, w.before args s = true) (hk : KN D cI cZ cR s) (hsz : ls.size = nL)
    (hs : kMS y bytes maxL ret n) (hv : Cond.static y ∈ wT) (hM : Met l y (wM y bytes maxL ret) rm (va_Pc As (kPr D cI cZ cR [])) (vp_Si fun q => q = r) 0 0 (fun _ => False))
    (hl : Cond.methodLink own index y ∈ wT) (hrc : rm.cells = 0) (hrs : rm.slots = 0) (hR : rm.frames + 1 ≤ R.frames ∧ 8 + (maxL + 11) + rm.locals ≤ R.locals)
    (hn : As.length = n) (hW : (rest.map fun v => v.category).sum ≤ 8) (hc : cells ≤ R.cells ∧ slots ≤ R.slots) (hdg : decode cc pc = .ok (.invokestatic index, 3))
    (kk : W p l e R s m args below meth c H locs cells slots Q (F0 m (pc + 3) ls (.int r :: rest))) : W p l e R s m args below meth c H locs cells slots Q (F0 m pc ls (As.reverse ++ rest)) :=
  kx_si (va_runS (As := As) (rest := rest) ⟨hx, hb, hml, hown, hts⟩ hM ⟨kCB hts hs hl hrc hrs hR, hts _ hv⟩ ⟨kPr_blind, fun U hU hW' => ⟨rfl, hk.moved hW', fun k q h => by simp at h⟩⟩ rfl hn hsz rfl (lv_room hW) hdg hc) (fun q hq => by rw [hq]; exact kk)
/-- a call of a nest mate's private static method that reads only -/
theorem kx_rsn {host : String} (hx : p.tables.exec = Jvm.exec) (hb : c.code = cc) (hml : c.maxLocals = nL) (hown : s.vm.findClass own = some m.cls) (hts : ∀ w ∈ wT, w.before args s = true) (hk : KN D cI cZ cR s) (hsz : ls.size = nL)
    (hs : kMS y bytes maxL ret n) (hv : Cond.static y ∈ wT) (hM : Met l y (wM y bytes maxL ret) rm (va_Pc As (kPr D cI cZ cR [])) (vp_Si fun q => q = r) 0 0 (fun _ => False))
    (hl : (own, index, y, host) ∈ kNest) (hrc : rm.cells = 0) (hrs : rm.slots = 0) (hR : rm.frames + 1 ≤ R.frames ∧ 8 + (maxL + 11) + rm.locals ≤ R.locals)
    (hn : As.length = n) (hW : (rest.map fun v => v.category).sum ≤ 8) (hc : cells ≤ R.cells ∧ slots ≤ R.slots) (hdg : decode cc pc = .ok (.invokestatic index, 3))
    (kk : W p l e R s m args below meth c H locs cells slots Q (F0 m (pc + 3) ls (.int r :: rest))) : W p l e R s m args below meth c H locs cells slots Q (F0 m pc ls (As.reverse ++ rest)) :=
  kx_si (va_runSN (As := As) (rest := rest) ⟨hx, hb, hml, hown, hts⟩ hM ⟨va_cnB n hts (kGI hs.1) rfl hrc hrs (hk.2.1 _ hl) (hts _ hs.2.1) hs.2.2 hR, hts _ hv, trivial⟩ ⟨kPr_blind, fun U hU hW' => ⟨rfl, hk.moved hW', fun k q h => by simp at h⟩⟩ rfl hn hsz rfl (lv_room hW) hdg hc) (fun q hq => by rw [hq]; exact kk)
/-- a method's contract out of its walk: reads only, int -/
theorem kMri {av : List Value} (hy : plainName y.cls = true) (hlen : (lg_sl av).length ≤ maxL)
    (body : ∀ (p : Program) (e : Env) (s : State) (m : MethodId) (below : List Frame) (meth : Method) (c : Code) (Q : State → Prop), p.tables.exec = Jvm.exec → c.code = cc → c.maxLocals = maxL → s.vm.findClass y.cls = some m.cls → (∀ w ∈ wT, w.before av.toArray s = true) → KN D cI cZ cR s → va_P D vwCl wc s.heap →
      (∀ (pc : Nat) (ls : Array Slot) (v : Int32), some v = some r → decode cc pc = .ok (.ireturn, 1) → W p l e rm s m av.toArray below meth c s.heap [] 0 0 Q (F0 m pc ls [.int v])) →
      ∀ ls : Array Slot, lv_has ls maxL (lv_args 0 av) → W p l e rm s m av.toArray below meth c s.heap [] 0 0 Q (F0 m 0 ls [])) : kCr l y cc maxL (some .int) rm av D cI cZ cR wc r := by
  refine Met.ofW (cc := cc) (maxL := maxL) (ret := some .int) hy rfl ?_
  intro p e s m args below meth c s₁ B hml hv
  obtain ⟨rfl, hk, hP⟩ := hv
  have hts := atoms_spec (ws := wM y cc maxL (some .int)) B.pre
  rw [lg_entry_eq]
  exact body p e s m below meth c _ B.exec B.bytes hml (findClass_of_methodNamed B.named) (fun w hw => hts w (List.mem_cons_of_mem _ hw)) hk hP (fun pc ls v hv hdg => W.iret B.exec B.bytes B.returns (fun t ht _ => ⟨v, rfl, Option.some.inj hv, ht⟩) (fun q h => by cases h) hdg B.notSynchronized) _ (lv_entry av hlen)
/-- reads only, boolean -/
theorem kMrz {av : List Value} (hy : plainName y.cls = true) (hlen : (lg_sl av).length ≤ maxL)
    (body : ∀ (p : Program) (e : Env) (s : State) (m : MethodId) (below : List Frame) (meth : Method) (c : Code) (Q : State → Prop), p.tables.exec = Jvm.exec → c.code = cc → c.maxLocals = maxL → s.vm.findClass y.cls = some m.cls → (∀ w ∈ wT, w.before av.toArray s = true) → KN D cI cZ cR s → va_P D vwCl wc s.heap →
      (∀ (pc : Nat) (ls : Array Slot) (v : Int32), some v = some r → (v = 0 ∨ v = 1) → decode cc pc = .ok (.ireturn, 1) → W p l e rm s m av.toArray below meth c s.heap [] 0 0 Q (F0 m pc ls [.int v])) →
      ∀ ls : Array Slot, lv_has ls maxL (lv_args 0 av) → W p l e rm s m av.toArray below meth c s.heap [] 0 0 Q (F0 m 0 ls [])) : kCr l y cc maxL (some .boolean) rm av D cI cZ cR wc r := by
  refine Met.ofW (cc := cc) (maxL := maxL) (ret := some .boolean) hy rfl ?_
  intro p e s m args below meth c s₁ B hml hv
  obtain ⟨rfl, hk, hP⟩ := hv
  have hts := atoms_spec (ws := wM y cc maxL (some .boolean)) B.pre
  rw [lg_entry_eq]
  exact body p e s m below meth c _ B.exec B.bytes hml (findClass_of_methodNamed B.named) (fun w hw => hts w (List.mem_cons_of_mem _ hw)) hk hP (fun pc ls v hv hz hdg => W.zret B.exec B.bytes B.returns (by rcases hz with rfl | rfl <;> rfl) (fun t ht _ => ⟨v, rfl, Option.some.inj hv, ht⟩) (fun q h => by cases h) hdg B.notSynchronized) _ (lv_entry av hlen)
/-- writes, int -/
theorem kMwi {β : Type} {wf : β → va_W} {u : β} {av : List Value} (hy : plainName y.cls = true) (hlen : (lg_sl av).length ≤ maxL)
    (body : ∀ (p : Program) (e : Env) (s : State) (m : MethodId) (below : List Frame) (meth : Method) (c : Code) (Q : State → Prop) (A : Nat → Prop), p.tables.exec = Jvm.exec → c.code = cc → c.maxLocals = maxL → s.vm.findClass y.cls = some m.cls → (∀ w ∈ wT, w.before av.toArray s = true) → KN D cI cZ cR s → va_P D vwCl wc s.heap → va_D A wc → (∀ q : Nat, s.heap.size ≤ q → A q) → va_S A s.heap s.heap [] →
      (∀ (pc : Nat) (ls : Array Slot) (v : Int32) (u' : β) (H : Heap) (locs : List Loc), some (v, u') = some (r, u) → decode cc pc = .ok (.ireturn, 1) → va_P D vwCl (wf u') H → va_D A (wf u') → va_S A s.heap H locs → W p l e rm s m av.toArray below meth c H locs 0 0 Q (F0 m pc ls [.int v])) →
      ∀ ls : Array Slot, lv_has ls maxL (lv_args 0 av) → W p l e rm s m av.toArray below meth c s.heap [] 0 0 Q (F0 m 0 ls [])) : kCi l y cc maxL (some .int) rm av D cI cZ cR wc sz (wf u) r := by
  refine Met.ofW (cc := cc) (maxL := maxL) (ret := some .int) hy rfl ?_
  intro p e s m args below meth c s₁ B hml hv
  obtain ⟨rfl, hsz, hk, hP, hD⟩ := hv
  have hts := atoms_spec (ws := wM y cc maxL (some .int)) B.pre
  subst hsz
  rw [lg_entry_eq]
  exact body p e s m below meth c _ _ B.exec B.bytes hml (findClass_of_methodNamed B.named) (fun w hw => hts w (List.mem_cons_of_mem _ hw)) hk hP hD.self (fun q h => Or.inr h) va_S.rf (fun pc ls v u' H locs hv hdg hP hD hS => by
    cases hv
    exact W.iret B.exec B.bytes B.returns (fun t ht _ => ⟨⟨_, (), rfl, rfl, by rw [ht]; exact hP, hD⟩, hS.F ht⟩) hS.2.2 hdg B.notSynchronized) _ (lv_entry av hlen)
/-- writes, boolean -/
theorem kMwz {β : Type} {wf : β → va_W} {u : β} {av : List Value} (hy : plainName y.cls = true) (hlen : (lg_sl av).length ≤ maxL)
    (body : ∀ (p : Program) (e : Env) (s : State) (m : MethodId) (below : List Frame) (meth : Method) (c : Code) (Q : State → Prop) (A : Nat → Prop), p.tables.exec = Jvm.exec → c.code = cc → c.maxLocals = maxL → s.vm.findClass y.cls = some m.cls → (∀ w ∈ wT, w.before av.toArray s = true) → KN D cI cZ cR s → va_P D vwCl wc s.heap → va_D A wc → (∀ q : Nat, s.heap.size ≤ q → A q) → va_S A s.heap s.heap [] →
      (∀ (pc : Nat) (ls : Array Slot) (v : Int32) (u' : β) (H : Heap) (locs : List Loc), some (v, u') = some (r, u) → (v = 0 ∨ v = 1) → decode cc pc = .ok (.ireturn, 1) → va_P D vwCl (wf u') H → va_D A (wf u') → va_S A s.heap H locs → W p l e rm s m av.toArray below meth c H locs 0 0 Q (F0 m pc ls [.int v])) →
      ∀ ls : Array Slot, lv_has ls maxL (lv_args 0 av) → W p l e rm s m av.toArray below meth c s.heap [] 0 0 Q (F0 m 0 ls [])) : kCi l y cc maxL (some .boolean) rm av D cI cZ cR wc sz (wf u) r := by
  refine Met.ofW (cc := cc) (maxL := maxL) (ret := some .boolean) hy rfl ?_
  intro p e s m args below meth c s₁ B hml hv
  obtain ⟨rfl, hsz, hk, hP, hD⟩ := hv
  have hts := atoms_spec (ws := wM y cc maxL (some .boolean)) B.pre
  subst hsz
  rw [lg_entry_eq]
  exact body p e s m below meth c _ _ B.exec B.bytes hml (findClass_of_methodNamed B.named) (fun w hw => hts w (List.mem_cons_of_mem _ hw)) hk hP hD.self (fun q h => Or.inr h) va_S.rf (fun pc ls v u' H locs hv hz hdg hP hD hS => by
    cases hv
    exact W.zret B.exec B.bytes B.returns (by rcases hz with rfl | rfl <;> rfl) (fun t ht _ => ⟨⟨_, (), rfl, rfl, by rw [ht]; exact hP, hD⟩, hS.F ht⟩) hS.2.2 hdg B.notSynchronized) _ (lv_entry av hlen)
/-- writes, void -/
theorem kMwv {β : Type} {wf : β → va_W} {u : β} {av : List Value} (hy : plainName y.cls = true) (hlen : (lg_sl av).length ≤ maxL)
    (body : ∀ (p : Program) (e : Env) (s : State) (m : MethodId) (below : List Frame) (meth : Method) (c : Code) (Q : State → Prop) (A : Nat → Prop), p.tables.exec = Jvm.exec → c.code = cc → c.maxLocals = maxL → s.vm.findClass y.cls = some m.cls → (∀ w ∈ wT, w.before av.toArray s = true) → KN D cI cZ cR s → va_P D vwCl wc s.heap → va_D A wc → (∀ q : Nat, s.heap.size ≤ q → A q) → va_S A s.heap s.heap [] →
      (∀ (pc : Nat) (ls : Array Slot) (u' : β) (H : Heap) (locs : List Loc), some u' = some u → decode cc pc = .ok (.return_, 1) → va_P D vwCl (wf u') H → va_D A (wf u') → va_S A s.heap H locs → W p l e rm s m av.toArray below meth c H locs 0 0 Q (F0 m pc ls [])) →
      ∀ ls : Array Slot, lv_has ls maxL (lv_args 0 av) → W p l e rm s m av.toArray below meth c s.heap [] 0 0 Q (F0 m 0 ls [])) : kCv l y cc maxL none rm av D cI cZ cR wc sz (wf u) := by
  refine Met.ofW (cc := cc) (maxL := maxL) (ret := none) hy rfl ?_
  intro p e s m args below meth c s₁ B hml hv
  obtain ⟨rfl, hsz, hk, hP, hD⟩ := hv
  have hts := atoms_spec (ws := wM y cc maxL none) B.pre
  subst hsz
  rw [lg_entry_eq]
  exact body p e s m below meth c _ _ B.exec B.bytes hml (findClass_of_methodNamed B.named) (fun w hw => hts w (List.mem_cons_of_mem _ hw)) hk hP hD.self (fun q h => Or.inr h) va_S.rf (fun pc ls u' H locs hv hdg hP hD hS => by
    cases hv
    exact W.vret B.exec B.bytes B.returns (fun t ht _ => ⟨⟨(), rfl, trivial, by rw [ht]; exact hP, hD⟩, hS.F ht⟩) hS.2.2 hdg B.notSynchronized) _ (lv_entry av hlen)
/-- behind a call that writes: the callee's new world beside the rest, in the order wn -/
theorem kx_join {ws wr w1 wn : va_W} {H1 : Heap} (hP : va_P D vwCl ws H) (hD : va_D A ws) (isC isR : List Nat) (hC : isC.map (fun i => ws[i]?) = wc.map some) (hR : isR.map (fun i => ws[i]?) = wr.map some) (hn : va_nd isR = true) (hdis : ∀ i ∈ isR, i ∉ isC) (hF : ∀ q, va_A wc H.size q → A q)
    (hk : ∀ q : Nat, q < H.size → ¬ va_A wc H.size q → H1[q]? = H[q]?) (hP1 : va_P D vwCl w1 H1) (hD1 : va_D (va_A wc H.size) w1) (is : List Nat) (hN : va_nd is = true) (hI : is.map (fun i => (wr ++ w1)[i]?) = wn.map some) : va_P D vwCl wn H1 ∧ va_D A wn := by
  obtain ⟨h1, h2⟩ := va_join hP hD isC isR hC hR hn hdis hk hF hP1 hD1
  refine ⟨fun k q hq => ?_, h2.sub is hN hI⟩
  have h3 : (is.map (fun i => (wr ++ w1)[i]?))[k]? = some (some q) := by rw [hI, List.getElem?_map, hq]; rfl
  rw [List.getElem?_map] at h3
  cases hi : is[k]? with
  | none => rw [hi] at h3; cases h3
  | some i => rw [hi] at h3; exact h1 i q (Option.some.inj h3)
theorem kx_cut {ws : va_W} (hP : va_P D vwCl ws H) (isC : List Nat) (hC : isC.map (fun i => ws[i]?) = wc.map some) : va_P D vwCl wc H := by
  intro k q hq
  have h3 : (isC.map (fun i => ws[i]?))[k]? = some (some q) := by rw [hC, List.getElem?_map, hq]; rfl
  rw [List.getElem?_map] at h3
  cases hi : isC[k]? with
  | none => rw [hi] at h3; cases h3
  | some i => rw [hi] at h3; exact hP i q (Option.some.inj h3)
theorem kx_wi (hx : p.tables.exec = Jvm.exec) (hb : c.code = cc) (hml : c.maxLocals = nL) (hown : s.vm.findClass own = some m.cls) (hts : ∀ w ∈ wT, w.before args s = true) (hk : KN D cI cZ cR s) {ws wr wn : va_W} (hP : va_P D vwCl ws H) (hD : va_D A ws) (hS : va_S A s.heap H locs) (hA : ∀ q : Nat, s.heap.size ≤ q → A q) (hsz : ls.size = nL)
    (hs : kMS y bytes maxL ret n) (hv : kMV y) (hM : Met l y (wM y bytes maxL ret) rm (va_Pc (.ref b :: As) (kPw D cI cZ cR wc H.size)) (va_Qi (fun q (_ : Unit) => q = r) (fun _ t => va_P D vwCl wd t.heap ∧ va_D (va_A wc H.size) wd) (va_A wc H.size)) 0 0 (va_A wc H.size))
    (hl : Cond.methodLink own index y ∈ wT) (hrc : rm.cells = 0) (hrs : rm.slots = 0) (hR : rm.frames + 1 ≤ R.frames ∧ 8 + (maxL + 11) + rm.locals ≤ R.locals)
    (isC isR isN : List Nat) (hC : isC.map (fun i => ws[i]?) = wc.map some) (hRr : isR.map (fun i => ws[i]?) = wr.map some) (hnC : va_nd isC = true) (hn2 : va_nd isR = true) (hdis : ∀ i ∈ isR, i ∉ isC) (hN : va_nd isN = true) (hI : isN.map (fun i => (wr ++ wd)[i]?) = wn.map some)
    {ci q0 N : Nat} {T : u_T} {fs : List Value} (hcl : vwCl[ci]? = some (y.cls, T, N)) (he : wc[q0]? = some (b, .inr (ci, fs))) (hn : As.length = n) (hW : (rest.map fun v => v.category).sum ≤ 8) (hc : cells ≤ R.cells ∧ slots ≤ R.slots) (hdg : decode cc pc = .ok (.invokevirtual index, 3))
    (kk : ∀ (H1 : Heap) (locs1 : List Loc), va_P D vwCl wn H1 → va_D A wn → va_S A s.heap H1 locs1 → W p l e R s m args below meth c H1 locs1 cells slots Q (F0 m (pc + 3) ls (.int r :: rest))) : W p l e R s m args below meth c H locs cells slots Q (F0 m pc ls (As.reverse ++ .ref b :: rest)) := by
  have hFc := va_free (wc := wc) hD hS hA isC hC
  have hDc := hD.sub (ws' := wc) isC hnC hC
  have hPc : va_P D vwCl wc H := kx_cut hP isC hC
  refine va_calli (va_runV (As := As) (rest := rest) ⟨hx, hb, hml, hown, hts⟩ hM (kCW hts hs hv hl hrc hrs hR) ⟨kPw_blind, va_recv hk.1 hPc hcl he, fun U hU hW' => ⟨rfl, by rw [hU], hk.moved hW', by rw [hU]; exact hPc, hDc.weaken (fun _ _ _ _ => trivial)⟩⟩ rfl hn hsz rfl (lv_room hW) hdg hc) hS (fun q _ h => hFc q h) hFc (fun q u t H1 locs1 ht hvm hw hB hz1 hk1 hS1 => ?_)
  obtain ⟨hP1, hD1⟩ := hB
  rw [ht] at hP1
  obtain ⟨g1, g2⟩ := kx_join (wn := wn) hP hD isC isR hC hRr hn2 hdis hFc hk1 hP1 hD1 isN hN hI
  rw [hw]
  exact kk H1 locs1 g1 g2 hS1
theorem kx_wv (hx : p.tables.exec = Jvm.exec) (hb : c.code = cc) (hml : c.maxLocals = nL) (hown : s.vm.findClass own = some m.cls) (hts : ∀ w ∈ wT, w.before args s = true) (hk : KN D cI cZ cR s) {ws wr wn : va_W} (hP : va_P D vwCl ws H) (hD : va_D A ws) (hS : va_S A s.heap H locs) (hA : ∀ q : Nat, s.heap.size ≤ q → A q) (hsz : ls.size = nL)
    (hs : kMS y bytes maxL ret n) (hv : kMV y) (hM : Met l y (wM y bytes maxL ret) rm (va_Pc (.ref b :: As) (kPw D cI cZ cR wc H.size)) (va_Qv (fun (_ : Unit) => True) (fun _ t => va_P D vwCl wd t.heap ∧ va_D (va_A wc H.size) wd) (va_A wc H.size)) 0 0 (va_A wc H.size))
    (hl : Cond.methodLink own index y ∈ wT) (hrc : rm.cells = 0) (hrs : rm.slots = 0) (hR : rm.frames + 1 ≤ R.frames ∧ 8 + (maxL + 11) + rm.locals ≤ R.locals)
    (isC isR isN : List Nat) (hC : isC.map (fun i => ws[i]?) = wc.map some) (hRr : isR.map (fun i => ws[i]?) = wr.map some) (hnC : va_nd isC = true) (hn2 : va_nd isR = true) (hdis : ∀ i ∈ isR, i ∉ isC) (hN : va_nd isN = true) (hI : isN.map (fun i => (wr ++ wd)[i]?) = wn.map some)
    {ci q0 N : Nat} {T : u_T} {fs : List Value} (hcl : vwCl[ci]? = some (y.cls, T, N)) (he : wc[q0]? = some (b, .inr (ci, fs))) (hn : As.length = n) (hW : (rest.map fun v => v.category).sum ≤ 8) (hc : cells ≤ R.cells ∧ slots ≤ R.slots) (hdg : decode cc pc = .ok (.invokevirtual index, 3))
    (kk : ∀ (H1 : Heap) (locs1 : List Loc), va_P D vwCl wn H1 → va_D A wn → va_S A s.heap H1 locs1 → W p l e R s m args below meth c H1 locs1 cells slots Q (F0 m (pc + 3) ls rest)) : W p l e R s m args below meth c H locs cells slots Q (F0 m pc ls (As.reverse ++ .ref b :: rest)) := by
  have hFc := va_free (wc := wc) hD hS hA isC hC
  have hDc := hD.sub (ws' := wc) isC hnC hC
  have hPc : va_P D vwCl wc H := kx_cut hP isC hC
  refine va_callv (va_runV (As := As) (rest := rest) ⟨hx, hb, hml, hown, hts⟩ hM (kCW hts hs hv hl hrc hrs hR) ⟨kPw_blind, va_recv hk.1 hPc hcl he, fun U hU hW' => ⟨rfl, by rw [hU], hk.moved hW', by rw [hU]; exact hPc, hDc.weaken (fun _ _ _ _ => trivial)⟩⟩ rfl hn hsz rfl (lv_room hW) hdg hc) hS (fun q _ h => hFc q h) hFc (fun u t H1 locs1 ht hvm hw hB hz1 hk1 hS1 => ?_)
  obtain ⟨hP1, hD1⟩ := hB
  rw [ht] at hP1
  obtain ⟨g1, g2⟩ := kx_join (wn := wn) hP hD isC isR hC hRr hn2 hdis hFc hk1 hP1 hD1 isN hN hI
  exact kk H1 locs1 g1 g2 hS1
end KB
