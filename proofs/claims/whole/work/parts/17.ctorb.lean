/-! constructors: what they make -/
abbrev O0 : Ob := fun _ _ => 0
abbrev kCc (l : Launch) (y : MethodName) (cc : ByteArray) (maxL : Nat) (rm : Room) (av : List Value) (D : va_G) (cI cZ cR : ClassId) (wc : va_W) (sz : Nat) (β : Type) (wf : β → va_W) (mc ms : Nat) : Prop := Met l y (wM y cc maxL none) rm (va_Pc av (kPw D cI cZ cR wc sz)) (va_Qv (fun (_ : β) => True) (fun u t => va_P D vwCl (wf u) t.heap ∧ va_D (va_A wc sz) (wf u)) (va_A wc sz)) mc ms (va_A wc sz)
section KD
variable {p : Program} {l : Launch} {e : Env} {R : Room} {s : State} {m : MethodId} {args : Array Value} {below : List Frame} {meth : Method} {c : Code} {H : Heap} {locs : List Loc} {cells slots : Nat} {Q : State → Prop}
variable {D : va_G} {cI cZ cR : ClassId} {cc bytes : ByteArray} {nL maxL index n pc mc ms : Nat} {own : String} {y : MethodName} {rm : Room} {b : Nat} {rest : List Value} {ls : Array Slot} {wc : va_W} {A : Nat → Prop} {sz : Nat}
theorem kMc {β : Type} {wf : β → va_W} {av : List Value} (hy : plainName y.cls = true) (hlen : (lg_sl av).length ≤ maxL)
    (body : ∀ (p : Program) (e : Env) (s : State) (m : MethodId) (below : List Frame) (meth : Method) (c : Code) (Q : State → Prop) (A : Nat → Prop), p.tables.exec = Jvm.exec → c.code = cc → c.maxLocals = maxL → s.vm.findClass y.cls = some m.cls → (∀ w ∈ wT, w.before av.toArray s = true) → KN D cI cZ cR s → meth.name = y.name → va_P D vwCl wc s.heap → va_D A wc → (∀ q : Nat, s.heap.size ≤ q → A q) → va_S A s.heap s.heap [] →
      (∀ (pc : Nat) (ls : Array Slot) (u : β) (H : Heap) (locs : List Loc), decode cc pc = .ok (.return_, 1) → va_P D vwCl (wf u) H → va_D A (wf u) → va_S A s.heap H locs → W p l e rm s m av.toArray below meth c H locs mc ms Q (F0 m pc ls [])) →
      ∀ ls : Array Slot, lv_has ls maxL (lv_args 0 av) → W p l e rm s m av.toArray below meth c s.heap [] 0 0 Q (F0 m 0 ls [])) : kCc l y cc maxL rm av D cI cZ cR wc sz β wf mc ms := by
  refine Met.ofW (cc := cc) (maxL := maxL) (ret := none) hy rfl ?_
  intro p e s m args below meth c s₁ B hml hv
  obtain ⟨rfl, hsz, hk, hP, hD⟩ := hv
  have hts := atoms_spec (ws := wM y cc maxL none) B.pre
  subst hsz
  rw [lg_entry_eq]
  exact body p e s m below meth c _ _ B.exec B.bytes hml (findClass_of_methodNamed B.named) (fun w hw => hts w (List.mem_cons_of_mem _ hw)) hk (name_of_methodNamed B.named B.method).1 hP hD.self (fun q h => Or.inr h) va_S.rf (fun pc ls u H locs hdg hP hD hS => W.vret B.exec B.bytes B.returns (fun t ht _ => ⟨⟨u, rfl, trivial, by rw [ht]; exact hP, hD⟩, hS.F ht⟩) hS.2.2 hdg B.notSynchronized) _ (lv_entry av hlen)
theorem kx_newI (hx : p.tables.exec = Jvm.exec) (hb : c.code = cc) (hts : ∀ w ∈ wT, w.before args s = true) (hk : KN D cI cZ cR s) {ws : va_W} (hP : va_P D vwCl ws H) (hD : va_D A ws) (hS : va_S A s.heap H locs) (hA : ∀ q : Nat, s.heap.size ≤ q → A q) (harr : Cond.arrayClass .int ∈ wT)
    {z : Int32} (hn : ¬ z < 0) (hN : z.toNatClampNeg = n) (hbytes : n * 4 ≤ 536870912) (hcells : cells + 1 ≤ R.cells) (hslots : slots + n ≤ R.slots) (hdg : decode cc pc = .ok (.newarray .int, 2))
    (kk : ∀ (q : Nat) (H1 : Heap), va_P D vwCl (ws ++ [(q, .inl (cI, n, .inl (fun _ => 0)))]) H1 → va_D A (ws ++ [(q, .inl (cI, n, .inl (fun _ => 0)))]) → va_S A s.heap H1 locs →
      W p l e R s m args below meth c H1 locs (cells + 1) (slots + n) Q (F0 m (pc + 2) ls (.ref q :: rest))) : W p l e R s m args below meth c H locs cells slots Q (F0 m pc ls (.int z :: rest)) := by
  refine va_newa (atype := .int) (ty := .int) (a0 := (n, .inl (fun _ => 0))) hx hb (hts _ harr) rfl hk.1 hP hD hS hA (fun _ => rfl) hn hN hbytes hcells hslots hdg (fun q cA H1 hK1 hP1 hD1 hS1 => ?_)
  have h1 : va_RA s cA .int := (hK1.2 3 _ rfl).2
  have h2 : va_RA s cI .int := (hk.1.2 0 _ rfl).2
  have h3 : cA = cI := Option.some.inj (Eq.trans (Eq.symm h1) h2)
  subst h3
  exact kk q H1 hP1 hD1 hS1
theorem kx_newZ (hx : p.tables.exec = Jvm.exec) (hb : c.code = cc) (hts : ∀ w ∈ wT, w.before args s = true) (hk : KN D cI cZ cR s) {ws : va_W} (hP : va_P D vwCl ws H) (hD : va_D A ws) (hS : va_S A s.heap H locs) (hA : ∀ q : Nat, s.heap.size ≤ q → A q) (harr : Cond.arrayClass .boolean ∈ wT)
    {z : Int32} (hn : ¬ z < 0) (hN : z.toNatClampNeg = n) (hbytes : n * 1 ≤ 536870912) (hcells : cells + 1 ≤ R.cells) (hslots : slots + n ≤ R.slots) (hdg : decode cc pc = .ok (.newarray .boolean, 2))
    (kk : ∀ (q : Nat) (H1 : Heap), va_P D vwCl (ws ++ [(q, .inl (cZ, n, .inl (fun _ => 0)))]) H1 → va_D A (ws ++ [(q, .inl (cZ, n, .inl (fun _ => 0)))]) → va_S A s.heap H1 locs →
      W p l e R s m args below meth c H1 locs (cells + 1) (slots + n) Q (F0 m (pc + 2) ls (.ref q :: rest))) : W p l e R s m args below meth c H locs cells slots Q (F0 m pc ls (.int z :: rest)) := by
  refine va_newa (atype := .boolean) (ty := .boolean) (a0 := (n, .inl (fun _ => 0))) hx hb (hts _ harr) rfl hk.1 hP hD hS hA (fun _ => rfl) hn hN hbytes hcells hslots hdg (fun q cA H1 hK1 hP1 hD1 hS1 => ?_)
  have h1 : va_RA s cA .boolean := (hK1.2 3 _ rfl).2
  have h2 : va_RA s cZ .boolean := (hk.1.2 1 _ rfl).2
  have h3 : cA = cZ := Option.some.inj (Eq.trans (Eq.symm h1) h2)
  subst h3
  exact kk q H1 hP1 hD1 hS1
/-- behind new: the constructor's call; its cell is the world's last -/
theorem kx_ctorN {β : Type} {wf : β → va_W} {host : String} (hx : p.tables.exec = Jvm.exec) (hb : c.code = cc) (hml : c.maxLocals = nL) (hown : s.vm.findClass own = some m.cls) (hts : ∀ w ∈ wT, w.before args s = true) (hk : KN D cI cZ cR s) {wr : va_W} {ce : va_E} (hP : va_P D vwCl (wr ++ [(b, ce)]) H) (hD : va_D A (wr ++ [(b, ce)])) (hS : va_S A s.heap H locs) (hA : ∀ q : Nat, s.heap.size ≤ q → A q) (hsz : ls.size = nL)
    (hs : kMS y bytes maxL none 0) (hin : Cond.instanceMethod y ∈ wT) (hM : kCc l y bytes maxL rm [.ref b] D cI cZ cR [(b, ce)] H.size β wf mc ms)
    (hl : (own, index, y, host) ∈ kNest) (hy1 : y.name = "<init>") (hrc : rm.cells = mc) (hrs : rm.slots = ms) (hR : rm.frames + 1 ≤ R.frames ∧ 8 + (maxL + 11) + rm.locals ≤ R.locals)
    (hW : (rest.map fun v => v.category).sum ≤ 8) (hc : cells + mc ≤ R.cells ∧ slots + ms ≤ R.slots) (hdg : decode cc pc = .ok (.invokespecial index, 3))
    (kk : ∀ (u : β) (H1 : Heap) (locs1 : List Loc), va_P D vwCl (wr ++ wf u) H1 → va_D A (wr ++ wf u) → va_S A s.heap H1 locs1 → W p l e R s m args below meth c H1 locs1 (cells + mc) (slots + ms) Q (F0 m (pc + 3) ls rest)) : W p l e R s m args below meth c H locs cells slots Q (F0 m pc ls (.ref b :: rest)) := by
  have hp : (wr ++ [(b, ce)]).Perm ([(b, ce)] ++ wr) := List.perm_append_comm
  have hFc := kx_frP hD hS hA hp
  have hDc : va_D A [(b, ce)] := vaD_l (pD hp hD)
  have hPc : va_P D vwCl [(b, ce)] H := vaP_l (pP hp hP)
  refine va_callv (va_runIN (As := []) (rest := rest) ⟨hx, hb, hml, hown, hts⟩ hM ⟨va_cnB 0 hts (kGI hs.1) rfl hrc hrs (hk.2.1 _ hl) (hts _ hs.2.1) hs.2.2 hR, hy1, hts _ hin⟩ ⟨kPw_blind, fun U hU hW' => ⟨rfl, by rw [hU], hk.moved hW', by rw [hU]; exact hPc, hDc.weaken (fun _ _ _ _ => trivial)⟩⟩ rfl rfl hsz rfl (lv_room hW) hdg hc) hS (fun q _ h => hFc q h) hFc (fun u t H1 locs1 ht hvm hw hB hz1 hk1 hS1 => ?_)
  obtain ⟨hP1, hD1⟩ := hB
  rw [ht] at hP1
  obtain ⟨g1, g2⟩ := kx_joinP (wn := wr ++ wf u) hP hD hp hFc hk1 hP1 hD1 List.perm_append_comm
  exact kk u H1 locs1 g1 g2 hS1
theorem kx_ctor {β : Type} {wf : β → va_W} (hx : p.tables.exec = Jvm.exec) (hb : c.code = cc) (hml : c.maxLocals = nL) (hown : s.vm.findClass own = some m.cls) (hts : ∀ w ∈ wT, w.before args s = true) (hk : KN D cI cZ cR s) {wr : va_W} {ce : va_E} (hP : va_P D vwCl (wr ++ [(b, ce)]) H) (hD : va_D A (wr ++ [(b, ce)])) (hS : va_S A s.heap H locs) (hA : ∀ q : Nat, s.heap.size ≤ q → A q) (hsz : ls.size = nL)
    (hs : kMS y bytes maxL none 0) (hin : Cond.instanceMethod y ∈ wT) (hM : kCc l y bytes maxL rm [.ref b] D cI cZ cR [(b, ce)] H.size β wf mc ms)
    (hl : Cond.methodLink own index y ∈ wT) (hy1 : y.name = "<init>") (hrc : rm.cells = mc) (hrs : rm.slots = ms) (hR : rm.frames + 1 ≤ R.frames ∧ 8 + (maxL + 11) + rm.locals ≤ R.locals)
    (hW : (rest.map fun v => v.category).sum ≤ 8) (hc : cells + mc ≤ R.cells ∧ slots + ms ≤ R.slots) (hdg : decode cc pc = .ok (.invokespecial index, 3))
    (kk : ∀ (u : β) (H1 : Heap) (locs1 : List Loc), va_P D vwCl (wr ++ wf u) H1 → va_D A (wr ++ wf u) → va_S A s.heap H1 locs1 → W p l e R s m args below meth c H1 locs1 (cells + mc) (slots + ms) Q (F0 m (pc + 3) ls rest)) : W p l e R s m args below meth c H locs cells slots Q (F0 m pc ls (.ref b :: rest)) := by
  have hp : (wr ++ [(b, ce)]).Perm ([(b, ce)] ++ wr) := List.perm_append_comm
  have hFc := kx_frP hD hS hA hp
  have hDc : va_D A [(b, ce)] := vaD_l (pD hp hD)
  have hPc : va_P D vwCl [(b, ce)] H := vaP_l (pP hp hP)
  refine va_callv (va_runI (As := []) (rest := rest) ⟨hx, hb, hml, hown, hts⟩ hM ⟨kCB hts hs hl hrc hrs hR, hy1, hts _ hin⟩ ⟨kPw_blind, fun U hU hW' => ⟨rfl, by rw [hU], hk.moved hW', by rw [hU]; exact hPc, hDc.weaken (fun _ _ _ _ => trivial)⟩⟩ rfl rfl hsz rfl (lv_room hW) hdg hc) hS (fun q _ h => hFc q h) hFc (fun u t H1 locs1 ht hvm hw hB hz1 hk1 hS1 => ?_)
  obtain ⟨hP1, hD1⟩ := hB
  rw [ht] at hP1
  obtain ⟨g1, g2⟩ := kx_joinP (wn := wr ++ wf u) hP hD hp hFc hk1 hP1 hD1 List.perm_append_comm
  exact kk u H1 locs1 g1 g2 hS1
end KD
