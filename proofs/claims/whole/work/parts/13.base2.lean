/-! worlds with a tail (the ring of webs), by permutations -/
theorem pP {D : va_G} {cl : List vw_C} {ws ws' : va_W} {H : Heap} (h : ws.Perm ws') (hP : va_P D cl ws H) : va_P D cl ws' H := by
  intro k q hq
  have h1 : q ∈ ws := h.mem_iff.mpr (List.mem_of_getElem? hq)
  obtain ⟨i, hi⟩ := List.getElem?_of_mem h1
  exact hP i q hi
theorem vaD_nd {A : Nat → Prop} {ws : va_W} (h : va_D A ws) : (ws.map Prod.fst).Nodup := by
  rw [List.Nodup, List.pairwise_iff_getElem]
  intro i j hi hj hij he
  rw [List.length_map] at hi hj
  have h1 : ws[i]? = some ws[i] := List.getElem?_eq_getElem hi
  have h2 : ws[j]? = some ws[j] := List.getElem?_eq_getElem hj
  have h3 := h.1 i j _ _ h1 h2 (by simpa using he)
  omega
theorem vaD_of {A : Nat → Prop} {ws : va_W} (h : (ws.map Prod.fst).Nodup) (hA : ∀ q ∈ ws, A q.1) : va_D A ws := by
  rw [List.Nodup, List.pairwise_iff_getElem] at h
  refine ⟨fun i j p q hi hj hpq => ?_, fun k q hk => hA q (List.mem_of_getElem? hk)⟩
  obtain ⟨li, e1⟩ := List.getElem?_eq_some_iff.mp hi
  obtain ⟨lj, e2⟩ := List.getElem?_eq_some_iff.mp hj
  rcases Nat.lt_trichotomy i j with g | g | g
  · have hne := h i j (by simpa using li) (by simpa using lj) g
    rw [List.getElem_map, List.getElem_map, e1, e2] at hne
    exact absurd hpq hne
  · exact g
  · have hne := h j i (by simpa using lj) (by simpa using li) g
    rw [List.getElem_map, List.getElem_map, e1, e2] at hne
    exact absurd hpq.symm hne
theorem vaD_mem {A : Nat → Prop} {ws : va_W} (h : va_D A ws) {q : Nat × va_E} (hq : q ∈ ws) : A q.1 := by
  obtain ⟨i, hi⟩ := List.getElem?_of_mem hq
  exact h.2 i q hi
theorem pD {A : Nat → Prop} {ws ws' : va_W} (h : ws.Perm ws') (hD : va_D A ws) : va_D A ws' :=
  vaD_of ((h.map Prod.fst).nodup_iff.mp (vaD_nd hD)) (fun _ hq => vaD_mem hD (h.mem_iff.mpr hq))
theorem vaP_mem {D : va_G} {cl : List vw_C} {ws : va_W} {H : Heap} (h : va_P D cl ws H) {q : Nat × va_E} (hq : q ∈ ws) : va_at D cl q H := by
  obtain ⟨i, hi⟩ := List.getElem?_of_mem hq
  exact h i q hi
theorem vaP_l {D : va_G} {cl : List vw_C} {w1 w2 : va_W} {H : Heap} (h : va_P D cl (w1 ++ w2) H) : va_P D cl w1 H := fun _ _ hq => vaP_mem h (List.mem_append_left _ (List.mem_of_getElem? hq))
theorem vaP_r {D : va_G} {cl : List vw_C} {w1 w2 : va_W} {H : Heap} (h : va_P D cl (w1 ++ w2) H) : va_P D cl w2 H := fun _ _ hq => vaP_mem h (List.mem_append_right _ (List.mem_of_getElem? hq))
theorem vaD_l {A : Nat → Prop} {w1 w2 : va_W} (h : va_D A (w1 ++ w2)) : va_D A w1 := by
  have h1 := vaD_nd h
  rw [List.map_append] at h1
  exact vaD_of (List.nodup_append.mp h1).1 (fun q hq => vaD_mem h (List.mem_append_left _ hq))
theorem vaD_r {A : Nat → Prop} {w1 w2 : va_W} (h : va_D A (w1 ++ w2)) : va_D A w2 := by
  have h1 := vaD_nd h
  rw [List.map_append] at h1
  exact vaD_of (List.nodup_append.mp h1).2.1 (fun q hq => vaD_mem h (List.mem_append_right _ hq))
theorem vaD_x {A : Nat → Prop} {w1 w2 : va_W} (h : va_D A (w1 ++ w2)) {p q : Nat × va_E} (hp : p ∈ w1) (hq : q ∈ w2) : p.1 ≠ q.1 := by
  have h1 := vaD_nd h
  rw [List.map_append] at h1
  exact (List.nodup_append.mp h1).2.2 _ (List.mem_map_of_mem hp) _ (List.mem_map_of_mem hq)
theorem vaA_mem {ws : va_W} {sz : Nat} {q : Nat × va_E} (h : q ∈ ws) : va_A ws sz q.1 := by
  obtain ⟨i, hi⟩ := List.getElem?_of_mem h
  exact Or.inl ⟨i, q.2, hi⟩
/-- behind a call: the callee's new world beside the rest -/
theorem kx_joinP {D : va_G} {A : Nat → Prop} {ws wc wr w1 wn : va_W} {H H1 : Heap} (hP : va_P D vwCl ws H) (hD : va_D A ws) (hp : ws.Perm (wc ++ wr)) (hF : ∀ q, va_A wc H.size q → A q)
    (hk : ∀ q : Nat, q < H.size → ¬ va_A wc H.size q → H1[q]? = H[q]?) (hP1 : va_P D vwCl w1 H1) (hD1 : va_D (va_A wc H.size) w1) (hq : (w1 ++ wr).Perm wn) : va_P D vwCl wn H1 ∧ va_D A wn := by
  have hP' := pP hp hP
  have hD' := pD hp hD
  have out : ∀ q ∈ wr, q.1 < H.size ∧ ¬ va_A wc H.size q.1 := by
    intro q hq
    have hl := (vaP_mem hP' (List.mem_append_right _ hq)).lt
    refine ⟨hl, fun h => ?_⟩
    rcases h with ⟨k, e, h⟩ | h
    · exact vaD_x hD' (List.mem_of_getElem? h) hq rfl
    · omega
  refine ⟨pP hq (hP1.app fun k q hk' => ?_), pD hq (va_D.app (hD1.weaken fun k q _ h => hF q.1 h) (vaD_r hD') fun i j p q hi hj he => ?_)⟩
  · have hm := List.mem_of_getElem? hk'
    exact (vaP_mem hP' (List.mem_append_right _ hm)).kept (hk q.1 (out q hm).1 (out q hm).2)
  · exact (out q (List.mem_of_getElem? hj)).2 (by rw [← he]; exact hD1.2 i p hi)
theorem pmx {we wx : va_W} (n : Nat) (is : List Nat) (hn : we.length = n) (h1 : is.Perm (List.range n)) (h2 : is.map (fun i => we[i]?) = wx.map some) : we.Perm wx := by
  subst hn
  have h3 : (List.range we.length).map (fun i => we[i]?) = we.map some := by
    apply List.ext_getElem?
    intro k
    simp only [List.getElem?_map]
    by_cases hk : k < we.length
    · simp [List.getElem?_range hk, List.getElem?_eq_getElem hk]
    · rw [List.getElem?_eq_none (by simpa using hk), List.getElem?_eq_none (by simpa using hk)]
      rfl
  have h4 : (we.map some).Perm (wx.map some) := by
    rw [← h3, ← h2]
    exact (h1.map _).symm
  have h5 := h4.filterMap id
  simpa [List.filterMap_map] using h5
theorem pmT {we wc wr T : va_W} (h : we.Perm (wc ++ wr)) : (we ++ T).Perm (wc ++ (wr ++ T)) := by
  rw [← List.append_assoc]
  exact h.append_right T
theorem pmU {we wc wr T : va_W} (h : we.Perm (wc ++ wr)) : (we ++ T).Perm ((wc ++ T) ++ wr) := by
  refine (h.append_right T).trans ?_
  rw [List.append_assoc, List.append_assoc]
  exact List.Perm.append_left wc List.perm_append_comm
theorem pmT' {w1 wr wn T : va_W} (h : (w1 ++ wr).Perm wn) : (w1 ++ (wr ++ T)).Perm (wn ++ T) := by
  rw [← List.append_assoc]
  exact h.append_right T
theorem pmU' {w1 wr wn T : va_W} (h : (w1 ++ wr).Perm wn) : ((w1 ++ T) ++ wr).Perm (wn ++ T) := by
  refine List.Perm.trans ?_ (h.append_right T)
  rw [List.append_assoc, List.append_assoc]
  exact List.Perm.append_left w1 List.perm_append_comm
section KC
variable {p : Program} {l : Launch} {e : Env} {R : Room} {s : State} {m : MethodId} {args : Array Value} {below : List Frame} {meth : Method} {c : Code} {H : Heap} {locs : List Loc} {cells slots : Nat} {Q : State → Prop}
variable {D : va_G} {cI cZ cR : ClassId} {cc bytes : ByteArray} {nL maxL index n pc : Nat} {own : String} {y : MethodName} {ret : Option FieldType} {rm : Room} {b : Nat} {As rest : List Value} {ls : Array Slot} {wc wd : va_W} {r v : Int32} {A : Nat → Prop} {sz : Nat}
theorem kx_frP {ws wr : va_W} (hD : va_D A ws) (hS : va_S A s.heap H locs) (hA : ∀ q : Nat, s.heap.size ≤ q → A q) (hp : ws.Perm (wc ++ wr)) : ∀ q, va_A wc H.size q → A q := by
  intro q h
  rcases h with ⟨k, e, h⟩ | h
  · exact vaD_mem (pD hp hD) (List.mem_append_left _ (List.mem_of_getElem? h))
  · exact hA q (Nat.le_trans hS.1 h)
theorem kx_wiT (hx : p.tables.exec = Jvm.exec) (hb : c.code = cc) (hml : c.maxLocals = nL) (hown : s.vm.findClass own = some m.cls) (hts : ∀ w ∈ wT, w.before args s = true) (hk : KN D cI cZ cR s) {ws wr wn : va_W} (hP : va_P D vwCl ws H) (hD : va_D A ws) (hS : va_S A s.heap H locs) (hA : ∀ q : Nat, s.heap.size ≤ q → A q) (hsz : ls.size = nL)
    (hs : kMS y bytes maxL ret n) (hv : kMV y) (hM : kCi l y bytes maxL ret rm (.ref b :: As) D cI cZ cR wc H.size wd r)
    (hl : Cond.methodLink own index y ∈ wT) (hrc : rm.cells = 0) (hrs : rm.slots = 0) (hR : rm.frames + 1 ≤ R.frames ∧ 8 + (maxL + 11) + rm.locals ≤ R.locals)
    (hp : ws.Perm (wc ++ wr)) (hq : (wd ++ wr).Perm wn)
    {ci q0 N : Nat} {T : u_T} {fs : List Value} (hcl : vwCl[ci]? = some (y.cls, T, N)) (he : wc[q0]? = some (b, .inr (ci, fs))) (hn : As.length = n) (hW : (rest.map fun v => v.category).sum ≤ 8) (hc : cells ≤ R.cells ∧ slots ≤ R.slots) (hdg : decode cc pc = .ok (.invokevirtual index, 3))
    (kk : ∀ (H1 : Heap) (locs1 : List Loc), va_P D vwCl wn H1 → va_D A wn → va_S A s.heap H1 locs1 → W p l e R s m args below meth c H1 locs1 cells slots Q (F0 m (pc + 3) ls (.int r :: rest))) : W p l e R s m args below meth c H locs cells slots Q (F0 m pc ls (As.reverse ++ .ref b :: rest)) := by
  have hFc := kx_frP hD hS hA hp
  have hDc : va_D A wc := vaD_l (pD hp hD)
  have hPc : va_P D vwCl wc H := vaP_l (pP hp hP)
  refine va_calli (va_runV (As := As) (rest := rest) ⟨hx, hb, hml, hown, hts⟩ hM (kCW hts hs hv hl hrc hrs hR) ⟨kPw_blind, va_recv hk.1 hPc hcl he, fun U hU hW' => ⟨rfl, by rw [hU], hk.moved hW', by rw [hU]; exact hPc, hDc.weaken (fun _ _ _ _ => trivial)⟩⟩ rfl hn hsz rfl (lv_room hW) hdg hc) hS (fun q _ h => hFc q h) hFc (fun q u t H1 locs1 ht hvm hw hB hz1 hk1 hS1 => ?_)
  obtain ⟨hP1, hD1⟩ := hB
  rw [ht] at hP1
  obtain ⟨g1, g2⟩ := kx_joinP (wn := wn) hP hD hp hFc hk1 hP1 hD1 hq
  rw [hw]
  exact kk H1 locs1 g1 g2 hS1
theorem kx_wvT (hx : p.tables.exec = Jvm.exec) (hb : c.code = cc) (hml : c.maxLocals = nL) (hown : s.vm.findClass own = some m.cls) (hts : ∀ w ∈ wT, w.before args s = true) (hk : KN D cI cZ cR s) {ws wr wn : va_W} (hP : va_P D vwCl ws H) (hD : va_D A ws) (hS : va_S A s.heap H locs) (hA : ∀ q : Nat, s.heap.size ≤ q → A q) (hsz : ls.size = nL)
    (hs : kMS y bytes maxL ret n) (hv : kMV y) (hM : kCv l y bytes maxL ret rm (.ref b :: As) D cI cZ cR wc H.size wd)
    (hl : Cond.methodLink own index y ∈ wT) (hrc : rm.cells = 0) (hrs : rm.slots = 0) (hR : rm.frames + 1 ≤ R.frames ∧ 8 + (maxL + 11) + rm.locals ≤ R.locals)
    (hp : ws.Perm (wc ++ wr)) (hq : (wd ++ wr).Perm wn)
    {ci q0 N : Nat} {T : u_T} {fs : List Value} (hcl : vwCl[ci]? = some (y.cls, T, N)) (he : wc[q0]? = some (b, .inr (ci, fs))) (hn : As.length = n) (hW : (rest.map fun v => v.category).sum ≤ 8) (hc : cells ≤ R.cells ∧ slots ≤ R.slots) (hdg : decode cc pc = .ok (.invokevirtual index, 3))
    (kk : ∀ (H1 : Heap) (locs1 : List Loc), va_P D vwCl wn H1 → va_D A wn → va_S A s.heap H1 locs1 → W p l e R s m args below meth c H1 locs1 cells slots Q (F0 m (pc + 3) ls rest)) : W p l e R s m args below meth c H locs cells slots Q (F0 m pc ls (As.reverse ++ .ref b :: rest)) := by
  have hFc := kx_frP hD hS hA hp
  have hDc : va_D A wc := vaD_l (pD hp hD)
  have hPc : va_P D vwCl wc H := vaP_l (pP hp hP)
  refine va_callv (va_runV (As := As) (rest := rest) ⟨hx, hb, hml, hown, hts⟩ hM (kCW hts hs hv hl hrc hrs hR) ⟨kPw_blind, va_recv hk.1 hPc hcl he, fun U hU hW' => ⟨rfl, by rw [hU], hk.moved hW', by rw [hU]; exact hPc, hDc.weaken (fun _ _ _ _ => trivial)⟩⟩ rfl hn hsz rfl (lv_room hW) hdg hc) hS (fun q _ h => hFc q h) hFc (fun u t H1 locs1 ht hvm hw hB hz1 hk1 hS1 => ?_)
  obtain ⟨hP1, hD1⟩ := hB
  rw [ht] at hP1
  obtain ⟨g1, g2⟩ := kx_joinP (wn := wn) hP hD hp hFc hk1 hP1 hD1 hq
  exact kk H1 locs1 g1 g2 hS1
end KC
abbrev cFF (a w p i j b k t g : Nat) (f : Ob) : va_W := [(a, .inr (6, [.ref w, .ref p, .ref i, .ref j, .ref b, .ref k, .ref t, .ref g, .int (f 0 0)]))]
abbrev cPst (a rr : Nat) (f : Ob) : va_W := [(a, .inr (3, [.int (f 0 0), .int (f 0 1), .ref rr]))]
abbrev cImg (a v : Nat) (f : Ob) : va_W := [(a, .inr (1, [.ref v, .int (f 0 0), .int (f 0 1)]))]
abbrev cWebR (cI : ClassId) (a : Nat → Nat) (w : Ob) : va_W := cWeb cI (a 0) (a 1) (a 2) (a 3) (a 4) (a 5) (a 6) (a 7) (a 8) (a 9) w
def rgW (cI : ClassId) (ra : Nat → Nat → Nat) (rg : Nat → Ob) : Nat → va_W
  | 0 => []
  | n + 1 => rgW cI ra rg n ++ cWebR cI (ra n) (rg n)
def cRing (cI cR : ClassId) (rr : Nat) (ra : Nat → Nat → Nat) (rg : Nat → Ob) : va_W := (rr, .inl (cR, 16, .inr (.inr (.inr (.inr (fun j => some (ra j 0))))))) :: rgW cI ra rg 16
theorem rgW_up {cI : ClassId} {ra : Nat → Nat → Nat} {rg : Nat → Ob} {j : Nat} {w : Ob} : ∀ n, n ≤ j → rgW cI ra (va_up rg j w) n = rgW cI ra rg n
  | 0, _ => rfl
  | n + 1, h => by
    show rgW cI ra (va_up rg j w) n ++ cWebR cI (ra n) (va_up rg j w n) = rgW cI ra rg n ++ cWebR cI (ra n) (rg n)
    rw [rgW_up n (by omega), show va_up rg j w n = rg n from if_neg (by omega)]
/-- one web of the ring beside the others, which do not see it change -/
theorem rgW_split {cI : ClassId} {ra : Nat → Nat → Nat} {rg : Nat → Ob} {j : Nat} : ∀ n, j < n → ∃ oth : va_W, ∀ w : Ob, (rgW cI ra (va_up rg j w) n).Perm (cWebR cI (ra j) w ++ oth)
  | 0, h => absurd h (by omega)
  | n + 1, h => by
    by_cases hj : j = n
    · subst hj
      refine ⟨rgW cI ra rg j, fun w => ?_⟩
      show (rgW cI ra (va_up rg j w) j ++ cWebR cI (ra j) (va_up rg j w j)).Perm _
      rw [rgW_up j (Nat.le_refl j), show va_up rg j w j = w from if_pos rfl]
      exact List.perm_append_comm
    · obtain ⟨oth, ho⟩ := rgW_split n (show j < n by omega)
      refine ⟨oth ++ cWebR cI (ra n) (rg n), fun w => ?_⟩
      show (rgW cI ra (va_up rg j w) n ++ cWebR cI (ra n) (va_up rg j w n)).Perm _
      rw [show va_up rg j w n = rg n from if_neg (fun q => hj q.symm), ← List.append_assoc]
      exact (ho w).append_right _
theorem kup_self {rg : Nat → Ob} {j : Nat} : va_up rg j (rg j) = rg := by
  funext k
  unfold va_up
  by_cases h : k = j
  · rw [if_pos h, h]
  · rw [if_neg h]
