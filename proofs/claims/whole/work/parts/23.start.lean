theorem pm_law (c w p i v j x b k t g R M : va_W) : (((c ++ (w ++ (p ++ (i ++ (v ++ (j ++ (x ++ (b ++ (k ++ (t ++ g)))))))))) ++ R) ++ M).Perm ((c ++ (w ++ (p ++ (i ++ (v ++ (j ++ (x ++ (b ++ (k ++ (t ++ (g ++ M))))))))))) ++ R) := by
  have h1 : ((c ++ (w ++ (p ++ (i ++ (v ++ (j ++ (x ++ (b ++ (k ++ (t ++ g)))))))))) ++ R) ++ M = (c ++ (w ++ (p ++ (i ++ (v ++ (j ++ (x ++ (b ++ (k ++ (t ++ g)))))))))) ++ (R ++ M) := by simp only [List.append_assoc]
  have h2 : (c ++ (w ++ (p ++ (i ++ (v ++ (j ++ (x ++ (b ++ (k ++ (t ++ (g ++ M))))))))))) ++ R = (c ++ (w ++ (p ++ (i ++ (v ++ (j ++ (x ++ (b ++ (k ++ (t ++ g)))))))))) ++ (M ++ R) := by simp only [List.append_assoc]
  rw [h1, h2]
  exact List.Perm.append_left _ List.perm_append_comm
theorem dfX6 : ∀ j, j < 9 → defaultValue (tyX6 j) = vp_V [.null, .null, .null, .null, .null, .null, .null, .null, .int 0] j := by
  intro j hj
  rcases (show j = 0 ∨ j = 1 ∨ j = 2 ∨ j = 3 ∨ j = 4 ∨ j = 5 ∨ j = 6 ∨ j = 7 ∨ j = 8 by omega) with rfl | rfl | rfl | rfl | rfl | rfl | rfl | rfl | rfl <;> rfl
theorem dfX7 : ∀ j, j < 17 → defaultValue (tyX7 j) = vp_V [.null, .null, .int 0, .null, .null, .int 0, .null, .int 0, .null, .null, .null, .int 0, .int 0, .int 0, .int 0, .null, .int 0] j := by
  intro j hj
  rcases (show j = 0 ∨ j = 1 ∨ j = 2 ∨ j = 3 ∨ j = 4 ∨ j = 5 ∨ j = 6 ∨ j = 7 ∨ j = 8 ∨ j = 9 ∨ j = 10 ∨ j = 11 ∨ j = 12 ∨ j = 13 ∨ j = 14 ∨ j = 15 ∨ j = 16 by omega) with rfl | rfl | rfl | rfl | rfl | rfl | rfl | rfl | rfl | rfl | rfl | rfl | rfl | rfl | rfl | rfl | rfl <;> rfl
theorem nest_in : ∀ q ∈ kNest, Cond.methodLinkNest q.1 q.2.1 q.2.2.1 q.2.2.2 ∈ lw_tbl := by
  have h : kNest.map (fun q => Cond.methodLinkNest q.1 q.2.1 q.2.2.1 q.2.2.2) = [71, 139, 153, 158, 172, 189, 206, 320, 323].filterMap (fun i => lw_tbl[i]?) := by decide +kernel
  intro q hq
  have h1 := List.mem_map_of_mem (f := fun q => Cond.methodLinkNest q.1 q.2.1 q.2.2.1 q.2.2.2) hq
  rw [h] at h1
  obtain ⟨i, -, hi⟩ := List.mem_filterMap.mp h1
  exact List.mem_of_getElem? hi
theorem over_in : Cond.arrayOver (.object RX4) ∈ lw_tbl := List.mem_of_getElem? (i := 138) (by decide +kernel)
set_option maxHeartbeats 4000000 in
set_option maxRecDepth 100000 in
theorem whole_open {p : Program} {e : Env} {s : State} {m : MethodId} {below : List Frame} {meth : Method} {c : Code} (l : Launch) {b L : Nat} {xs : Nat → Int32} (C0 : lw_At p s m meth c b L xs) (w0 z0 : Ob) (hw0 : f_becomeNew O0 0 4 4 = some w0) (hz0 : f_m_builds O0 0 4 4 = some z0) (hf : f_law L xs O0 w0 O0 O0 O0 O0 O0 O0 O0 O0 O0 z0 (fun _ => O0) = some 1) : W p l e room_1 s m #[Value.ref b] below meth c s.heap [] 0 0 (lw_Z below #[Value.ref b] s) (entryFrame m ([Value.ref b] : List Value).toArray 4) := by
  obtain ⟨hx, hb, hr, hml, hown, hts0, hX, hbl, hlocks, hgv⟩ := C0
  have hown : s.vm.findClass RL = some m.cls := hown
  have hb : c.code = cL_law := hb
  have hts : ∀ w ∈ wT, w.before #[Value.ref b] s = true := fun w hw => hts0 w (List.mem_filter.mp hw).1
  obtain ⟨A, hAe⟩ : ∃ A : Nat → Prop, A = fun q => s.heap.size ≤ q := ⟨_, rfl⟩
  have hA : ∀ q : Nat, s.heap.size ≤ q → A q := fun q h => by rw [hAe]; exact h
  obtain ⟨k0, j0, hKn0⟩ := u_known (C := RX0) (T := TX0) (N := 3) (n := 3) hts inT0 (hts _ mT_171)
  obtain ⟨k1, j1, hKn1⟩ := u_known (C := RX1) (T := TX1) (N := 3) (n := 3) hts inT1 (hts _ mT_152)
  obtain ⟨k2, j2, hKn2⟩ := u_known (C := RX2) (T := TX2) (N := 1) (n := 1) hts inT2 (hts _ mT_205)
  obtain ⟨k3, j3, hKn3⟩ := u_known (C := RX3) (T := TX3) (N := 3) (n := 3) hts inT3 (hts _ mT_132)
  obtain ⟨k4, j4, hKn4⟩ := u_known (C := RX4) (T := TX4) (N := 12) (n := 12) hts inT4 (hts _ mT_70)
  obtain ⟨k5, j5, hKn5⟩ := u_known (C := RX5) (T := TX5) (N := 3) (n := 3) hts inT5 (hts _ mT_188)
  obtain ⟨k6, j6, hKn6⟩ := u_known (C := RX6) (T := TX6) (N := 9) (n := 9) hts inT6 (hts _ mT_62)
  obtain ⟨k7, j7, hKn7⟩ := u_known (C := RX7) (T := TX7) (N := 17) (n := 17) hts inT7 (hts _ mT_557)
  obtain ⟨D, hKc⟩ : ∃ D : va_G, ∀ (k : Nat) (q : vw_C), vwCl[k]? = some q → u_Kn s q.1 q.2.1 q.2.2 (D.1 k) (D.2 k) := by
    refine ⟨(fun k => [k0, k1, k2, k3, k4, k5, k6, k7].getD k k0, fun k => [j0, j1, j2, j3, j4, j5, j6, j7].getD k j0), ?_⟩
    intro k q hq
    match k, hq with
    | 0, hq => cases hq; exact hKn0
    | 1, hq => cases hq; exact hKn1
    | 2, hq => cases hq; exact hKn2
    | 3, hq => cases hq; exact hKn3
    | 4, hq => cases hq; exact hKn4
    | 5, hq => cases hq; exact hKn5
    | 6, hq => cases hq; exact hKn6
    | 7, hq => cases hq; exact hKn7
    | k + 8, hq => simp [vwCl] at hq
  obtain ⟨cI, kI, eI, hI1, hI2, hI3⟩ := Cond.arrayClass_spec (hts _ mT_130)
  obtain ⟨cZ, kZ, eZ, hZ1, hZ2, hZ3⟩ := Cond.arrayClass_spec (hts _ mT_618)
  obtain ⟨eR, cR, kR, hR1, hR2, hR3, hR4, hR5⟩ := Cond.arrayOver_spec (hts0 _ over_in)
  have hk : KN D cI cZ cR s := by
    refine ⟨⟨hKc, fun k q h => ?_⟩, fun q hq => va_Nw.of rfl (hts0 _ (nest_in q hq)), va_AO.of (hts0 _ over_in)⟩
    match k, h with
    | 0, h => cases h; exact ⟨fun n z => ⟨fun k h => (by cases h), kI, hI2, eI, hI3⟩, hI1⟩
    | 1, h => cases h; exact ⟨fun n z => ⟨fun k h => (by cases h), kZ, hZ2, eZ, hZ3⟩, hZ1⟩
    | 2, h => cases h; exact ⟨fun n z => ⟨fun k h => (by cases h), kR, hR3, eR, hR4⟩, kR, eR, hR3, hR4, hR1, hR5⟩
    | k + 3, h => simp [kTy] at h
  have hK := hk.1
  have hS : va_S A s.heap s.heap [] := va_S.rf
  have hP : va_P D vwCl [] s.heap := fun k q h => by simp at h
  have hD : va_D A [] := ⟨fun i j p q h => by simp at h, fun k q h => by simp at h⟩
  have hl := lv_entry ([.ref b]) (n := 4) (Nat.le_of_ble_eq_true rfl)
  rw [lg_entry_eq]
  generalize (lg_sl ([.ref b]) ++ List.replicate (4 - (lg_sl ([.ref b])).length) Slot.unset).toArray = ls at hl ⊢
  have hl : lv_has ls 4 [(0, .ref b)] := hl
  refine va_new (ci := 6) (fs := [.null, .null, .null, .null, .null, .null, .null, .null, .int 0]) (C := RX6) (T := TX6) (N := 9) hx hb hts inT6 tyX6 tyX6_ok hown (hts _ mT_61) (hts _ mT_62) (hts _ mT_51) hK hP hD hS hA rfl dfX6 (Nat.le_of_ble_eq_true rfl) (Nat.le_of_ble_eq_true rfl) dL_law_0 (fun q0 H hP hD hS => ?_)
  refine W.widen (k := 1) (n := 9) (Nat.le_of_ble_eq_true rfl) (Nat.le_of_ble_eq_true rfl) ?_
  have hP : va_P D vwCl ([] ++ [(q0, .inr (6, [.null, .null, .null, .null, .null, .null, .null, .null, .int 0]))]) H := hP
  have hD : va_D A ([] ++ [(q0, .inr (6, [.null, .null, .null, .null, .null, .null, .null, .null, .int 0]))]) := hD
  refine lv_dup hx hb dL_law_3 rfl ?_
  refine kx_ctor (wr := []) (rest := [.ref q0]) hx hb hml hown hts hk hP hD hS hA hl.1 s_yX6_init mT_64 (c_FF_init l D cI cZ cR q0 w0 hw0 H.size) mT_63 rfl rfl rfl ⟨Nat.le_of_ble_eq_true rfl, Nat.le_of_ble_eq_true rfl⟩ (Nat.le_of_ble_eq_true rfl) ⟨Nat.le_of_ble_eq_true rfl, Nat.le_of_ble_eq_true rfl⟩ dL_law_4 (fun u0 H locs hP hD hS => ?_)
  have hP : va_P D vwCl ((cFF q0 (u0.1 0 0) (u0.1 1 0) (u0.1 2 0) (u0.1 3 0) (u0.1 4 0) (u0.1 5 0) (u0.1 6 0) (u0.1 7 0) O0 ++ (cWeb cI (u0.1 0 0) (u0.1 0 1) (u0.1 0 2) (u0.1 0 3) (u0.1 0 4) (u0.1 0 5) (u0.1 0 6) (u0.1 0 7) (u0.1 0 8) (u0.1 0 9) w0 ++ (cPst (u0.1 1 0) (u0.1 1 1) O0 ++ (cImg (u0.1 2 0) (u0.1 2 1) O0 ++ (cWeb cI (u0.1 2 1) (u0.1 2 2) (u0.1 2 3) (u0.1 2 4) (u0.1 2 5) (u0.1 2 6) (u0.1 2 7) (u0.1 2 8) (u0.1 2 9) (u0.1 2 10) O0 ++ (cImg (u0.1 3 0) (u0.1 3 1) O0 ++ (cWeb cI (u0.1 3 1) (u0.1 3 2) (u0.1 3 3) (u0.1 3 4) (u0.1 3 5) (u0.1 3 6) (u0.1 3 7) (u0.1 3 8) (u0.1 3 9) (u0.1 3 10) O0 ++ (cBook cI (u0.1 4 0) (u0.1 4 1) (u0.1 4 2) O0 ++ (cWork cI (u0.1 5 0) (u0.1 5 1) (u0.1 5 2) O0 ++ (cWork cI (u0.1 6 0) (u0.1 6 1) (u0.1 6 2) O0 ++ (cJudge cI (u0.1 7 0) (u0.1 7 1) O0))))))))))) ++ cRing cI cR (u0.1 1 1) u0.2 (fun _ => O0)) H := hP
  have hD : va_D A ((cFF q0 (u0.1 0 0) (u0.1 1 0) (u0.1 2 0) (u0.1 3 0) (u0.1 4 0) (u0.1 5 0) (u0.1 6 0) (u0.1 7 0) O0 ++ (cWeb cI (u0.1 0 0) (u0.1 0 1) (u0.1 0 2) (u0.1 0 3) (u0.1 0 4) (u0.1 0 5) (u0.1 0 6) (u0.1 0 7) (u0.1 0 8) (u0.1 0 9) w0 ++ (cPst (u0.1 1 0) (u0.1 1 1) O0 ++ (cImg (u0.1 2 0) (u0.1 2 1) O0 ++ (cWeb cI (u0.1 2 1) (u0.1 2 2) (u0.1 2 3) (u0.1 2 4) (u0.1 2 5) (u0.1 2 6) (u0.1 2 7) (u0.1 2 8) (u0.1 2 9) (u0.1 2 10) O0 ++ (cImg (u0.1 3 0) (u0.1 3 1) O0 ++ (cWeb cI (u0.1 3 1) (u0.1 3 2) (u0.1 3 3) (u0.1 3 4) (u0.1 3 5) (u0.1 3 6) (u0.1 3 7) (u0.1 3 8) (u0.1 3 9) (u0.1 3 10) O0 ++ (cBook cI (u0.1 4 0) (u0.1 4 1) (u0.1 4 2) O0 ++ (cWork cI (u0.1 5 0) (u0.1 5 1) (u0.1 5 2) O0 ++ (cWork cI (u0.1 6 0) (u0.1 6 1) (u0.1 6 2) O0 ++ (cJudge cI (u0.1 7 0) (u0.1 7 1) O0))))))))))) ++ cRing cI cR (u0.1 1 1) u0.2 (fun _ => O0)) := hD
  refine W.widen (k := 206) (n := 6898) (Nat.le_of_ble_eq_true rfl) (Nat.le_of_ble_eq_true rfl) ?_
  refine lv_astore_n (lv' := [(1, .ref q0), (0, .ref b)]) hx hb dL_law_7 rfl hl (by decide) rfl (fun ls hl => ?_)
  refine va_new (ci := 7) (fs := [.null, .null, .int 0, .null, .null, .int 0, .null, .int 0, .null, .null, .null, .int 0, .int 0, .int 0, .int 0, .null, .int 0]) (C := RX7) (T := TX7) (N := 17) hx hb hts inT7 tyX7 tyX7_ok hown (hts _ mT_556) (hts _ mT_557) (hts _ mT_59) hK hP hD hS hA rfl dfX7 (Nat.le_of_ble_eq_true rfl) (Nat.le_of_ble_eq_true rfl) dL_law_8 (fun q8 H hP hD hS => ?_)
  refine W.widen (k := 207) (n := 6915) (Nat.le_of_ble_eq_true rfl) (Nat.le_of_ble_eq_true rfl) ?_
  refine lv_dup hx hb dL_law_11 rfl ?_
  refine kx_ctor (wr := (cFF q0 (u0.1 0 0) (u0.1 1 0) (u0.1 2 0) (u0.1 3 0) (u0.1 4 0) (u0.1 5 0) (u0.1 6 0) (u0.1 7 0) O0 ++ (cWeb cI (u0.1 0 0) (u0.1 0 1) (u0.1 0 2) (u0.1 0 3) (u0.1 0 4) (u0.1 0 5) (u0.1 0 6) (u0.1 0 7) (u0.1 0 8) (u0.1 0 9) w0 ++ (cPst (u0.1 1 0) (u0.1 1 1) O0 ++ (cImg (u0.1 2 0) (u0.1 2 1) O0 ++ (cWeb cI (u0.1 2 1) (u0.1 2 2) (u0.1 2 3) (u0.1 2 4) (u0.1 2 5) (u0.1 2 6) (u0.1 2 7) (u0.1 2 8) (u0.1 2 9) (u0.1 2 10) O0 ++ (cImg (u0.1 3 0) (u0.1 3 1) O0 ++ (cWeb cI (u0.1 3 1) (u0.1 3 2) (u0.1 3 3) (u0.1 3 4) (u0.1 3 5) (u0.1 3 6) (u0.1 3 7) (u0.1 3 8) (u0.1 3 9) (u0.1 3 10) O0 ++ (cBook cI (u0.1 4 0) (u0.1 4 1) (u0.1 4 2) O0 ++ (cWork cI (u0.1 5 0) (u0.1 5 1) (u0.1 5 2) O0 ++ (cWork cI (u0.1 6 0) (u0.1 6 1) (u0.1 6 2) O0 ++ (cJudge cI (u0.1 7 0) (u0.1 7 1) O0))))))))))) ++ cRing cI cR (u0.1 1 1) u0.2 (fun _ => O0)) (rest := [.ref q8]) hx hb hml hown hts hk hP hD hS hA hl.1 s_yX7_init mT_559 (c_Model_init l D cI cZ cR q8 z0 hz0 H.size) mT_558 rfl rfl rfl ⟨Nat.le_of_ble_eq_true rfl, Nat.le_of_ble_eq_true rfl⟩ (Nat.le_of_ble_eq_true rfl) ⟨Nat.le_of_ble_eq_true rfl, Nat.le_of_ble_eq_true rfl⟩ dL_law_12 (fun u8 H locs hP hD hS => ?_)
  refine W.widen (k := 216) (n := 14022) (Nat.le_of_ble_eq_true rfl) (Nat.le_of_ble_eq_true rfl) ?_
  have hp : (((cFF q0 (u0.1 0 0) (u0.1 1 0) (u0.1 2 0) (u0.1 3 0) (u0.1 4 0) (u0.1 5 0) (u0.1 6 0) (u0.1 7 0) O0 ++ (cWeb cI (u0.1 0 0) (u0.1 0 1) (u0.1 0 2) (u0.1 0 3) (u0.1 0 4) (u0.1 0 5) (u0.1 0 6) (u0.1 0 7) (u0.1 0 8) (u0.1 0 9) w0 ++ (cPst (u0.1 1 0) (u0.1 1 1) O0 ++ (cImg (u0.1 2 0) (u0.1 2 1) O0 ++ (cWeb cI (u0.1 2 1) (u0.1 2 2) (u0.1 2 3) (u0.1 2 4) (u0.1 2 5) (u0.1 2 6) (u0.1 2 7) (u0.1 2 8) (u0.1 2 9) (u0.1 2 10) O0 ++ (cImg (u0.1 3 0) (u0.1 3 1) O0 ++ (cWeb cI (u0.1 3 1) (u0.1 3 2) (u0.1 3 3) (u0.1 3 4) (u0.1 3 5) (u0.1 3 6) (u0.1 3 7) (u0.1 3 8) (u0.1 3 9) (u0.1 3 10) O0 ++ (cBook cI (u0.1 4 0) (u0.1 4 1) (u0.1 4 2) O0 ++ (cWork cI (u0.1 5 0) (u0.1 5 1) (u0.1 5 2) O0 ++ (cWork cI (u0.1 6 0) (u0.1 6 1) (u0.1 6 2) O0 ++ (cJudge cI (u0.1 7 0) (u0.1 7 1) O0))))))))))) ++ cRing cI cR (u0.1 1 1) u0.2 (fun _ => O0)) ++ cModel cI cZ q8 (u8 1) (u8 2) (u8 3) (u8 4) (u8 5) (u8 6) (u8 7) (u8 8) (u8 9) z0 : va_W).Perm ((cFF q0 (u0.1 0 0) (u0.1 1 0) (u0.1 2 0) (u0.1 3 0) (u0.1 4 0) (u0.1 5 0) (u0.1 6 0) (u0.1 7 0) O0 ++ (cWeb cI (u0.1 0 0) (u0.1 0 1) (u0.1 0 2) (u0.1 0 3) (u0.1 0 4) (u0.1 0 5) (u0.1 0 6) (u0.1 0 7) (u0.1 0 8) (u0.1 0 9) w0 ++ (cPst (u0.1 1 0) (u0.1 1 1) O0 ++ (cImg (u0.1 2 0) (u0.1 2 1) O0 ++ (cWeb cI (u0.1 2 1) (u0.1 2 2) (u0.1 2 3) (u0.1 2 4) (u0.1 2 5) (u0.1 2 6) (u0.1 2 7) (u0.1 2 8) (u0.1 2 9) (u0.1 2 10) O0 ++ (cImg (u0.1 3 0) (u0.1 3 1) O0 ++ (cWeb cI (u0.1 3 1) (u0.1 3 2) (u0.1 3 3) (u0.1 3 4) (u0.1 3 5) (u0.1 3 6) (u0.1 3 7) (u0.1 3 8) (u0.1 3 9) (u0.1 3 10) O0 ++ (cBook cI (u0.1 4 0) (u0.1 4 1) (u0.1 4 2) O0 ++ (cWork cI (u0.1 5 0) (u0.1 5 1) (u0.1 5 2) O0 ++ (cWork cI (u0.1 6 0) (u0.1 6 1) (u0.1 6 2) O0 ++ (cJudge cI (u0.1 7 0) (u0.1 7 1) O0 ++ (cModel cI cZ q8 (u8 1) (u8 2) (u8 3) (u8 4) (u8 5) (u8 6) (u8 7) (u8 8) (u8 9) z0)))))))))))) ++ cRing cI cR (u0.1 1 1) u0.2 (fun _ => O0)) := pm_law _ _ _ _ _ _ _ _ _ _ _ _ _
  have hP : va_P D vwCl ((cFF q0 (u0.1 0 0) (u0.1 1 0) (u0.1 2 0) (u0.1 3 0) (u0.1 4 0) (u0.1 5 0) (u0.1 6 0) (u0.1 7 0) O0 ++ (cWeb cI (u0.1 0 0) (u0.1 0 1) (u0.1 0 2) (u0.1 0 3) (u0.1 0 4) (u0.1 0 5) (u0.1 0 6) (u0.1 0 7) (u0.1 0 8) (u0.1 0 9) w0 ++ (cPst (u0.1 1 0) (u0.1 1 1) O0 ++ (cImg (u0.1 2 0) (u0.1 2 1) O0 ++ (cWeb cI (u0.1 2 1) (u0.1 2 2) (u0.1 2 3) (u0.1 2 4) (u0.1 2 5) (u0.1 2 6) (u0.1 2 7) (u0.1 2 8) (u0.1 2 9) (u0.1 2 10) O0 ++ (cImg (u0.1 3 0) (u0.1 3 1) O0 ++ (cWeb cI (u0.1 3 1) (u0.1 3 2) (u0.1 3 3) (u0.1 3 4) (u0.1 3 5) (u0.1 3 6) (u0.1 3 7) (u0.1 3 8) (u0.1 3 9) (u0.1 3 10) O0 ++ (cBook cI (u0.1 4 0) (u0.1 4 1) (u0.1 4 2) O0 ++ (cWork cI (u0.1 5 0) (u0.1 5 1) (u0.1 5 2) O0 ++ (cWork cI (u0.1 6 0) (u0.1 6 1) (u0.1 6 2) O0 ++ (cJudge cI (u0.1 7 0) (u0.1 7 1) O0 ++ (cModel cI cZ q8 (u8 1) (u8 2) (u8 3) (u8 4) (u8 5) (u8 6) (u8 7) (u8 8) (u8 9) z0)))))))))))) ++ cRing cI cR (u0.1 1 1) u0.2 (fun _ => O0)) H := pP hp hP
  have hD : va_D A ((cFF q0 (u0.1 0 0) (u0.1 1 0) (u0.1 2 0) (u0.1 3 0) (u0.1 4 0) (u0.1 5 0) (u0.1 6 0) (u0.1 7 0) O0 ++ (cWeb cI (u0.1 0 0) (u0.1 0 1) (u0.1 0 2) (u0.1 0 3) (u0.1 0 4) (u0.1 0 5) (u0.1 0 6) (u0.1 0 7) (u0.1 0 8) (u0.1 0 9) w0 ++ (cPst (u0.1 1 0) (u0.1 1 1) O0 ++ (cImg (u0.1 2 0) (u0.1 2 1) O0 ++ (cWeb cI (u0.1 2 1) (u0.1 2 2) (u0.1 2 3) (u0.1 2 4) (u0.1 2 5) (u0.1 2 6) (u0.1 2 7) (u0.1 2 8) (u0.1 2 9) (u0.1 2 10) O0 ++ (cImg (u0.1 3 0) (u0.1 3 1) O0 ++ (cWeb cI (u0.1 3 1) (u0.1 3 2) (u0.1 3 3) (u0.1 3 4) (u0.1 3 5) (u0.1 3 6) (u0.1 3 7) (u0.1 3 8) (u0.1 3 9) (u0.1 3 10) O0 ++ (cBook cI (u0.1 4 0) (u0.1 4 1) (u0.1 4 2) O0 ++ (cWork cI (u0.1 5 0) (u0.1 5 1) (u0.1 5 2) O0 ++ (cWork cI (u0.1 6 0) (u0.1 6 1) (u0.1 6 2) O0 ++ (cJudge cI (u0.1 7 0) (u0.1 7 1) O0 ++ (cModel cI cZ q8 (u8 1) (u8 2) (u8 3) (u8 4) (u8 5) (u8 6) (u8 7) (u8 8) (u8 9) z0)))))))))))) ++ cRing cI cR (u0.1 1 1) u0.2 (fun _ => O0)) := pD hp hD
  refine lv_astore_n (lv' := [(2, .ref q8), (1, .ref q0), (0, .ref b)]) hx hb dL_law_15 rfl hl (by decide) rfl (fun ls hl => ?_)
  refine lv_iconst (v := 0) hx hb dL_law_16 (by decide) ?_
  refine lv_istore_n (lv' := [(3, .int 0), (2, .ref q8), (1, .ref q0), (0, .ref b)]) hx hb dL_law_17 rfl hl (by decide) rfl (fun ls hl => ?_)
  exact c_law q0 (u0.1 0 0) (u0.1 1 0) (u0.1 2 0) (u0.1 3 0) (u0.1 4 0) (u0.1 5 0) (u0.1 6 0) (u0.1 7 0) (u0.1 0 1) (u0.1 0 2) (u0.1 0 3) (u0.1 0 4) (u0.1 0 5) (u0.1 0 6) (u0.1 0 7) (u0.1 0 8) (u0.1 0 9) (u0.1 1 1) (u0.1 2 1) (u0.1 2 2) (u0.1 2 3) (u0.1 2 4) (u0.1 2 5) (u0.1 2 6) (u0.1 2 7) (u0.1 2 8) (u0.1 2 9) (u0.1 2 10) (u0.1 3 1) (u0.1 3 2) (u0.1 3 3) (u0.1 3 4) (u0.1 3 5) (u0.1 3 6) (u0.1 3 7) (u0.1 3 8) (u0.1 3 9) (u0.1 3 10) (u0.1 4 1) (u0.1 4 2) (u0.1 5 1) (u0.1 5 2) (u0.1 6 1) (u0.1 6 2) (u0.1 7 1) q8 (u8 1) (u8 2) (u8 3) (u8 4) (u8 5) (u8 6) (u8 7) (u8 8) (u8 9) u0.2 O0 w0 O0 O0 O0 O0 O0 O0 O0 O0 O0 z0 (fun _ => O0) A hAe hx hb hr hml hown hts hX hbl hlocks hk hf _ _ _ hP hD hS hl
