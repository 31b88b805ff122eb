theorem s_yX3_remember : kMS yX3_remember cX3_remember 2 none 1 := ⟨mT_443, mT_53, by decide +kernel⟩
theorem v_yX3_remember : kMV yX3_remember := ⟨mT_441, mT_442⟩
theorem s_yX3_bringBack : kMS yX3_bringBack cX3_bringBack 3 none 2 := ⟨mT_526, mT_53, by decide +kernel⟩
theorem v_yX3_bringBack : kMV yX3_bringBack := ⟨mT_524, mT_525⟩
theorem pm_rem (P Wc R J O : va_W) : ((P ++ Wc) ++ (R ++ (J ++ O))).Perm ((J ++ Wc) ++ ((P ++ R) ++ O)) := by
  have h1 : (P ++ Wc) ++ (R ++ (J ++ O)) = (((P ++ Wc) ++ R) ++ J) ++ O := by simp only [List.append_assoc]
  have h2 : (J ++ Wc) ++ ((P ++ R) ++ O) = (J ++ (Wc ++ (P ++ R))) ++ O := by simp only [List.append_assoc]
  rw [h1, h2]
  refine List.Perm.append_right O (List.perm_append_comm.trans (List.Perm.append_left J ?_))
  have h3 : Wc ++ (P ++ R) = (Wc ++ P) ++ R := by simp only [List.append_assoc]
  rw [h3]
  exact List.Perm.append_right R List.perm_append_comm
theorem pm_bri (P Wc R J O : va_W) : ((P ++ Wc) ++ (R ++ (J ++ O))).Perm ((Wc ++ J) ++ ((P ++ R) ++ O)) := (pm_rem P Wc R J O).trans (List.Perm.append_right _ List.perm_append_comm)
/-- the world with the ring, and one web of it cut out -/
theorem rg_cut {cI cR : ClassId} {rr : Nat} {ra : Nat → Nat → Nat} {rg : Nat → Ob} {j : Nat} (hj : j < 16) : ∃ oth : va_W, ∀ w : Ob, ∀ E : va_W, (E ++ cRing cI cR rr ra (va_up rg j w)).Perm (E ++ ([(rr, .inl (cR, 16, .inr (.inr (.inr (.inr (fun j => some (ra j 0)))))))] ++ (cWebR cI (ra j) w ++ oth))) := by
  obtain ⟨oth, ho⟩ := rgW_split (cI := cI) (ra := ra) (rg := rg) (j := j) 16 hj
  exact ⟨oth, fun w E => List.Perm.append_left E (List.Perm.cons _ (ho w))⟩
def f_remember (pt : Ob) (w : Ob) (rg : Nat → Ob) : Option (Ob × (Nat → Ob)) := gd (ck (pt 0 1) 16) (bd (f_become (rg (Int32.toNatClampNeg (pt 0 1))) w) (fun q10 => some (sI (sI pt 1 (((pt 0 1) + 1) - ((pt 0 1) + 1) / 16 * 16)) 0 (if 16 < ((pt 0 0) + 1) then 16 else ((pt 0 0) + 1)), va_up rg (Int32.toNatClampNeg (pt 0 1)) q10)))
set_option maxHeartbeats 4000000 in
set_option maxRecDepth 100000 in
theorem c_remember (l : Launch) (D : va_G) (cI cZ cR : ClassId) (pta rr wa w1 w2 w3 w4 w5 w6 w7 w8 w9 : Nat) (ra : Nat → Nat → Nat) (pt : Ob) (w : Ob) (rg : Nat → Ob) (sz : Nat) (u : Ob × (Nat → Ob)) (hf : f_remember pt w rg = some u) : kCv l yX3_remember cX3_remember 2 none { frames := 2, cells := 0, slots := 0, locals := 61 } [.ref pta, .ref wa] D cI cZ cR ((cPst pta rr pt ++ (cWeb cI wa w1 w2 w3 w4 w5 w6 w7 w8 w9 w)) ++ cRing cI cR rr ra rg) sz ((cPst pta rr u.1 ++ (cWeb cI wa w1 w2 w3 w4 w5 w6 w7 w8 w9 w)) ++ cRing cI cR rr ra u.2) := by
  refine kMwv (wf := (fun u : Ob × (Nat → Ob) => (cPst pta rr u.1 ++ (cWeb cI wa w1 w2 w3 w4 w5 w6 w7 w8 w9 w)) ++ cRing cI cR rr ra u.2)) (u := u) (by decide) (Nat.le_of_ble_eq_true rfl) ?_
  intro p e s m below meth c Q A hx hb hml hown hts hk hP hD hA hS hret ls hl
  have hK := hk.1
  have hl : lv_has ls 2 [(0, .ref pta), (1, .ref wa)] := hl
  rw [f_remember] at hf
  refine lv_aload_n hx hb dX3_remember_0 rfl (lv_at hl 0 rfl) ?_
  refine va_get (D := D) (ci := 3) (v := .ref rr) (C := RX3) (T := TX3) (N := 3) hx hb hts inT3 hown hK hP 0 rfl rfl 2 (by decide) (hts _ mT_143) (fun _ h9 => h9) rfl dX3_remember_1 ?_
  refine lv_aload_n hx hb dX3_remember_4 rfl (lv_at hl 0 rfl) ?_
  refine va_get (D := D) (ci := 3) (v := .int (pt 0 1)) (C := RX3) (T := TX3) (N := 3) hx hb hts inT3 hown hK hP 0 rfl rfl 1 (by decide) (hts _ mT_142) (fun _ h9 => h9) rfl dX3_remember_5 ?_
  obtain ⟨b8, hf⟩ := gd_some hf
  refine va_aldq (C := RX4) (n := 16) (f := fun j => some (ra j 0)) hx hb hK hP 11 2 rfl rfl (ck_in b8) dX3_remember_8 ?_
  refine W.eq (g2 := F0 m 9 ls [.ref (ra (Int32.toNatClampNeg (pt 0 1)) 0)]) rfl ?_
  refine lv_aload_n hx hb dX3_remember_9 rfl (lv_at hl 1 rfl) ?_
  obtain ⟨q10, h10, hf⟩ := bd_some hf
  have hj : (Int32.toNatClampNeg (pt 0 1)) < 16 := Nat.not_le.mp fun q => ck_in b8 (Or.inr q)
  obtain ⟨oth, ho⟩ := rg_cut (cI := cI) (cR := cR) (rr := rr) (ra := ra) (rg := rg) hj
  have g1 := ho (rg (Int32.toNatClampNeg (pt 0 1))) (cPst pta rr pt ++ (cWeb cI wa w1 w2 w3 w4 w5 w6 w7 w8 w9 w))
  rw [kup_self] at g1
  refine kx_wvT (As := [.ref wa]) (rest := []) (ws := (cPst pta rr pt ++ (cWeb cI wa w1 w2 w3 w4 w5 w6 w7 w8 w9 w)) ++ cRing cI cR rr ra rg) (wn := (cPst pta rr pt ++ (cWeb cI wa w1 w2 w3 w4 w5 w6 w7 w8 w9 w)) ++ cRing cI cR rr ra (va_up rg (Int32.toNatClampNeg (pt 0 1)) q10)) hx hb hml hown hts hk hP hD hS hA hl.1 s_yX4_become v_yX4_become (c_become l D cI cZ cR (ra (Int32.toNatClampNeg (pt 0 1)) 0) (ra (Int32.toNatClampNeg (pt 0 1)) 1) (ra (Int32.toNatClampNeg (pt 0 1)) 2) (ra (Int32.toNatClampNeg (pt 0 1)) 3) (ra (Int32.toNatClampNeg (pt 0 1)) 4) (ra (Int32.toNatClampNeg (pt 0 1)) 5) (ra (Int32.toNatClampNeg (pt 0 1)) 6) (ra (Int32.toNatClampNeg (pt 0 1)) 7) (ra (Int32.toNatClampNeg (pt 0 1)) 8) (ra (Int32.toNatClampNeg (pt 0 1)) 9) wa w1 w2 w3 w4 w5 w6 w7 w8 w9 (rg (Int32.toNatClampNeg (pt 0 1))) w s.heap.size _ h10) mT_444 rfl rfl ⟨Nat.le_of_ble_eq_true rfl, Nat.le_of_ble_eq_true rfl⟩ (g1.trans (pm_rem _ _ _ _ oth)) ((pm_rem _ _ _ _ oth).symm.trans (ho q10 (cPst pta rr pt ++ (cWeb cI wa w1 w2 w3 w4 w5 w6 w7 w8 w9 w))).symm) (ci := 4) (q0 := 0) rfl rfl rfl (Nat.le_of_ble_eq_true rfl) ⟨Nat.zero_le _, Nat.zero_le _⟩ dX3_remember_10 (fun H locs hP hD hS => ?_)
  refine lv_aload_n hx hb dX3_remember_13 rfl (lv_at hl 0 rfl) ?_
  refine lv_aload_n hx hb dX3_remember_14 rfl (lv_at hl 0 rfl) ?_
  refine va_get (D := D) (ci := 3) (v := .int (pt 0 1)) (C := RX3) (T := TX3) (N := 3) hx hb hts inT3 hown hK hP 0 rfl rfl 1 (by decide) (hts _ mT_142) (fun _ h9 => h9) rfl dX3_remember_15 ?_
  refine lv_iconst (v := 1) hx hb dX3_remember_18 (by decide) ?_
  refine lv_iadd hx hb dX3_remember_19 ?_
  refine lv_bipush (v := 16) hx hb dX3_remember_20 (by decide) ?_
  refine lv_irem hx hb dX3_remember_22 (by decide) ?_
  refine va_put (D := D) (ci := 3) (v := .int (((pt 0 1) + 1) - ((pt 0 1) + 1) / 16 * 16)) (ty := .int) (C := RX3) (T := TX3) (N := 3) hx hb hts inT3 tyX3 tyX3_ok nmX3 hown hK hP hD hS 0 rfl rfl 1 (by decide) (hts _ mT_142) (fun _ h9 => h9) rfl (by decide +kernel) rfl rfl (Nat.le_of_ble_eq_true rfl) dX3_remember_23 (fun H locs hP hD hS => ?_)
  have hP : va_P D vwCl ((cPst pta rr (sI pt 1 (((pt 0 1) + 1) - ((pt 0 1) + 1) / 16 * 16)) ++ (cWeb cI wa w1 w2 w3 w4 w5 w6 w7 w8 w9 w)) ++ cRing cI cR rr ra (va_up rg (Int32.toNatClampNeg (pt 0 1)) q10)) H := hP
  have hD : va_D A ((cPst pta rr (sI pt 1 (((pt 0 1) + 1) - ((pt 0 1) + 1) / 16 * 16)) ++ (cWeb cI wa w1 w2 w3 w4 w5 w6 w7 w8 w9 w)) ++ cRing cI cR rr ra (va_up rg (Int32.toNatClampNeg (pt 0 1)) q10)) := hD
  refine lv_aload_n hx hb dX3_remember_26 rfl (lv_at hl 0 rfl) ?_
  refine lv_aload_n hx hb dX3_remember_27 rfl (lv_at hl 0 rfl) ?_
  refine va_get (D := D) (ci := 3) (v := .int (pt 0 0)) (C := RX3) (T := TX3) (N := 3) hx hb hts inT3 hown hK hP 0 rfl rfl 0 (by decide) (hts _ mT_140) (fun _ h9 => h9) rfl dX3_remember_28 ?_
  refine lv_iconst (v := 1) hx hb dX3_remember_31 (by decide) ?_
  refine lv_iadd hx hb dX3_remember_32 ?_
  refine lv_bipush (v := 16) hx hb dX3_remember_33 (by decide) ?_
  refine va_mmin (x := (pt 0 0) + 1) (y := 16) (rest := [.ref pta]) hx hb (hml.trans hl.1.symm) hown (hts _ mT_451) (hts _ mT_452) (hts _ mT_58) (hts _ mT_453) (Nat.le_of_ble_eq_true rfl) (Nat.le_of_ble_eq_true rfl) (Nat.zero_le _) (Nat.zero_le _) dX3_remember_35 ?_
  refine va_put (D := D) (ci := 3) (v := .int ((if 16 < ((pt 0 0) + 1) then 16 else ((pt 0 0) + 1)))) (ty := .int) (C := RX3) (T := TX3) (N := 3) hx hb hts inT3 tyX3 tyX3_ok nmX3 hown hK hP hD hS 0 rfl rfl 0 (by decide) (hts _ mT_140) (fun _ h9 => h9) rfl (by decide +kernel) rfl rfl (Nat.le_of_ble_eq_true rfl) dX3_remember_38 (fun H locs hP hD hS => ?_)
  exact hret _ _ (sI (sI pt 1 (((pt 0 1) + 1) - ((pt 0 1) + 1) / 16 * 16)) 0 (if 16 < ((pt 0 0) + 1) then 16 else ((pt 0 0) + 1)), va_up rg (Int32.toNatClampNeg (pt 0 1)) q10) _ _ hf dX3_remember_41 hP hD hS
def f_bringBack (pt : Ob) (w : Ob) (rg : Nat → Ob) (x : Int32) : Option (Ob × Ob) := gd (ck ((((pt 0 1) + 16) - x) - (((pt 0 1) + 16) - x) / 16 * 16) 16) (bd (f_become w (rg (Int32.toNatClampNeg ((((pt 0 1) + 16) - x) - (((pt 0 1) + 16) - x) / 16 * 16)))) (fun q36 => some (sI (sI pt 1 ((((pt 0 1) + 16) - x) - (((pt 0 1) + 16) - x) / 16 * 16)) 0 ((pt 0 0) - x), q36)))
set_option maxHeartbeats 4000000 in
set_option maxRecDepth 100000 in
theorem c_bringBack (l : Launch) (D : va_G) (cI cZ cR : ClassId) (pta rr wa w1 w2 w3 w4 w5 w6 w7 w8 w9 : Nat) (ra : Nat → Nat → Nat) (pt : Ob) (w : Ob) (rg : Nat → Ob) (x : Int32) (sz : Nat) (u : Ob × Ob) (hf : f_bringBack pt w rg x = some u) : kCv l yX3_bringBack cX3_bringBack 3 none { frames := 2, cells := 0, slots := 0, locals := 61 } [.ref pta, .ref wa, .int x] D cI cZ cR ((cPst pta rr pt ++ (cWeb cI wa w1 w2 w3 w4 w5 w6 w7 w8 w9 w)) ++ cRing cI cR rr ra rg) sz ((cPst pta rr u.1 ++ (cWeb cI wa w1 w2 w3 w4 w5 w6 w7 w8 w9 u.2)) ++ cRing cI cR rr ra rg) := by
  refine kMwv (wf := (fun u : Ob × Ob => (cPst pta rr u.1 ++ (cWeb cI wa w1 w2 w3 w4 w5 w6 w7 w8 w9 u.2)) ++ cRing cI cR rr ra rg)) (u := u) (by decide) (Nat.le_of_ble_eq_true rfl) ?_
  intro p e s m below meth c Q A hx hb hml hown hts hk hP hD hA hS hret ls hl
  have hK := hk.1
  have hl : lv_has ls 3 [(0, .ref pta), (1, .ref wa), (2, .int x)] := hl
  rw [f_bringBack] at hf
  refine lv_aload_n hx hb dX3_bringBack_0 rfl (lv_at hl 0 rfl) ?_
  refine lv_aload_n hx hb dX3_bringBack_1 rfl (lv_at hl 0 rfl) ?_
  refine va_get (D := D) (ci := 3) (v := .int (pt 0 1)) (C := RX3) (T := TX3) (N := 3) hx hb hts inT3 hown hK hP 0 rfl rfl 1 (by decide) (hts _ mT_142) (fun _ h9 => h9) rfl dX3_bringBack_2 ?_
  refine lv_bipush (v := 16) hx hb dX3_bringBack_5 (by decide) ?_
  refine lv_iadd hx hb dX3_bringBack_7 ?_
  refine lv_iload_n hx hb dX3_bringBack_8 rfl (lv_at hl 2 rfl) ?_
  refine lv_isub hx hb dX3_bringBack_9 ?_
  refine lv_bipush (v := 16) hx hb dX3_bringBack_10 (by decide) ?_
  refine lv_irem hx hb dX3_bringBack_12 (by decide) ?_
  refine va_put (D := D) (ci := 3) (v := .int ((((pt 0 1) + 16) - x) - (((pt 0 1) + 16) - x) / 16 * 16)) (ty := .int) (C := RX3) (T := TX3) (N := 3) hx hb hts inT3 tyX3 tyX3_ok nmX3 hown hK hP hD hS 0 rfl rfl 1 (by decide) (hts _ mT_142) (fun _ h9 => h9) rfl (by decide +kernel) rfl rfl (Nat.le_of_ble_eq_true rfl) dX3_bringBack_13 (fun H locs hP hD hS => ?_)
  have hP : va_P D vwCl ((cPst pta rr (sI pt 1 ((((pt 0 1) + 16) - x) - (((pt 0 1) + 16) - x) / 16 * 16)) ++ (cWeb cI wa w1 w2 w3 w4 w5 w6 w7 w8 w9 w)) ++ cRing cI cR rr ra rg) H := hP
  have hD : va_D A ((cPst pta rr (sI pt 1 ((((pt 0 1) + 16) - x) - (((pt 0 1) + 16) - x) / 16 * 16)) ++ (cWeb cI wa w1 w2 w3 w4 w5 w6 w7 w8 w9 w)) ++ cRing cI cR rr ra rg) := hD
  refine lv_aload_n hx hb dX3_bringBack_16 rfl (lv_at hl 0 rfl) ?_
  refine lv_dup hx hb dX3_bringBack_17 rfl ?_
  refine va_get (D := D) (ci := 3) (v := .int (pt 0 0)) (C := RX3) (T := TX3) (N := 3) hx hb hts inT3 hown hK hP 0 rfl rfl 0 (by decide) (hts _ mT_140) (fun _ h9 => h9) rfl dX3_bringBack_18 ?_
  refine lv_iload_n hx hb dX3_bringBack_21 rfl (lv_at hl 2 rfl) ?_
  refine lv_isub hx hb dX3_bringBack_22 ?_
  refine va_put (D := D) (ci := 3) (v := .int ((pt 0 0) - x)) (ty := .int) (C := RX3) (T := TX3) (N := 3) hx hb hts inT3 tyX3 tyX3_ok nmX3 hown hK hP hD hS 0 rfl rfl 0 (by decide) (hts _ mT_140) (fun _ h9 => h9) rfl (by decide +kernel) rfl rfl (Nat.le_of_ble_eq_true rfl) dX3_bringBack_23 (fun H locs hP hD hS => ?_)
  have hP : va_P D vwCl ((cPst pta rr (sI (sI pt 1 ((((pt 0 1) + 16) - x) - (((pt 0 1) + 16) - x) / 16 * 16)) 0 ((pt 0 0) - x)) ++ (cWeb cI wa w1 w2 w3 w4 w5 w6 w7 w8 w9 w)) ++ cRing cI cR rr ra rg) H := hP
  have hD : va_D A ((cPst pta rr (sI (sI pt 1 ((((pt 0 1) + 16) - x) - (((pt 0 1) + 16) - x) / 16 * 16)) 0 ((pt 0 0) - x)) ++ (cWeb cI wa w1 w2 w3 w4 w5 w6 w7 w8 w9 w)) ++ cRing cI cR rr ra rg) := hD
  refine lv_aload_n hx hb dX3_bringBack_26 rfl (lv_at hl 1 rfl) ?_
  refine lv_aload_n hx hb dX3_bringBack_27 rfl (lv_at hl 0 rfl) ?_
  refine va_get (D := D) (ci := 3) (v := .ref rr) (C := RX3) (T := TX3) (N := 3) hx hb hts inT3 hown hK hP 0 rfl rfl 2 (by decide) (hts _ mT_143) (fun _ h9 => h9) rfl dX3_bringBack_28 ?_
  refine lv_aload_n hx hb dX3_bringBack_31 rfl (lv_at hl 0 rfl) ?_
  refine va_get (D := D) (ci := 3) (v := .int ((((pt 0 1) + 16) - x) - (((pt 0 1) + 16) - x) / 16 * 16)) (C := RX3) (T := TX3) (N := 3) hx hb hts inT3 hown hK hP 0 rfl rfl 1 (by decide) (hts _ mT_142) (fun _ h9 => h9) rfl dX3_bringBack_32 ?_
  obtain ⟨b35, hf⟩ := gd_some hf
  refine va_aldq (C := RX4) (n := 16) (f := fun j => some (ra j 0)) hx hb hK hP 11 2 rfl rfl (ck_in b35) dX3_bringBack_35 ?_
  refine W.eq (g2 := F0 m 36 ls [.ref (ra (Int32.toNatClampNeg ((((pt 0 1) + 16) - x) - (((pt 0 1) + 16) - x) / 16 * 16)) 0), .ref wa]) rfl ?_
  obtain ⟨q36, h36, hf⟩ := bd_some hf
  have hj : (Int32.toNatClampNeg ((((pt 0 1) + 16) - x) - (((pt 0 1) + 16) - x) / 16 * 16)) < 16 := Nat.not_le.mp fun q => ck_in b35 (Or.inr q)
  obtain ⟨oth, ho⟩ := rg_cut (cI := cI) (cR := cR) (rr := rr) (ra := ra) (rg := rg) hj
  have g1 := ho (rg (Int32.toNatClampNeg ((((pt 0 1) + 16) - x) - (((pt 0 1) + 16) - x) / 16 * 16))) (cPst pta rr (sI (sI pt 1 ((((pt 0 1) + 16) - x) - (((pt 0 1) + 16) - x) / 16 * 16)) 0 ((pt 0 0) - x)) ++ (cWeb cI wa w1 w2 w3 w4 w5 w6 w7 w8 w9 w))
  have g2 := ho (rg (Int32.toNatClampNeg ((((pt 0 1) + 16) - x) - (((pt 0 1) + 16) - x) / 16 * 16))) (cPst pta rr (sI (sI pt 1 ((((pt 0 1) + 16) - x) - (((pt 0 1) + 16) - x) / 16 * 16)) 0 ((pt 0 0) - x)) ++ (cWeb cI wa w1 w2 w3 w4 w5 w6 w7 w8 w9 q36))
  rw [kup_self] at g1 g2
  refine kx_wvT (As := [.ref (ra (Int32.toNatClampNeg ((((pt 0 1) + 16) - x) - (((pt 0 1) + 16) - x) / 16 * 16)) 0)]) (rest := []) (ws := (cPst pta rr (sI (sI pt 1 ((((pt 0 1) + 16) - x) - (((pt 0 1) + 16) - x) / 16 * 16)) 0 ((pt 0 0) - x)) ++ (cWeb cI wa w1 w2 w3 w4 w5 w6 w7 w8 w9 w)) ++ cRing cI cR rr ra rg) (wn := (cPst pta rr (sI (sI pt 1 ((((pt 0 1) + 16) - x) - (((pt 0 1) + 16) - x) / 16 * 16)) 0 ((pt 0 0) - x)) ++ (cWeb cI wa w1 w2 w3 w4 w5 w6 w7 w8 w9 q36)) ++ cRing cI cR rr ra rg) hx hb hml hown hts hk hP hD hS hA hl.1 s_yX4_become v_yX4_become (c_become l D cI cZ cR wa w1 w2 w3 w4 w5 w6 w7 w8 w9 (ra (Int32.toNatClampNeg ((((pt 0 1) + 16) - x) - (((pt 0 1) + 16) - x) / 16 * 16)) 0) (ra (Int32.toNatClampNeg ((((pt 0 1) + 16) - x) - (((pt 0 1) + 16) - x) / 16 * 16)) 1) (ra (Int32.toNatClampNeg ((((pt 0 1) + 16) - x) - (((pt 0 1) + 16) - x) / 16 * 16)) 2) (ra (Int32.toNatClampNeg ((((pt 0 1) + 16) - x) - (((pt 0 1) + 16) - x) / 16 * 16)) 3) (ra (Int32.toNatClampNeg ((((pt 0 1) + 16) - x) - (((pt 0 1) + 16) - x) / 16 * 16)) 4) (ra (Int32.toNatClampNeg ((((pt 0 1) + 16) - x) - (((pt 0 1) + 16) - x) / 16 * 16)) 5) (ra (Int32.toNatClampNeg ((((pt 0 1) + 16) - x) - (((pt 0 1) + 16) - x) / 16 * 16)) 6) (ra (Int32.toNatClampNeg ((((pt 0 1) + 16) - x) - (((pt 0 1) + 16) - x) / 16 * 16)) 7) (ra (Int32.toNatClampNeg ((((pt 0 1) + 16) - x) - (((pt 0 1) + 16) - x) / 16 * 16)) 8) (ra (Int32.toNatClampNeg ((((pt 0 1) + 16) - x) - (((pt 0 1) + 16) - x) / 16 * 16)) 9) w (rg (Int32.toNatClampNeg ((((pt 0 1) + 16) - x) - (((pt 0 1) + 16) - x) / 16 * 16))) H.size _ h36) mT_444 rfl rfl ⟨Nat.le_of_ble_eq_true rfl, Nat.le_of_ble_eq_true rfl⟩ (g1.trans (pm_bri _ _ _ _ oth)) ((pm_bri _ _ _ _ oth).symm.trans g2.symm) (ci := 4) (q0 := 0) rfl rfl rfl (Nat.le_of_ble_eq_true rfl) ⟨Nat.zero_le _, Nat.zero_le _⟩ dX3_bringBack_36 (fun H locs hP hD hS => ?_)
  exact hret _ _ ((sI (sI pt 1 ((((pt 0 1) + 16) - x) - (((pt 0 1) + 16) - x) / 16 * 16)) 0 ((pt 0 0) - x)), q36) _ _ hf dX3_bringBack_39 hP hD hS
