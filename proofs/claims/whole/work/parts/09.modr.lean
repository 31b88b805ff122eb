theorem s_yX7_in : kMS yX7_in cX7_in 3 (some .boolean) 3 := ⟨mT_721, mT_59, by decide +kernel⟩
def f_m_in (x : Int32) (y : Int32) (v : Int32) : Option Int32 := if x < y then (some 0) else (if v < x then (some 0) else (some 1))
set_option maxHeartbeats 4000000 in
set_option maxRecDepth 100000 in
theorem c_m_in (l : Launch) (D : va_G) (cI cZ cR : ClassId) (x : Int32) (y : Int32) (v : Int32) (r : Int32) (hf : f_m_in x y v = some r) : kCr l yX7_in cX7_in 3 (some .boolean) { frames := 0, cells := 0, slots := 0, locals := 0 } [.int x, .int y, .int v] D cI cZ cR ([]) r := by
  refine kMrz (by decide) (Nat.le_of_ble_eq_true rfl) ?_
  intro p e s m below meth c Q hx hb hml hown hts hk hP hret ls hl
  have hK := hk.1
  have hl : lv_has ls 3 [(0, .int x), (1, .int y), (2, .int v)] := hl
  rw [f_m_in] at hf
  refine lv_iload_n hx hb dX7_in_0 rfl (lv_at hl 0 rfl) ?_
  refine lv_iload_n hx hb dX7_in_1 rfl (lv_at hl 1 rfl) ?_
  refine lv_icmp_lt (tgt := 14) hx hb dX7_in_2 (by decide) (fun c2 => ?_) (fun c2 => ?_)
  · have hf := ite_t c2 hf
    refine lv_iconst (v := 0) hx hb dX7_in_14 (by decide) ?_
    exact hret _ _ _ hf (Or.inl rfl) dX7_in_15
  · have hf := ite_f c2 hf
    refine lv_iload_n hx hb dX7_in_5 rfl (lv_at hl 0 rfl) ?_
    refine lv_iload_n hx hb dX7_in_6 rfl (lv_at hl 2 rfl) ?_
    refine lv_icmp_gt (tgt := 14) hx hb dX7_in_7 (by decide) (fun c7 => ?_) (fun c7 => ?_)
    · have hf := ite_t c7 hf
      refine lv_iconst (v := 0) hx hb dX7_in_14 (by decide) ?_
      exact hret _ _ _ hf (Or.inl rfl) dX7_in_15
    · have hf := ite_f c7 hf
      refine lv_iconst (v := 1) hx hb dX7_in_10 (by decide) ?_
      refine lv_goto (tgt := 15) hx hb dX7_in_11 (by decide) ?_
      exact hret _ _ _ hf (Or.inr rfl) dX7_in_15
theorem s_yX7_isValue : kMS yX7_isValue cX7_isValue 2 (some .boolean) 1 := ⟨mT_730, mT_59, by decide +kernel⟩
theorem v_yX7_isValue : kMV yX7_isValue := ⟨mT_729, mT_42⟩
def f_m_isValue (z : Ob) (x : Int32) : Option Int32 := bd (f_m_in x 0 (((z 1) (Int32.toNatClampNeg 0)) - 1)) (fun q10 => gd (bz q10) (some q10))
set_option maxHeartbeats 4000000 in
set_option maxRecDepth 100000 in
theorem c_m_isValue (l : Launch) (D : va_G) (cI cZ cR : ClassId) (za z1 z2 z3 z4 z5 z6 z7 z8 z9 : Nat) (z : Ob) (x : Int32) (r : Int32) (hf : f_m_isValue z x = some r) : kCr l yX7_isValue cX7_isValue 2 (some .boolean) { frames := 1, cells := 0, slots := 0, locals := 22 } [.ref za, .int x] D cI cZ cR (cModel cI cZ za z1 z2 z3 z4 z5 z6 z7 z8 z9 z) r := by
  refine kMrz (by decide) (Nat.le_of_ble_eq_true rfl) ?_
  intro p e s m below meth c Q hx hb hml hown hts hk hP hret ls hl
  have hK := hk.1
  have hl : lv_has ls 2 [(0, .ref za), (1, .int x)] := hl
  rw [f_m_isValue] at hf
  refine lv_iload_n hx hb dX7_isValue_0 rfl (lv_at hl 1 rfl) ?_
  refine lv_iconst (v := 0) hx hb dX7_isValue_1 (by decide) ?_
  refine lv_aload_n hx hb dX7_isValue_2 rfl (lv_at hl 0 rfl) ?_
  refine va_get (D := D) (ci := 7) (v := .ref z1) (C := RX7) (T := TX7) (N := 17) hx hb hts inT7 hown hK hP 0 rfl rfl 0 (by decide) (hts _ mT_566) (fun _ h9 => h9) rfl dX7_isValue_3 ?_
  refine lv_iconst (v := 0) hx hb dX7_isValue_6 (by decide) ?_
  refine va_iald (n := 367) (f := z 1) hx hb hK hP 1 0 rfl rfl (ck_in (by decide)) dX7_isValue_7 ?_
  refine lv_iconst (v := 1) hx hb dX7_isValue_8 (by decide) ?_
  refine lv_isub hx hb dX7_isValue_9 ?_
  obtain ⟨q10, h10, hf⟩ := bd_some hf
  refine kx_rs (As := [.int x, .int 0, .int (((z 1) (Int32.toNatClampNeg 0)) - 1)]) (rest := []) hx hb hml hown hts hk hl.1 s_yX7_in mT_720 (c_m_in l D cI cZ cR x 0 (((z 1) (Int32.toNatClampNeg 0)) - 1) _ h10) mT_719 rfl rfl ⟨Nat.le_of_ble_eq_true rfl, Nat.le_of_ble_eq_true rfl⟩ rfl (Nat.le_of_ble_eq_true rfl) ⟨Nat.zero_le _, Nat.zero_le _⟩ dX7_isValue_10 ?_
  obtain ⟨b13, hf⟩ := gd_some hf
  exact hret _ _ _ hf (bz_or b13) dX7_isValue_13
theorem s_yX7_both : kMS yX7_both cX7_both 3 (some .int) 2 := ⟨mT_634, mT_59, by decide +kernel⟩
theorem v_yX7_both : kMV yX7_both := ⟨mT_633, mT_20⟩
def f_m_both (z : Ob) (x : Int32) (y : Int32) : Option Int32 := gd (ck ((3 + (8 * x)) + y) 367) (some ((z 1) (Int32.toNatClampNeg ((3 + (8 * x)) + y))))
set_option maxHeartbeats 4000000 in
set_option maxRecDepth 100000 in
theorem c_m_both (l : Launch) (D : va_G) (cI cZ cR : ClassId) (za z1 z2 z3 z4 z5 z6 z7 z8 z9 : Nat) (z : Ob) (x : Int32) (y : Int32) (r : Int32) (hf : f_m_both z x y = some r) : kCr l yX7_both cX7_both 3 (some .int) { frames := 0, cells := 0, slots := 0, locals := 0 } [.ref za, .int x, .int y] D cI cZ cR (cModel cI cZ za z1 z2 z3 z4 z5 z6 z7 z8 z9 z) r := by
  refine kMri (by decide) (Nat.le_of_ble_eq_true rfl) ?_
  intro p e s m below meth c Q hx hb hml hown hts hk hP hret ls hl
  have hK := hk.1
  have hl : lv_has ls 3 [(0, .ref za), (1, .int x), (2, .int y)] := hl
  rw [f_m_both] at hf
  refine lv_aload_n hx hb dX7_both_0 rfl (lv_at hl 0 rfl) ?_
  refine va_get (D := D) (ci := 7) (v := .ref z1) (C := RX7) (T := TX7) (N := 17) hx hb hts inT7 hown hK hP 0 rfl rfl 0 (by decide) (hts _ mT_566) (fun _ h9 => h9) rfl dX7_both_1 ?_
  refine lv_iconst (v := 3) hx hb dX7_both_4 (by decide) ?_
  refine lv_bipush (v := 8) hx hb dX7_both_5 (by decide) ?_
  refine lv_iload_n hx hb dX7_both_7 rfl (lv_at hl 1 rfl) ?_
  refine lv_imul hx hb dX7_both_8 ?_
  refine lv_iadd hx hb dX7_both_9 ?_
  refine lv_iload_n hx hb dX7_both_10 rfl (lv_at hl 2 rfl) ?_
  refine lv_iadd hx hb dX7_both_11 ?_
  obtain ⟨b12, hf⟩ := gd_some hf
  refine va_iald (n := 367) (f := z 1) hx hb hK hP 1 0 rfl rfl (ck_in b12) dX7_both_12 ?_
  exact hret _ _ _ hf dX7_both_13
theorem s_yX7_isBelow : kMS yX7_isBelow cX7_isBelow 3 (some .boolean) 2 := ⟨mT_646, mT_59, by decide +kernel⟩
theorem v_yX7_isBelow : kMV yX7_isBelow := ⟨mT_645, mT_23⟩
def f_m_isBelow (z : Ob) (x : Int32) (y : Int32) : Option Int32 := bd (f_m_both z x y) (fun q3 => if q3 = y then (some 1) else (some 0))
set_option maxHeartbeats 4000000 in
set_option maxRecDepth 100000 in
theorem c_m_isBelow (l : Launch) (D : va_G) (cI cZ cR : ClassId) (za z1 z2 z3 z4 z5 z6 z7 z8 z9 : Nat) (z : Ob) (x : Int32) (y : Int32) (r : Int32) (hf : f_m_isBelow z x y = some r) : kCr l yX7_isBelow cX7_isBelow 3 (some .boolean) { frames := 1, cells := 0, slots := 0, locals := 22 } [.ref za, .int x, .int y] D cI cZ cR (cModel cI cZ za z1 z2 z3 z4 z5 z6 z7 z8 z9 z) r := by
  refine kMrz (by decide) (Nat.le_of_ble_eq_true rfl) ?_
  intro p e s m below meth c Q hx hb hml hown hts hk hP hret ls hl
  have hK := hk.1
  have hl : lv_has ls 3 [(0, .ref za), (1, .int x), (2, .int y)] := hl
  rw [f_m_isBelow] at hf
  refine lv_aload_n hx hb dX7_isBelow_0 rfl (lv_at hl 0 rfl) ?_
  refine lv_iload_n hx hb dX7_isBelow_1 rfl (lv_at hl 1 rfl) ?_
  refine lv_iload_n hx hb dX7_isBelow_2 rfl (lv_at hl 2 rfl) ?_
  obtain ⟨q3, h3, hf⟩ := bd_some hf
  refine kx_rv (As := [.int x, .int y]) (rest := []) hx hb hml hown hts hk hP hl.1 s_yX7_both v_yX7_both (c_m_both l D cI cZ cR za z1 z2 z3 z4 z5 z6 z7 z8 z9 z x y _ h3) mT_631 rfl rfl ⟨Nat.le_of_ble_eq_true rfl, Nat.le_of_ble_eq_true rfl⟩ (ci := 7) (q0 := 0) rfl rfl rfl (Nat.le_of_ble_eq_true rfl) ⟨Nat.zero_le _, Nat.zero_le _⟩ dX7_isBelow_3 ?_
  refine lv_iload_n hx hb dX7_isBelow_6 rfl (lv_at hl 2 rfl) ?_
  refine lv_icmp_ne (tgt := 14) hx hb dX7_isBelow_7 (by decide) (fun c7 => ?_) (fun c7 => ?_)
  · have hf := ite_f c7 hf
    refine lv_iconst (v := 0) hx hb dX7_isBelow_14 (by decide) ?_
    exact hret _ _ _ hf (Or.inl rfl) dX7_isBelow_15
  · have hf := ite_t c7 hf
    refine lv_iconst (v := 1) hx hb dX7_isBelow_10 (by decide) ?_
    refine lv_goto (tgt := 15) hx hb dX7_isBelow_11 (by decide) ?_
    exact hret _ _ _ hf (Or.inr rfl) dX7_isBelow_15
theorem s_yX7_holds : kMS yX7_holds cX7_holds 5 (some .boolean) 4 := ⟨mT_630, mT_59, by decide +kernel⟩
theorem v_yX7_holds : kMV yX7_holds := ⟨mT_629, mT_19⟩
def f_m_holds (z : Ob) (x : Int32) (y : Int32) (v : Int32) (u0 : Int32) : Option Int32 := if x = 1 then (bd (f_m_both z y y) (fun q31 => if q31 = y then (some 1) else (some 0))) else (if x = 2 then (bd (f_m_both z y v) (fun q47 => bd (f_m_both z v y) (fun q53 => if q47 = q53 then (some 1) else (some 0)))) else (if x = 3 then (bd (f_m_both z y v) (fun q69 => bd (f_m_both z q69 u0) (fun q74 => bd (f_m_both z v u0) (fun q83 => bd (f_m_both z y q83) (fun q86 => if q74 = q86 then (some 1) else (some 0)))))) else (bd (f_m_both z 0 y) (fun q101 => if q101 = y then (some 1) else (some 0)))))
set_option maxHeartbeats 4000000 in
set_option maxRecDepth 100000 in
theorem c_m_holds (l : Launch) (D : va_G) (cI cZ cR : ClassId) (za z1 z2 z3 z4 z5 z6 z7 z8 z9 : Nat) (z : Ob) (x : Int32) (y : Int32) (v : Int32) (u0 : Int32) (r : Int32) (hf : f_m_holds z x y v u0 = some r) : kCr l yX7_holds cX7_holds 5 (some .boolean) { frames := 1, cells := 0, slots := 0, locals := 22 } [.ref za, .int x, .int y, .int v, .int u0] D cI cZ cR (cModel cI cZ za z1 z2 z3 z4 z5 z6 z7 z8 z9 z) r := by
  refine kMrz (by decide) (Nat.le_of_ble_eq_true rfl) ?_
  intro p e s m below meth c Q hx hb hml hown hts hk hP hret ls hl
  have hK := hk.1
  have hl : lv_has ls 5 [(0, .ref za), (1, .int x), (2, .int y), (3, .int v), (4, .int u0)] := hl
  rw [f_m_holds] at hf
  refine lv_iload_n hx hb dX7_holds_0 rfl (lv_at hl 1 rfl) ?_
  by_cases c1_1 : x = 1
  · have hf := ite_t c1_1 hf
    refine lv_tableIn (off := 27) (tgt := 28) hx hb dX7_holds_1 (by rw [c1_1]; decide) (by rw [c1_1]; decide) (by rw [c1_1]; decide +kernel) (by decide) ?_
    refine lv_aload_n hx hb dX7_holds_28 rfl (lv_at hl 0 rfl) ?_
    refine lv_iload_n hx hb dX7_holds_29 rfl (lv_at hl 2 rfl) ?_
    refine lv_iload_n hx hb dX7_holds_30 rfl (lv_at hl 2 rfl) ?_
    obtain ⟨q31, h31, hf⟩ := bd_some hf
    refine kx_rv (As := [.int y, .int y]) (rest := []) hx hb hml hown hts hk hP hl.1 s_yX7_both v_yX7_both (c_m_both l D cI cZ cR za z1 z2 z3 z4 z5 z6 z7 z8 z9 z y y _ h31) mT_631 rfl rfl ⟨Nat.le_of_ble_eq_true rfl, Nat.le_of_ble_eq_true rfl⟩ (ci := 7) (q0 := 0) rfl rfl rfl (Nat.le_of_ble_eq_true rfl) ⟨Nat.zero_le _, Nat.zero_le _⟩ dX7_holds_31 ?_
    refine lv_iload_n hx hb dX7_holds_34 rfl (lv_at hl 2 rfl) ?_
    refine lv_icmp_ne (tgt := 42) hx hb dX7_holds_35 (by decide) (fun c35 => ?_) (fun c35 => ?_)
    · have hf := ite_f c35 hf
      refine lv_iconst (v := 0) hx hb dX7_holds_42 (by decide) ?_
      exact hret _ _ _ hf (Or.inl rfl) dX7_holds_43
    · have hf := ite_t c35 hf
      refine lv_iconst (v := 1) hx hb dX7_holds_38 (by decide) ?_
      refine lv_goto (tgt := 43) hx hb dX7_holds_39 (by decide) ?_
      exact hret _ _ _ hf (Or.inr rfl) dX7_holds_43
  have hf := ite_f c1_1 hf
  by_cases c1_2 : x = 2
  · have hf := ite_t c1_2 hf
    refine lv_tableIn (off := 43) (tgt := 44) hx hb dX7_holds_1 (by rw [c1_2]; decide) (by rw [c1_2]; decide) (by rw [c1_2]; decide +kernel) (by decide) ?_
    refine lv_aload_n hx hb dX7_holds_44 rfl (lv_at hl 0 rfl) ?_
    refine lv_iload_n hx hb dX7_holds_45 rfl (lv_at hl 2 rfl) ?_
    refine lv_iload_n hx hb dX7_holds_46 rfl (lv_at hl 3 rfl) ?_
    obtain ⟨q47, h47, hf⟩ := bd_some hf
    refine kx_rv (As := [.int y, .int v]) (rest := []) hx hb hml hown hts hk hP hl.1 s_yX7_both v_yX7_both (c_m_both l D cI cZ cR za z1 z2 z3 z4 z5 z6 z7 z8 z9 z y v _ h47) mT_631 rfl rfl ⟨Nat.le_of_ble_eq_true rfl, Nat.le_of_ble_eq_true rfl⟩ (ci := 7) (q0 := 0) rfl rfl rfl (Nat.le_of_ble_eq_true rfl) ⟨Nat.zero_le _, Nat.zero_le _⟩ dX7_holds_47 ?_
    refine lv_aload_n hx hb dX7_holds_50 rfl (lv_at hl 0 rfl) ?_
    refine lv_iload_n hx hb dX7_holds_51 rfl (lv_at hl 3 rfl) ?_
    refine lv_iload_n hx hb dX7_holds_52 rfl (lv_at hl 2 rfl) ?_
    obtain ⟨q53, h53, hf⟩ := bd_some hf
    refine kx_rv (As := [.int v, .int y]) (rest := [.int q47]) hx hb hml hown hts hk hP hl.1 s_yX7_both v_yX7_both (c_m_both l D cI cZ cR za z1 z2 z3 z4 z5 z6 z7 z8 z9 z v y _ h53) mT_631 rfl rfl ⟨Nat.le_of_ble_eq_true rfl, Nat.le_of_ble_eq_true rfl⟩ (ci := 7) (q0 := 0) rfl rfl rfl (Nat.le_of_ble_eq_true rfl) ⟨Nat.zero_le _, Nat.zero_le _⟩ dX7_holds_53 ?_
    refine lv_icmp_ne (tgt := 63) hx hb dX7_holds_56 (by decide) (fun c56 => ?_) (fun c56 => ?_)
    · have hf := ite_f c56 hf
      refine lv_iconst (v := 0) hx hb dX7_holds_63 (by decide) ?_
      exact hret _ _ _ hf (Or.inl rfl) dX7_holds_64
    · have hf := ite_t c56 hf
      refine lv_iconst (v := 1) hx hb dX7_holds_59 (by decide) ?_
      refine lv_goto (tgt := 64) hx hb dX7_holds_60 (by decide) ?_
      exact hret _ _ _ hf (Or.inr rfl) dX7_holds_64
  have hf := ite_f c1_2 hf
  by_cases c1_3 : x = 3
  · have hf := ite_t c1_3 hf
    refine lv_tableIn (off := 64) (tgt := 65) hx hb dX7_holds_1 (by rw [c1_3]; decide) (by rw [c1_3]; decide) (by rw [c1_3]; decide +kernel) (by decide) ?_
    refine lv_aload_n hx hb dX7_holds_65 rfl (lv_at hl 0 rfl) ?_
    refine lv_aload_n hx hb dX7_holds_66 rfl (lv_at hl 0 rfl) ?_
    refine lv_iload_n hx hb dX7_holds_67 rfl (lv_at hl 2 rfl) ?_
    refine lv_iload_n hx hb dX7_holds_68 rfl (lv_at hl 3 rfl) ?_
    obtain ⟨q69, h69, hf⟩ := bd_some hf
    refine kx_rv (As := [.int y, .int v]) (rest := [.ref za]) hx hb hml hown hts hk hP hl.1 s_yX7_both v_yX7_both (c_m_both l D cI cZ cR za z1 z2 z3 z4 z5 z6 z7 z8 z9 z y v _ h69) mT_631 rfl rfl ⟨Nat.le_of_ble_eq_true rfl, Nat.le_of_ble_eq_true rfl⟩ (ci := 7) (q0 := 0) rfl rfl rfl (Nat.le_of_ble_eq_true rfl) ⟨Nat.zero_le _, Nat.zero_le _⟩ dX7_holds_69 ?_
    refine lv_iload hx hb dX7_holds_72 (lv_at hl 4 rfl) ?_
    obtain ⟨q74, h74, hf⟩ := bd_some hf
    refine kx_rv (As := [.int q69, .int u0]) (rest := []) hx hb hml hown hts hk hP hl.1 s_yX7_both v_yX7_both (c_m_both l D cI cZ cR za z1 z2 z3 z4 z5 z6 z7 z8 z9 z q69 u0 _ h74) mT_631 rfl rfl ⟨Nat.le_of_ble_eq_true rfl, Nat.le_of_ble_eq_true rfl⟩ (ci := 7) (q0 := 0) rfl rfl rfl (Nat.le_of_ble_eq_true rfl) ⟨Nat.zero_le _, Nat.zero_le _⟩ dX7_holds_74 ?_
    refine lv_aload_n hx hb dX7_holds_77 rfl (lv_at hl 0 rfl) ?_
    refine lv_iload_n hx hb dX7_holds_78 rfl (lv_at hl 2 rfl) ?_
    refine lv_aload_n hx hb dX7_holds_79 rfl (lv_at hl 0 rfl) ?_
    refine lv_iload_n hx hb dX7_holds_80 rfl (lv_at hl 3 rfl) ?_
    refine lv_iload hx hb dX7_holds_81 (lv_at hl 4 rfl) ?_
    obtain ⟨q83, h83, hf⟩ := bd_some hf
    refine kx_rv (As := [.int v, .int u0]) (rest := [.int y, .ref za, .int q74]) hx hb hml hown hts hk hP hl.1 s_yX7_both v_yX7_both (c_m_both l D cI cZ cR za z1 z2 z3 z4 z5 z6 z7 z8 z9 z v u0 _ h83) mT_631 rfl rfl ⟨Nat.le_of_ble_eq_true rfl, Nat.le_of_ble_eq_true rfl⟩ (ci := 7) (q0 := 0) rfl rfl rfl (Nat.le_of_ble_eq_true rfl) ⟨Nat.zero_le _, Nat.zero_le _⟩ dX7_holds_83 ?_
    obtain ⟨q86, h86, hf⟩ := bd_some hf
    refine kx_rv (As := [.int y, .int q83]) (rest := [.int q74]) hx hb hml hown hts hk hP hl.1 s_yX7_both v_yX7_both (c_m_both l D cI cZ cR za z1 z2 z3 z4 z5 z6 z7 z8 z9 z y q83 _ h86) mT_631 rfl rfl ⟨Nat.le_of_ble_eq_true rfl, Nat.le_of_ble_eq_true rfl⟩ (ci := 7) (q0 := 0) rfl rfl rfl (Nat.le_of_ble_eq_true rfl) ⟨Nat.zero_le _, Nat.zero_le _⟩ dX7_holds_86 ?_
    refine lv_icmp_ne (tgt := 96) hx hb dX7_holds_89 (by decide) (fun c89 => ?_) (fun c89 => ?_)
    · have hf := ite_f c89 hf
      refine lv_iconst (v := 0) hx hb dX7_holds_96 (by decide) ?_
      exact hret _ _ _ hf (Or.inl rfl) dX7_holds_97
    · have hf := ite_t c89 hf
      refine lv_iconst (v := 1) hx hb dX7_holds_92 (by decide) ?_
      refine lv_goto (tgt := 97) hx hb dX7_holds_93 (by decide) ?_
      exact hret _ _ _ hf (Or.inr rfl) dX7_holds_97
  have hf := ite_f c1_3 hf
  refine lv_tableOut (tgt := 98) hx hb dX7_holds_1 (by have nc1_1 := lv_neT (a := 1) c1_1 rfl; have nc1_2 := lv_neT (a := 2) c1_2 rfl; have nc1_3 := lv_neT (a := 3) c1_3 rfl; omega) (by decide) ?_
  refine lv_aload_n hx hb dX7_holds_98 rfl (lv_at hl 0 rfl) ?_
  refine lv_iconst (v := 0) hx hb dX7_holds_99 (by decide) ?_
  refine lv_iload_n hx hb dX7_holds_100 rfl (lv_at hl 2 rfl) ?_
  obtain ⟨q101, h101, hf⟩ := bd_some hf
  refine kx_rv (As := [.int 0, .int y]) (rest := []) hx hb hml hown hts hk hP hl.1 s_yX7_both v_yX7_both (c_m_both l D cI cZ cR za z1 z2 z3 z4 z5 z6 z7 z8 z9 z 0 y _ h101) mT_631 rfl rfl ⟨Nat.le_of_ble_eq_true rfl, Nat.le_of_ble_eq_true rfl⟩ (ci := 7) (q0 := 0) rfl rfl rfl (Nat.le_of_ble_eq_true rfl) ⟨Nat.zero_le _, Nat.zero_le _⟩ dX7_holds_101 ?_
  refine lv_iload_n hx hb dX7_holds_104 rfl (lv_at hl 2 rfl) ?_
  refine lv_icmp_ne (tgt := 112) hx hb dX7_holds_105 (by decide) (fun c105 => ?_) (fun c105 => ?_)
  · have hf := ite_f c105 hf
    refine lv_iconst (v := 0) hx hb dX7_holds_112 (by decide) ?_
    exact hret _ _ _ hf (Or.inl rfl) dX7_holds_113
  · have hf := ite_t c105 hf
    refine lv_iconst (v := 1) hx hb dX7_holds_108 (by decide) ?_
    refine lv_goto (tgt := 113) hx hb dX7_holds_109 (by decide) ?_
    exact hret _ _ _ hf (Or.inr rfl) dX7_holds_113
theorem s_yX7_broken : kMS yX7_broken cX7_broken 4 (some .int) 0 := ⟨mT_626, mT_59, by decide +kernel⟩
theorem v_yX7_broken : kMV yX7_broken := ⟨mT_625, mT_18⟩
def k_m_broken_9 (x2_9 : Int32) : Option Int32 := some 0
def k_m_broken_16 (x2_9 : Int32) (go_L9 : Int32 → Option Int32) (x3_16 : Int32) : Option Int32 := go_L9 (x2_9 + 1)
def lp_m_broken_16 (z : Ob) (x2_9 : Int32) (kk0 : Int32 → Option Int32) : Nat → Int32 → Option Int32
  | 0, _ => none
  | fu16 + 1, x3_16 => if ((((z 1) (Int32.toNatClampNeg 0)) * ((z 1) (Int32.toNatClampNeg 0))) * ((z 1) (Int32.toNatClampNeg 0))) ≤ x3_16 then (kk0 x3_16) else (gd (nz ((z 1) (Int32.toNatClampNeg 0))) (gd (nz ((z 1) (Int32.toNatClampNeg 0))) (gd (nz ((z 1) (Int32.toNatClampNeg 0))) (gd (nz ((z 1) (Int32.toNatClampNeg 0))) (gd (nz ((z 1) (Int32.toNatClampNeg 0))) (bd (f_m_holds z x2_9 ((x3_16 / ((z 1) (Int32.toNatClampNeg 0))) / ((z 1) (Int32.toNatClampNeg 0))) ((x3_16 / ((z 1) (Int32.toNatClampNeg 0))) - (x3_16 / ((z 1) (Int32.toNatClampNeg 0))) / ((z 1) (Int32.toNatClampNeg 0)) * ((z 1) (Int32.toNatClampNeg 0))) (x3_16 - x3_16 / ((z 1) (Int32.toNatClampNeg 0)) * ((z 1) (Int32.toNatClampNeg 0)))) (fun q40 => if q40 = 0 then (some x2_9) else ((lp_m_broken_16 z x2_9 kk0 fu16) (x3_16 + 1)))))))))
def lp_m_broken_9 (z : Ob) (kk0 : Int32 → Option Int32) : Nat → Int32 → Option Int32
  | 0, _ => none
  | fu9 + 1, x2_9 => if 5 ≤ x2_9 then (kk0 x2_9) else (lp_m_broken_16 z x2_9 (k_m_broken_16 x2_9 ((lp_m_broken_9 z kk0 fu9))) 10000 0)
def f_m_broken (z : Ob) : Option Int32 := lp_m_broken_9 z k_m_broken_9 10000 1
set_option maxHeartbeats 4000000 in
set_option maxRecDepth 100000 in
theorem c_m_broken (l : Launch) (D : va_G) (cI cZ cR : ClassId) (za z1 z2 z3 z4 z5 z6 z7 z8 z9 : Nat) (z : Ob) (r : Int32) (hf : f_m_broken z = some r) : kCr l yX7_broken cX7_broken 4 (some .int) { frames := 2, cells := 0, slots := 0, locals := 46 } [.ref za] D cI cZ cR (cModel cI cZ za z1 z2 z3 z4 z5 z6 z7 z8 z9 z) r := by
  refine kMri (by decide) (Nat.le_of_ble_eq_true rfl) ?_
  intro p e s m below meth c Q hx hb hml hown hts hk hP hret ls hl
  have hK := hk.1
  have hl : lv_has ls 4 [(0, .ref za)] := hl
  rw [f_m_broken] at hf
  refine lv_aload_n hx hb dX7_broken_0 rfl (lv_at hl 0 rfl) ?_
  refine va_get (D := D) (ci := 7) (v := .ref z1) (C := RX7) (T := TX7) (N := 17) hx hb hts inT7 hown hK hP 0 rfl rfl 0 (by decide) (hts _ mT_566) (fun _ h9 => h9) rfl dX7_broken_1 ?_
  refine lv_iconst (v := 0) hx hb dX7_broken_4 (by decide) ?_
  refine va_iald (n := 367) (f := z 1) hx hb hK hP 1 0 rfl rfl (ck_in (by decide)) dX7_broken_5 ?_
  refine lv_istore_n (lv' := [(1, .int ((z 1) (Int32.toNatClampNeg 0))), (0, .ref za)]) hx hb dX7_broken_6 rfl hl (by decide) rfl (fun ls hl => ?_)
  refine lv_iconst (v := 1) hx hb dX7_broken_7 (by decide) ?_
  refine lv_istore_n (lv' := [(2, .int 1), (1, .int ((z 1) (Int32.toNatClampNeg 0))), (0, .ref za)]) hx hb dX7_broken_8 rfl hl (by decide) rfl (fun ls hl => ?_)
  have kx9 : ∀ (x2_9 : Int32) (ls : Array Slot), k_m_broken_9 x2_9 = some r → lv_has ls 4 [(0, .ref za), (1, .int ((z 1) (Int32.toNatClampNeg 0))), (2, .int x2_9)] → W p l e ({ frames := 2, cells := 0, slots := 0, locals := 46 } : Room) s m ([.ref za] : List Value).toArray below meth c s.heap [] 0 0 Q (F0 m 60 ls []) := by
    intro x2_9 ls hf hl
    rw [k_m_broken_9] at hf
    refine lv_iconst (v := 0) hx hb dX7_broken_60 (by decide) ?_
    exact hret _ _ _ hf dX7_broken_61
  have lh9 : ∀ (fu9 : Nat) (x2_9 : Int32) (ls : Array Slot), lp_m_broken_9 z k_m_broken_9 fu9 x2_9 = some r → lv_has ls 4 [(0, .ref za), (1, .int ((z 1) (Int32.toNatClampNeg 0))), (2, .int x2_9)] → W p l e ({ frames := 2, cells := 0, slots := 0, locals := 46 } : Room) s m ([.ref za] : List Value).toArray below meth c s.heap [] 0 0 Q (F0 m 9 ls []) := by
    intro fu9
    induction fu9 with
    | zero => intro x2_9 ls hf hl; exact no_none hf
    | succ fu9 ih9 =>
      intro x2_9 ls hf hl
      rw [lp_m_broken_9] at hf
      refine lv_iload_n hx hb dX7_broken_9 rfl (lv_at hl 2 rfl) ?_
      refine lv_iconst (v := 5) hx hb dX7_broken_10 (by decide) ?_
      refine lv_icmp_ge (tgt := 60) hx hb dX7_broken_11 (by decide) (fun c11 => ?_) (fun c11 => ?_)
      · have hf := ite_t c11 hf
        exact kx9 x2_9 _ hf (lv_sub hl [0, 1, 2] rfl)
      · have hf := ite_f c11 hf
        refine lv_iconst (v := 0) hx hb dX7_broken_14 (by decide) ?_
        refine lv_istore_n (lv' := [(3, .int 0), (0, .ref za), (1, .int ((z 1) (Int32.toNatClampNeg 0))), (2, .int x2_9)]) hx hb dX7_broken_15 rfl hl (by decide) rfl (fun ls hl => ?_)
        have kx16 : ∀ (x3_16 : Int32) (ls : Array Slot), (k_m_broken_16 x2_9 ((lp_m_broken_9 z k_m_broken_9 fu9))) x3_16 = some r → lv_has ls 4 [(0, .ref za), (1, .int ((z 1) (Int32.toNatClampNeg 0))), (2, .int x2_9), (3, .int x3_16)] → W p l e ({ frames := 2, cells := 0, slots := 0, locals := 46 } : Room) s m ([.ref za] : List Value).toArray below meth c s.heap [] 0 0 Q (F0 m 54 ls []) := by
          intro x3_16 ls hf hl
          rw [k_m_broken_16] at hf
          refine lv_iinc (v := x2_9 + 1) (lv' := [(2, .int (x2_9 + 1)), (0, .ref za), (1, .int ((z 1) (Int32.toNatClampNeg 0))), (3, .int x3_16)]) hx hb dX7_broken_54 hl (k := 2) rfl rfl (by decide) rfl (fun ls hl => ?_)
          refine lv_goto (tgt := 9) hx hb dX7_broken_57 (by decide) ?_
          exact ih9 (x2_9 + 1) _ hf (lv_sub hl [1, 2, 0] rfl)
        have lh16 : ∀ (fu16 : Nat) (x3_16 : Int32) (ls : Array Slot), lp_m_broken_16 z x2_9 (k_m_broken_16 x2_9 ((lp_m_broken_9 z k_m_broken_9 fu9))) fu16 x3_16 = some r → lv_has ls 4 [(0, .ref za), (1, .int ((z 1) (Int32.toNatClampNeg 0))), (2, .int x2_9), (3, .int x3_16)] → W p l e ({ frames := 2, cells := 0, slots := 0, locals := 46 } : Room) s m ([.ref za] : List Value).toArray below meth c s.heap [] 0 0 Q (F0 m 16 ls []) := by
          intro fu16
          induction fu16 with
          | zero => intro x3_16 ls hf hl; exact no_none hf
          | succ fu16 ih16 =>
            intro x3_16 ls hf hl
            rw [lp_m_broken_16] at hf
            refine lv_iload_n hx hb dX7_broken_16 rfl (lv_at hl 3 rfl) ?_
            refine lv_iload_n hx hb dX7_broken_17 rfl (lv_at hl 1 rfl) ?_
            refine lv_iload_n hx hb dX7_broken_18 rfl (lv_at hl 1 rfl) ?_
            refine lv_imul hx hb dX7_broken_19 ?_
            refine lv_iload_n hx hb dX7_broken_20 rfl (lv_at hl 1 rfl) ?_
            refine lv_imul hx hb dX7_broken_21 ?_
            refine lv_icmp_ge (tgt := 54) hx hb dX7_broken_22 (by decide) (fun c22 => ?_) (fun c22 => ?_)
            · have hf := ite_t c22 hf
              exact kx16 x3_16 _ hf (lv_sub hl [0, 1, 2, 3] rfl)
            · have hf := ite_f c22 hf
              refine lv_aload_n hx hb dX7_broken_25 rfl (lv_at hl 0 rfl) ?_
              refine lv_iload_n hx hb dX7_broken_26 rfl (lv_at hl 2 rfl) ?_
              refine lv_iload_n hx hb dX7_broken_27 rfl (lv_at hl 3 rfl) ?_
              refine lv_iload_n hx hb dX7_broken_28 rfl (lv_at hl 1 rfl) ?_
              obtain ⟨b29, hf⟩ := gd_some hf
              refine lv_idiv hx hb dX7_broken_29 (nz_ne b29) ?_
              refine lv_iload_n hx hb dX7_broken_30 rfl (lv_at hl 1 rfl) ?_
              obtain ⟨b31, hf⟩ := gd_some hf
              refine lv_idiv hx hb dX7_broken_31 (nz_ne b31) ?_
              refine lv_iload_n hx hb dX7_broken_32 rfl (lv_at hl 3 rfl) ?_
              refine lv_iload_n hx hb dX7_broken_33 rfl (lv_at hl 1 rfl) ?_
              obtain ⟨b34, hf⟩ := gd_some hf
              refine lv_idiv hx hb dX7_broken_34 (nz_ne b34) ?_
              refine lv_iload_n hx hb dX7_broken_35 rfl (lv_at hl 1 rfl) ?_
              obtain ⟨b36, hf⟩ := gd_some hf
              refine lv_irem hx hb dX7_broken_36 (nz_ne b36) ?_
              refine lv_iload_n hx hb dX7_broken_37 rfl (lv_at hl 3 rfl) ?_
              refine lv_iload_n hx hb dX7_broken_38 rfl (lv_at hl 1 rfl) ?_
              obtain ⟨b39, hf⟩ := gd_some hf
              refine lv_irem hx hb dX7_broken_39 (nz_ne b39) ?_
              obtain ⟨q40, h40, hf⟩ := bd_some hf
              refine kx_rv (As := [.int x2_9, .int ((x3_16 / ((z 1) (Int32.toNatClampNeg 0))) / ((z 1) (Int32.toNatClampNeg 0))), .int ((x3_16 / ((z 1) (Int32.toNatClampNeg 0))) - (x3_16 / ((z 1) (Int32.toNatClampNeg 0))) / ((z 1) (Int32.toNatClampNeg 0)) * ((z 1) (Int32.toNatClampNeg 0))), .int (x3_16 - x3_16 / ((z 1) (Int32.toNatClampNeg 0)) * ((z 1) (Int32.toNatClampNeg 0)))]) (rest := []) hx hb hml hown hts hk hP hl.1 s_yX7_holds v_yX7_holds (c_m_holds l D cI cZ cR za z1 z2 z3 z4 z5 z6 z7 z8 z9 z x2_9 ((x3_16 / ((z 1) (Int32.toNatClampNeg 0))) / ((z 1) (Int32.toNatClampNeg 0))) ((x3_16 / ((z 1) (Int32.toNatClampNeg 0))) - (x3_16 / ((z 1) (Int32.toNatClampNeg 0))) / ((z 1) (Int32.toNatClampNeg 0)) * ((z 1) (Int32.toNatClampNeg 0))) (x3_16 - x3_16 / ((z 1) (Int32.toNatClampNeg 0)) * ((z 1) (Int32.toNatClampNeg 0))) _ h40) mT_627 rfl rfl ⟨Nat.le_of_ble_eq_true rfl, Nat.le_of_ble_eq_true rfl⟩ (ci := 7) (q0 := 0) rfl rfl rfl (Nat.le_of_ble_eq_true rfl) ⟨Nat.zero_le _, Nat.zero_le _⟩ dX7_broken_40 ?_
              refine lv_if_ne (tgt := 48) hx hb dX7_broken_43 (by decide) (fun c43 => ?_) (fun c43 => ?_)
              · have hf := ite_f c43 hf
                refine lv_iinc (v := x3_16 + 1) (lv' := [(3, .int (x3_16 + 1)), (0, .ref za), (1, .int ((z 1) (Int32.toNatClampNeg 0))), (2, .int x2_9)]) hx hb dX7_broken_48 hl (k := 3) rfl rfl (by decide) rfl (fun ls hl => ?_)
                refine lv_goto (tgt := 16) hx hb dX7_broken_51 (by decide) ?_
                exact ih16 (x3_16 + 1) _ hf (lv_sub hl [1, 2, 3, 0] rfl)
              · have hf := ite_t c43 hf
                refine lv_iload_n hx hb dX7_broken_46 rfl (lv_at hl 2 rfl) ?_
                exact hret _ _ _ hf dX7_broken_47
        exact lh16 10000 0 _ hf (lv_sub hl [1, 2, 3, 0] rfl)
  exact lh9 10000 1 _ hf (lv_sub hl [2, 1, 0] rfl)
theorem s_yX7_isPlace : kMS yX7_isPlace cX7_isPlace 2 (some .boolean) 1 := ⟨mT_718, mT_59, by decide +kernel⟩
theorem v_yX7_isPlace : kMV yX7_isPlace := ⟨mT_717, mT_41⟩
def f_m_isPlace (z : Ob) (x : Int32) : Option Int32 := bd (f_m_in x 0 (((z 1) (Int32.toNatClampNeg 1)) - 1)) (fun q10 => gd (bz q10) (some q10))
set_option maxHeartbeats 4000000 in
set_option maxRecDepth 100000 in
theorem c_m_isPlace (l : Launch) (D : va_G) (cI cZ cR : ClassId) (za z1 z2 z3 z4 z5 z6 z7 z8 z9 : Nat) (z : Ob) (x : Int32) (r : Int32) (hf : f_m_isPlace z x = some r) : kCr l yX7_isPlace cX7_isPlace 2 (some .boolean) { frames := 1, cells := 0, slots := 0, locals := 22 } [.ref za, .int x] D cI cZ cR (cModel cI cZ za z1 z2 z3 z4 z5 z6 z7 z8 z9 z) r := by
  refine kMrz (by decide) (Nat.le_of_ble_eq_true rfl) ?_
  intro p e s m below meth c Q hx hb hml hown hts hk hP hret ls hl
  have hK := hk.1
  have hl : lv_has ls 2 [(0, .ref za), (1, .int x)] := hl
  rw [f_m_isPlace] at hf
  refine lv_iload_n hx hb dX7_isPlace_0 rfl (lv_at hl 1 rfl) ?_
  refine lv_iconst (v := 0) hx hb dX7_isPlace_1 (by decide) ?_
  refine lv_aload_n hx hb dX7_isPlace_2 rfl (lv_at hl 0 rfl) ?_
  refine va_get (D := D) (ci := 7) (v := .ref z1) (C := RX7) (T := TX7) (N := 17) hx hb hts inT7 hown hK hP 0 rfl rfl 0 (by decide) (hts _ mT_566) (fun _ h9 => h9) rfl dX7_isPlace_3 ?_
  refine lv_iconst (v := 1) hx hb dX7_isPlace_6 (by decide) ?_
  refine va_iald (n := 367) (f := z 1) hx hb hK hP 1 0 rfl rfl (ck_in (by decide)) dX7_isPlace_7 ?_
  refine lv_iconst (v := 1) hx hb dX7_isPlace_8 (by decide) ?_
  refine lv_isub hx hb dX7_isPlace_9 ?_
  obtain ⟨q10, h10, hf⟩ := bd_some hf
  refine kx_rs (As := [.int x, .int 0, .int (((z 1) (Int32.toNatClampNeg 1)) - 1)]) (rest := []) hx hb hml hown hts hk hl.1 s_yX7_in mT_720 (c_m_in l D cI cZ cR x 0 (((z 1) (Int32.toNatClampNeg 1)) - 1) _ h10) mT_719 rfl rfl ⟨Nat.le_of_ble_eq_true rfl, Nat.le_of_ble_eq_true rfl⟩ rfl (Nat.le_of_ble_eq_true rfl) ⟨Nat.zero_le _, Nat.zero_le _⟩ dX7_isPlace_10 ?_
  obtain ⟨b13, hf⟩ := gd_some hf
  exact hret _ _ _ hf (bz_or b13) dX7_isPlace_13
theorem s_yX7_isWay : kMS yX7_isWay cX7_isWay 2 (some .boolean) 1 := ⟨mT_755, mT_59, by decide +kernel⟩
theorem v_yX7_isWay : kMV yX7_isWay := ⟨mT_754, mT_45⟩
def f_m_isWay (z : Ob) (x : Int32) : Option Int32 := bd (f_m_in x 0 (((z 1) (Int32.toNatClampNeg 2)) - 1)) (fun q10 => gd (bz q10) (some q10))
set_option maxHeartbeats 4000000 in
set_option maxRecDepth 100000 in
theorem c_m_isWay (l : Launch) (D : va_G) (cI cZ cR : ClassId) (za z1 z2 z3 z4 z5 z6 z7 z8 z9 : Nat) (z : Ob) (x : Int32) (r : Int32) (hf : f_m_isWay z x = some r) : kCr l yX7_isWay cX7_isWay 2 (some .boolean) { frames := 1, cells := 0, slots := 0, locals := 22 } [.ref za, .int x] D cI cZ cR (cModel cI cZ za z1 z2 z3 z4 z5 z6 z7 z8 z9 z) r := by
  refine kMrz (by decide) (Nat.le_of_ble_eq_true rfl) ?_
  intro p e s m below meth c Q hx hb hml hown hts hk hP hret ls hl
  have hK := hk.1
  have hl : lv_has ls 2 [(0, .ref za), (1, .int x)] := hl
  rw [f_m_isWay] at hf
  refine lv_iload_n hx hb dX7_isWay_0 rfl (lv_at hl 1 rfl) ?_
  refine lv_iconst (v := 0) hx hb dX7_isWay_1 (by decide) ?_
  refine lv_aload_n hx hb dX7_isWay_2 rfl (lv_at hl 0 rfl) ?_
  refine va_get (D := D) (ci := 7) (v := .ref z1) (C := RX7) (T := TX7) (N := 17) hx hb hts inT7 hown hK hP 0 rfl rfl 0 (by decide) (hts _ mT_566) (fun _ h9 => h9) rfl dX7_isWay_3 ?_
  refine lv_iconst (v := 2) hx hb dX7_isWay_6 (by decide) ?_
  refine va_iald (n := 367) (f := z 1) hx hb hK hP 1 0 rfl rfl (ck_in (by decide)) dX7_isWay_7 ?_
  refine lv_iconst (v := 1) hx hb dX7_isWay_8 (by decide) ?_
  refine lv_isub hx hb dX7_isWay_9 ?_
  obtain ⟨q10, h10, hf⟩ := bd_some hf
  refine kx_rs (As := [.int x, .int 0, .int (((z 1) (Int32.toNatClampNeg 2)) - 1)]) (rest := []) hx hb hml hown hts hk hl.1 s_yX7_in mT_720 (c_m_in l D cI cZ cR x 0 (((z 1) (Int32.toNatClampNeg 2)) - 1) _ h10) mT_719 rfl rfl ⟨Nat.le_of_ble_eq_true rfl, Nat.le_of_ble_eq_true rfl⟩ rfl (Nat.le_of_ble_eq_true rfl) ⟨Nat.zero_le _, Nat.zero_le _⟩ dX7_isWay_10 ?_
  obtain ⟨b13, hf⟩ := gd_some hf
  exact hret _ _ _ hf (bz_or b13) dX7_isWay_13
theorem s_yX7_of : kMS yX7_of cX7_of 3 (some .int) 2 := ⟨mT_650, mT_59, by decide +kernel⟩
theorem v_yX7_of : kMV yX7_of := ⟨mT_649, mT_24⟩
def f_m_of (z : Ob) (x : Int32) (y : Int32) : Option Int32 := gd (ck ((107 + (13 * x)) + y) 367) (some ((z 1) (Int32.toNatClampNeg ((107 + (13 * x)) + y))))
set_option maxHeartbeats 4000000 in
set_option maxRecDepth 100000 in
theorem c_m_of (l : Launch) (D : va_G) (cI cZ cR : ClassId) (za z1 z2 z3 z4 z5 z6 z7 z8 z9 : Nat) (z : Ob) (x : Int32) (y : Int32) (r : Int32) (hf : f_m_of z x y = some r) : kCr l yX7_of cX7_of 3 (some .int) { frames := 0, cells := 0, slots := 0, locals := 0 } [.ref za, .int x, .int y] D cI cZ cR (cModel cI cZ za z1 z2 z3 z4 z5 z6 z7 z8 z9 z) r := by
  refine kMri (by decide) (Nat.le_of_ble_eq_true rfl) ?_
  intro p e s m below meth c Q hx hb hml hown hts hk hP hret ls hl
  have hK := hk.1
  have hl : lv_has ls 3 [(0, .ref za), (1, .int x), (2, .int y)] := hl
  rw [f_m_of] at hf
  refine lv_aload_n hx hb dX7_of_0 rfl (lv_at hl 0 rfl) ?_
  refine va_get (D := D) (ci := 7) (v := .ref z1) (C := RX7) (T := TX7) (N := 17) hx hb hts inT7 hown hK hP 0 rfl rfl 0 (by decide) (hts _ mT_566) (fun _ h9 => h9) rfl dX7_of_1 ?_
  refine lv_bipush (v := 107) hx hb dX7_of_4 (by decide) ?_
  refine lv_bipush (v := 13) hx hb dX7_of_6 (by decide) ?_
  refine lv_iload_n hx hb dX7_of_8 rfl (lv_at hl 1 rfl) ?_
  refine lv_imul hx hb dX7_of_9 ?_
  refine lv_iadd hx hb dX7_of_10 ?_
  refine lv_iload_n hx hb dX7_of_11 rfl (lv_at hl 2 rfl) ?_
  refine lv_iadd hx hb dX7_of_12 ?_
  obtain ⟨b13, hf⟩ := gd_some hf
  refine va_iald (n := 367) (f := z 1) hx hb hK hP 1 0 rfl rfl (ck_in b13) dX7_of_13 ?_
  exact hret _ _ _ hf dX7_of_14
theorem s_yX7_keepsOrder : kMS yX7_keepsOrder cX7_keepsOrder 4 (some .boolean) 1 := ⟨mT_642, mT_59, by decide +kernel⟩
theorem v_yX7_keepsOrder : kMV yX7_keepsOrder := ⟨mT_641, mT_22⟩
def k_m_keepsOrder_2 (x2_2 : Int32) : Option Int32 := some 1
def k_m_keepsOrder_14 (x2_2 : Int32) (go_L2 : Int32 → Option Int32) (x3_14 : Int32) : Option Int32 := go_L2 (x2_2 + 1)
def lp_m_keepsOrder_14 (z : Ob) (x : Int32) (x2_2 : Int32) (kk0 : Int32 → Option Int32) : Nat → Int32 → Option Int32
  | 0, _ => none
  | fu14 + 1, x3_14 => if ((z 1) (Int32.toNatClampNeg 0)) ≤ x3_14 then (kk0 x3_14) else (bd (f_m_isBelow z x2_2 x3_14) (fun q27 => if q27 = 0 then ((lp_m_keepsOrder_14 z x x2_2 kk0 fu14) (x3_14 + 1)) else (bd (f_m_of z x (5 + x2_2)) (fun q39 => bd (f_m_of z x (5 + x3_14)) (fun q47 => bd (f_m_isBelow z q39 q47) (fun q50 => if q50 = 0 then (some 0) else ((lp_m_keepsOrder_14 z x x2_2 kk0 fu14) (x3_14 + 1))))))))
def lp_m_keepsOrder_2 (z : Ob) (x : Int32) (kk0 : Int32 → Option Int32) : Nat → Int32 → Option Int32
  | 0, _ => none
  | fu2 + 1, x2_2 => if ((z 1) (Int32.toNatClampNeg 0)) ≤ x2_2 then (kk0 x2_2) else (lp_m_keepsOrder_14 z x x2_2 (k_m_keepsOrder_14 x2_2 ((lp_m_keepsOrder_2 z x kk0 fu2))) 10000 0)
def f_m_keepsOrder (z : Ob) (x : Int32) : Option Int32 := lp_m_keepsOrder_2 z x k_m_keepsOrder_2 10000 0
set_option maxHeartbeats 4000000 in
set_option maxRecDepth 100000 in
theorem c_m_keepsOrder (l : Launch) (D : va_G) (cI cZ cR : ClassId) (za z1 z2 z3 z4 z5 z6 z7 z8 z9 : Nat) (z : Ob) (x : Int32) (r : Int32) (hf : f_m_keepsOrder z x = some r) : kCr l yX7_keepsOrder cX7_keepsOrder 4 (some .boolean) { frames := 2, cells := 0, slots := 0, locals := 44 } [.ref za, .int x] D cI cZ cR (cModel cI cZ za z1 z2 z3 z4 z5 z6 z7 z8 z9 z) r := by
  refine kMrz (by decide) (Nat.le_of_ble_eq_true rfl) ?_
  intro p e s m below meth c Q hx hb hml hown hts hk hP hret ls hl
  have hK := hk.1
  have hl : lv_has ls 4 [(0, .ref za), (1, .int x)] := hl
  rw [f_m_keepsOrder] at hf
  refine lv_iconst (v := 0) hx hb dX7_keepsOrder_0 (by decide) ?_
  refine lv_istore_n (lv' := [(2, .int 0), (0, .ref za), (1, .int x)]) hx hb dX7_keepsOrder_1 rfl hl (by decide) rfl (fun ls hl => ?_)
  have kx2 : ∀ (x2_2 : Int32) (ls : Array Slot), k_m_keepsOrder_2 x2_2 = some r → lv_has ls 4 [(0, .ref za), (1, .int x), (2, .int x2_2)] → W p l e ({ frames := 2, cells := 0, slots := 0, locals := 44 } : Room) s m ([.ref za, .int x] : List Value).toArray below meth c s.heap [] 0 0 Q (F0 m 70 ls []) := by
    intro x2_2 ls hf hl
    rw [k_m_keepsOrder_2] at hf
    refine lv_iconst (v := 1) hx hb dX7_keepsOrder_70 (by decide) ?_
    exact hret _ _ _ hf (Or.inr rfl) dX7_keepsOrder_71
  have lh2 : ∀ (fu2 : Nat) (x2_2 : Int32) (ls : Array Slot), lp_m_keepsOrder_2 z x k_m_keepsOrder_2 fu2 x2_2 = some r → lv_has ls 4 [(0, .ref za), (1, .int x), (2, .int x2_2)] → W p l e ({ frames := 2, cells := 0, slots := 0, locals := 44 } : Room) s m ([.ref za, .int x] : List Value).toArray below meth c s.heap [] 0 0 Q (F0 m 2 ls []) := by
    intro fu2
    induction fu2 with
    | zero => intro x2_2 ls hf hl; exact no_none hf
    | succ fu2 ih2 =>
      intro x2_2 ls hf hl
      rw [lp_m_keepsOrder_2] at hf
      refine lv_iload_n hx hb dX7_keepsOrder_2 rfl (lv_at hl 2 rfl) ?_
      refine lv_aload_n hx hb dX7_keepsOrder_3 rfl (lv_at hl 0 rfl) ?_
      refine va_get (D := D) (ci := 7) (v := .ref z1) (C := RX7) (T := TX7) (N := 17) hx hb hts inT7 hown hK hP 0 rfl rfl 0 (by decide) (hts _ mT_566) (fun _ h9 => h9) rfl dX7_keepsOrder_4 ?_
      refine lv_iconst (v := 0) hx hb dX7_keepsOrder_7 (by decide) ?_
      refine va_iald (n := 367) (f := z 1) hx hb hK hP 1 0 rfl rfl (ck_in (by decide)) dX7_keepsOrder_8 ?_
      refine lv_icmp_ge (tgt := 70) hx hb dX7_keepsOrder_9 (by decide) (fun c9 => ?_) (fun c9 => ?_)
      · have hf := ite_t c9 hf
        exact kx2 x2_2 _ hf (lv_sub hl [0, 1, 2] rfl)
      · have hf := ite_f c9 hf
        refine lv_iconst (v := 0) hx hb dX7_keepsOrder_12 (by decide) ?_
        refine lv_istore_n (lv' := [(3, .int 0), (0, .ref za), (1, .int x), (2, .int x2_2)]) hx hb dX7_keepsOrder_13 rfl hl (by decide) rfl (fun ls hl => ?_)
        have kx14 : ∀ (x3_14 : Int32) (ls : Array Slot), (k_m_keepsOrder_14 x2_2 ((lp_m_keepsOrder_2 z x k_m_keepsOrder_2 fu2))) x3_14 = some r → lv_has ls 4 [(0, .ref za), (1, .int x), (2, .int x2_2), (3, .int x3_14)] → W p l e ({ frames := 2, cells := 0, slots := 0, locals := 44 } : Room) s m ([.ref za, .int x] : List Value).toArray below meth c s.heap [] 0 0 Q (F0 m 64 ls []) := by
          intro x3_14 ls hf hl
          rw [k_m_keepsOrder_14] at hf
          refine lv_iinc (v := x2_2 + 1) (lv' := [(2, .int (x2_2 + 1)), (0, .ref za), (1, .int x), (3, .int x3_14)]) hx hb dX7_keepsOrder_64 hl (k := 2) rfl rfl (by decide) rfl (fun ls hl => ?_)
          refine lv_goto (tgt := 2) hx hb dX7_keepsOrder_67 (by decide) ?_
          exact ih2 (x2_2 + 1) _ hf (lv_sub hl [1, 2, 0] rfl)
        have lh14 : ∀ (fu14 : Nat) (x3_14 : Int32) (ls : Array Slot), lp_m_keepsOrder_14 z x x2_2 (k_m_keepsOrder_14 x2_2 ((lp_m_keepsOrder_2 z x k_m_keepsOrder_2 fu2))) fu14 x3_14 = some r → lv_has ls 4 [(0, .ref za), (1, .int x), (2, .int x2_2), (3, .int x3_14)] → W p l e ({ frames := 2, cells := 0, slots := 0, locals := 44 } : Room) s m ([.ref za, .int x] : List Value).toArray below meth c s.heap [] 0 0 Q (F0 m 14 ls []) := by
          intro fu14
          induction fu14 with
          | zero => intro x3_14 ls hf hl; exact no_none hf
          | succ fu14 ih14 =>
            intro x3_14 ls hf hl
            rw [lp_m_keepsOrder_14] at hf
            refine lv_iload_n hx hb dX7_keepsOrder_14 rfl (lv_at hl 3 rfl) ?_
            refine lv_aload_n hx hb dX7_keepsOrder_15 rfl (lv_at hl 0 rfl) ?_
            refine va_get (D := D) (ci := 7) (v := .ref z1) (C := RX7) (T := TX7) (N := 17) hx hb hts inT7 hown hK hP 0 rfl rfl 0 (by decide) (hts _ mT_566) (fun _ h9 => h9) rfl dX7_keepsOrder_16 ?_
            refine lv_iconst (v := 0) hx hb dX7_keepsOrder_19 (by decide) ?_
            refine va_iald (n := 367) (f := z 1) hx hb hK hP 1 0 rfl rfl (ck_in (by decide)) dX7_keepsOrder_20 ?_
            refine lv_icmp_ge (tgt := 64) hx hb dX7_keepsOrder_21 (by decide) (fun c21 => ?_) (fun c21 => ?_)
            · have hf := ite_t c21 hf
              exact kx14 x3_14 _ hf (lv_sub hl [0, 1, 2, 3] rfl)
            · have hf := ite_f c21 hf
              refine lv_aload_n hx hb dX7_keepsOrder_24 rfl (lv_at hl 0 rfl) ?_
              refine lv_iload_n hx hb dX7_keepsOrder_25 rfl (lv_at hl 2 rfl) ?_
              refine lv_iload_n hx hb dX7_keepsOrder_26 rfl (lv_at hl 3 rfl) ?_
              obtain ⟨q27, h27, hf⟩ := bd_some hf
              refine kx_rv (As := [.int x2_2, .int x3_14]) (rest := []) hx hb hml hown hts hk hP hl.1 s_yX7_isBelow v_yX7_isBelow (c_m_isBelow l D cI cZ cR za z1 z2 z3 z4 z5 z6 z7 z8 z9 z x2_2 x3_14 _ h27) mT_643 rfl rfl ⟨Nat.le_of_ble_eq_true rfl, Nat.le_of_ble_eq_true rfl⟩ (ci := 7) (q0 := 0) rfl rfl rfl (Nat.le_of_ble_eq_true rfl) ⟨Nat.zero_le _, Nat.zero_le _⟩ dX7_keepsOrder_27 ?_
              refine lv_if_eq (tgt := 58) hx hb dX7_keepsOrder_30 (by decide) (fun c30 => ?_) (fun c30 => ?_)
              · have hf := ite_t c30 hf
                refine lv_iinc (v := x3_14 + 1) (lv' := [(3, .int (x3_14 + 1)), (0, .ref za), (1, .int x), (2, .int x2_2)]) hx hb dX7_keepsOrder_58 hl (k := 3) rfl rfl (by decide) rfl (fun ls hl => ?_)
                refine lv_goto (tgt := 14) hx hb dX7_keepsOrder_61 (by decide) ?_
                exact ih14 (x3_14 + 1) _ hf (lv_sub hl [1, 2, 3, 0] rfl)
              · have hf := ite_f c30 hf
                refine lv_aload_n hx hb dX7_keepsOrder_33 rfl (lv_at hl 0 rfl) ?_
                refine lv_aload_n hx hb dX7_keepsOrder_34 rfl (lv_at hl 0 rfl) ?_
                refine lv_iload_n hx hb dX7_keepsOrder_35 rfl (lv_at hl 1 rfl) ?_
                refine lv_iconst (v := 5) hx hb dX7_keepsOrder_36 (by decide) ?_
                refine lv_iload_n hx hb dX7_keepsOrder_37 rfl (lv_at hl 2 rfl) ?_
                refine lv_iadd hx hb dX7_keepsOrder_38 ?_
                obtain ⟨q39, h39, hf⟩ := bd_some hf
                refine kx_rv (As := [.int x, .int (5 + x2_2)]) (rest := [.ref za]) hx hb hml hown hts hk hP hl.1 s_yX7_of v_yX7_of (c_m_of l D cI cZ cR za z1 z2 z3 z4 z5 z6 z7 z8 z9 z x (5 + x2_2) _ h39) mT_647 rfl rfl ⟨Nat.le_of_ble_eq_true rfl, Nat.le_of_ble_eq_true rfl⟩ (ci := 7) (q0 := 0) rfl rfl rfl (Nat.le_of_ble_eq_true rfl) ⟨Nat.zero_le _, Nat.zero_le _⟩ dX7_keepsOrder_39 ?_
                refine lv_aload_n hx hb dX7_keepsOrder_42 rfl (lv_at hl 0 rfl) ?_
                refine lv_iload_n hx hb dX7_keepsOrder_43 rfl (lv_at hl 1 rfl) ?_
                refine lv_iconst (v := 5) hx hb dX7_keepsOrder_44 (by decide) ?_
                refine lv_iload_n hx hb dX7_keepsOrder_45 rfl (lv_at hl 3 rfl) ?_
                refine lv_iadd hx hb dX7_keepsOrder_46 ?_
                obtain ⟨q47, h47, hf⟩ := bd_some hf
                refine kx_rv (As := [.int x, .int (5 + x3_14)]) (rest := [.int q39, .ref za]) hx hb hml hown hts hk hP hl.1 s_yX7_of v_yX7_of (c_m_of l D cI cZ cR za z1 z2 z3 z4 z5 z6 z7 z8 z9 z x (5 + x3_14) _ h47) mT_647 rfl rfl ⟨Nat.le_of_ble_eq_true rfl, Nat.le_of_ble_eq_true rfl⟩ (ci := 7) (q0 := 0) rfl rfl rfl (Nat.le_of_ble_eq_true rfl) ⟨Nat.zero_le _, Nat.zero_le _⟩ dX7_keepsOrder_47 ?_
                obtain ⟨q50, h50, hf⟩ := bd_some hf
                refine kx_rv (As := [.int q39, .int q47]) (rest := []) hx hb hml hown hts hk hP hl.1 s_yX7_isBelow v_yX7_isBelow (c_m_isBelow l D cI cZ cR za z1 z2 z3 z4 z5 z6 z7 z8 z9 z q39 q47 _ h50) mT_643 rfl rfl ⟨Nat.le_of_ble_eq_true rfl, Nat.le_of_ble_eq_true rfl⟩ (ci := 7) (q0 := 0) rfl rfl rfl (Nat.le_of_ble_eq_true rfl) ⟨Nat.zero_le _, Nat.zero_le _⟩ dX7_keepsOrder_50 ?_
                refine lv_if_ne (tgt := 58) hx hb dX7_keepsOrder_53 (by decide) (fun c53 => ?_) (fun c53 => ?_)
                · have hf := ite_f c53 hf
                  refine lv_iinc (v := x3_14 + 1) (lv' := [(3, .int (x3_14 + 1)), (0, .ref za), (1, .int x), (2, .int x2_2)]) hx hb dX7_keepsOrder_58 hl (k := 3) rfl rfl (by decide) rfl (fun ls hl => ?_)
                  refine lv_goto (tgt := 14) hx hb dX7_keepsOrder_61 (by decide) ?_
                  exact ih14 (x3_14 + 1) _ hf (lv_sub hl [1, 2, 3, 0] rfl)
                · have hf := ite_t c53 hf
                  refine lv_iconst (v := 0) hx hb dX7_keepsOrder_56 (by decide) ?_
                  exact hret _ _ _ hf (Or.inl rfl) dX7_keepsOrder_57
        exact lh14 10000 0 _ hf (lv_sub hl [1, 2, 3, 0] rfl)
  exact lh2 10000 0 _ hf (lv_sub hl [1, 2, 0] rfl)
theorem s_yX7_firstUnordered : kMS yX7_firstUnordered cX7_firstUnordered 2 (some .int) 0 := ⟨mT_638, mT_59, by decide +kernel⟩
theorem v_yX7_firstUnordered : kMV yX7_firstUnordered := ⟨mT_637, mT_21⟩
def k_m_firstUnordered_2 (x1_2 : Int32) : Option Int32 := some (-1)
def lp_m_firstUnordered_2 (z : Ob) (kk0 : Int32 → Option Int32) : Nat → Int32 → Option Int32
  | 0, _ => none
  | fu2 + 1, x1_2 => if ((z 1) (Int32.toNatClampNeg 2)) ≤ x1_2 then (kk0 x1_2) else (bd (f_m_keepsOrder z x1_2) (fun q14 => if q14 = 0 then (some x1_2) else ((lp_m_firstUnordered_2 z kk0 fu2) (x1_2 + 1))))
def f_m_firstUnordered (z : Ob) : Option Int32 := lp_m_firstUnordered_2 z k_m_firstUnordered_2 10000 0
set_option maxHeartbeats 4000000 in
set_option maxRecDepth 100000 in
theorem c_m_firstUnordered (l : Launch) (D : va_G) (cI cZ cR : ClassId) (za z1 z2 z3 z4 z5 z6 z7 z8 z9 : Nat) (z : Ob) (r : Int32) (hf : f_m_firstUnordered z = some r) : kCr l yX7_firstUnordered cX7_firstUnordered 2 (some .int) { frames := 3, cells := 0, slots := 0, locals := 67 } [.ref za] D cI cZ cR (cModel cI cZ za z1 z2 z3 z4 z5 z6 z7 z8 z9 z) r := by
  refine kMri (by decide) (Nat.le_of_ble_eq_true rfl) ?_
  intro p e s m below meth c Q hx hb hml hown hts hk hP hret ls hl
  have hK := hk.1
  have hl : lv_has ls 2 [(0, .ref za)] := hl
  rw [f_m_firstUnordered] at hf
  refine lv_iconst (v := 0) hx hb dX7_firstUnordered_0 (by decide) ?_
  refine lv_istore_n (lv' := [(1, .int 0), (0, .ref za)]) hx hb dX7_firstUnordered_1 rfl hl (by decide) rfl (fun ls hl => ?_)
  have kx2 : ∀ (x1_2 : Int32) (ls : Array Slot), k_m_firstUnordered_2 x1_2 = some r → lv_has ls 2 [(0, .ref za), (1, .int x1_2)] → W p l e ({ frames := 3, cells := 0, slots := 0, locals := 67 } : Room) s m ([.ref za] : List Value).toArray below meth c s.heap [] 0 0 Q (F0 m 28 ls []) := by
    intro x1_2 ls hf hl
    rw [k_m_firstUnordered_2] at hf
    refine lv_iconst (v := (-1)) hx hb dX7_firstUnordered_28 (by decide) ?_
    exact hret _ _ _ hf dX7_firstUnordered_29
  have lh2 : ∀ (fu2 : Nat) (x1_2 : Int32) (ls : Array Slot), lp_m_firstUnordered_2 z k_m_firstUnordered_2 fu2 x1_2 = some r → lv_has ls 2 [(0, .ref za), (1, .int x1_2)] → W p l e ({ frames := 3, cells := 0, slots := 0, locals := 67 } : Room) s m ([.ref za] : List Value).toArray below meth c s.heap [] 0 0 Q (F0 m 2 ls []) := by
    intro fu2
    induction fu2 with
    | zero => intro x1_2 ls hf hl; exact no_none hf
    | succ fu2 ih2 =>
      intro x1_2 ls hf hl
      rw [lp_m_firstUnordered_2] at hf
      refine lv_iload_n hx hb dX7_firstUnordered_2 rfl (lv_at hl 1 rfl) ?_
      refine lv_aload_n hx hb dX7_firstUnordered_3 rfl (lv_at hl 0 rfl) ?_
      refine va_get (D := D) (ci := 7) (v := .ref z1) (C := RX7) (T := TX7) (N := 17) hx hb hts inT7 hown hK hP 0 rfl rfl 0 (by decide) (hts _ mT_566) (fun _ h9 => h9) rfl dX7_firstUnordered_4 ?_
      refine lv_iconst (v := 2) hx hb dX7_firstUnordered_7 (by decide) ?_
      refine va_iald (n := 367) (f := z 1) hx hb hK hP 1 0 rfl rfl (ck_in (by decide)) dX7_firstUnordered_8 ?_
      refine lv_icmp_ge (tgt := 28) hx hb dX7_firstUnordered_9 (by decide) (fun c9 => ?_) (fun c9 => ?_)
      · have hf := ite_t c9 hf
        exact kx2 x1_2 _ hf (lv_sub hl [0, 1] rfl)
      · have hf := ite_f c9 hf
        refine lv_aload_n hx hb dX7_firstUnordered_12 rfl (lv_at hl 0 rfl) ?_
        refine lv_iload_n hx hb dX7_firstUnordered_13 rfl (lv_at hl 1 rfl) ?_
        obtain ⟨q14, h14, hf⟩ := bd_some hf
        refine kx_rv (As := [.int x1_2]) (rest := []) hx hb hml hown hts hk hP hl.1 s_yX7_keepsOrder v_yX7_keepsOrder (c_m_keepsOrder l D cI cZ cR za z1 z2 z3 z4 z5 z6 z7 z8 z9 z x1_2 _ h14) mT_639 rfl rfl ⟨Nat.le_of_ble_eq_true rfl, Nat.le_of_ble_eq_true rfl⟩ (ci := 7) (q0 := 0) rfl rfl rfl (Nat.le_of_ble_eq_true rfl) ⟨Nat.zero_le _, Nat.zero_le _⟩ dX7_firstUnordered_14 ?_
        refine lv_if_ne (tgt := 22) hx hb dX7_firstUnordered_17 (by decide) (fun c17 => ?_) (fun c17 => ?_)
        · have hf := ite_f c17 hf
          refine lv_iinc (v := x1_2 + 1) (lv' := [(1, .int (x1_2 + 1)), (0, .ref za)]) hx hb dX7_firstUnordered_22 hl (k := 1) rfl rfl (by decide) rfl (fun ls hl => ?_)
          refine lv_goto (tgt := 2) hx hb dX7_firstUnordered_25 (by decide) ?_
          exact ih2 (x1_2 + 1) _ hf (lv_sub hl [1, 0] rfl)
        · have hf := ite_t c17 hf
          refine lv_iload_n hx hb dX7_firstUnordered_20 rfl (lv_at hl 1 rfl) ?_
          exact hret _ _ _ hf dX7_firstUnordered_21
  exact lh2 10000 0 _ hf (lv_sub hl [1, 0] rfl)
theorem s_yX7_isWell : kMS yX7_isWell cX7_isWell 1 (some .boolean) 0 := ⟨mT_654, mT_59, by decide +kernel⟩
theorem v_yX7_isWell : kMV yX7_isWell := ⟨mT_653, mT_25⟩
def f_m_isWell (z : Ob) : Option Int32 := bd (f_m_broken z) (fun q1 => if q1 = 0 then (bd (f_m_firstUnordered z) (fun q8 => if q8 = (-1) then (some 1) else (some 0))) else (some 0))
set_option maxHeartbeats 4000000 in
set_option maxRecDepth 100000 in
theorem c_m_isWell (l : Launch) (D : va_G) (cI cZ cR : ClassId) (za z1 z2 z3 z4 z5 z6 z7 z8 z9 : Nat) (z : Ob) (r : Int32) (hf : f_m_isWell z = some r) : kCr l yX7_isWell cX7_isWell 1 (some .boolean) { frames := 4, cells := 0, slots := 0, locals := 88 } [.ref za] D cI cZ cR (cModel cI cZ za z1 z2 z3 z4 z5 z6 z7 z8 z9 z) r := by
  refine kMrz (by decide) (Nat.le_of_ble_eq_true rfl) ?_
  intro p e s m below meth c Q hx hb hml hown hts hk hP hret ls hl
  have hK := hk.1
  have hl : lv_has ls 1 [(0, .ref za)] := hl
  rw [f_m_isWell] at hf
  refine lv_aload_n hx hb dX7_isWell_0 rfl (lv_at hl 0 rfl) ?_
  obtain ⟨q1, h1, hf⟩ := bd_some hf
  refine kx_rv (As := []) (rest := []) hx hb hml hown hts hk hP hl.1 s_yX7_broken v_yX7_broken (c_m_broken l D cI cZ cR za z1 z2 z3 z4 z5 z6 z7 z8 z9 z _ h1) mT_623 rfl rfl ⟨Nat.le_of_ble_eq_true rfl, Nat.le_of_ble_eq_true rfl⟩ (ci := 7) (q0 := 0) rfl rfl rfl (Nat.le_of_ble_eq_true rfl) ⟨Nat.zero_le _, Nat.zero_le _⟩ dX7_isWell_1 ?_
  refine lv_if_ne (tgt := 19) hx hb dX7_isWell_4 (by decide) (fun c4 => ?_) (fun c4 => ?_)
  · have hf := ite_f c4 hf
    refine lv_iconst (v := 0) hx hb dX7_isWell_19 (by decide) ?_
    exact hret _ _ _ hf (Or.inl rfl) dX7_isWell_20
  · have hf := ite_t c4 hf
    refine lv_aload_n hx hb dX7_isWell_7 rfl (lv_at hl 0 rfl) ?_
    obtain ⟨q8, h8, hf⟩ := bd_some hf
    refine kx_rv (As := []) (rest := []) hx hb hml hown hts hk hP hl.1 s_yX7_firstUnordered v_yX7_firstUnordered (c_m_firstUnordered l D cI cZ cR za z1 z2 z3 z4 z5 z6 z7 z8 z9 z _ h8) mT_635 rfl rfl ⟨Nat.le_of_ble_eq_true rfl, Nat.le_of_ble_eq_true rfl⟩ (ci := 7) (q0 := 0) rfl rfl rfl (Nat.le_of_ble_eq_true rfl) ⟨Nat.zero_le _, Nat.zero_le _⟩ dX7_isWell_8 ?_
    refine lv_iconst (v := (-1)) hx hb dX7_isWell_11 (by decide) ?_
    refine lv_icmp_ne (tgt := 19) hx hb dX7_isWell_12 (by decide) (fun c12 => ?_) (fun c12 => ?_)
    · have hf := ite_f c12 hf
      refine lv_iconst (v := 0) hx hb dX7_isWell_19 (by decide) ?_
      exact hret _ _ _ hf (Or.inl rfl) dX7_isWell_20
    · have hf := ite_t c12 hf
      refine lv_iconst (v := 1) hx hb dX7_isWell_15 (by decide) ?_
      refine lv_goto (tgt := 20) hx hb dX7_isWell_16 (by decide) ?_
      exact hret _ _ _ hf (Or.inr rfl) dX7_isWell_20
theorem s_yX7_isSet : kMS yX7_isSet cX7_isSet 1 (some .boolean) 1 := ⟨mT_790, mT_59, by decide +kernel⟩
def f_m_isSet (x : Int32) : Option Int32 := bd (f_m_in x 0 255) (fun q5 => gd (bz q5) (some q5))
set_option maxHeartbeats 4000000 in
set_option maxRecDepth 100000 in
theorem c_m_isSet (l : Launch) (D : va_G) (cI cZ cR : ClassId) (x : Int32) (r : Int32) (hf : f_m_isSet x = some r) : kCr l yX7_isSet cX7_isSet 1 (some .boolean) { frames := 1, cells := 0, slots := 0, locals := 22 } [.int x] D cI cZ cR ([]) r := by
  refine kMrz (by decide) (Nat.le_of_ble_eq_true rfl) ?_
  intro p e s m below meth c Q hx hb hml hown hts hk hP hret ls hl
  have hK := hk.1
  have hl : lv_has ls 1 [(0, .int x)] := hl
  rw [f_m_isSet] at hf
  refine lv_iload_n hx hb dX7_isSet_0 rfl (lv_at hl 0 rfl) ?_
  refine lv_iconst (v := 0) hx hb dX7_isSet_1 (by decide) ?_
  refine lv_sipush (v := 255) hx hb dX7_isSet_2 (by decide) ?_
  obtain ⟨q5, h5, hf⟩ := bd_some hf
  refine kx_rs (As := [.int x, .int 0, .int 255]) (rest := []) hx hb hml hown hts hk hl.1 s_yX7_in mT_720 (c_m_in l D cI cZ cR x 0 255 _ h5) mT_719 rfl rfl ⟨Nat.le_of_ble_eq_true rfl, Nat.le_of_ble_eq_true rfl⟩ rfl (Nat.le_of_ble_eq_true rfl) ⟨Nat.zero_le _, Nat.zero_le _⟩ dX7_isSet_5 ?_
  obtain ⟨b8, hf⟩ := gd_some hf
  exact hret _ _ _ hf (bz_or b8) dX7_isSet_8
theorem s_yX7_waits : kMS yX7_waits cX7_waits 3 (some .boolean) 1 := ⟨mT_702, mT_59, by decide +kernel⟩
theorem v_yX7_waits : kMV yX7_waits := ⟨mT_701, mT_37⟩
def k_m_waits_2 (x2_2 : Int32) : Option Int32 := some 0
def lp_m_waits_2 (z : Ob) (x : Int32) (kk0 : Int32 → Option Int32) : Nat → Int32 → Option Int32
  | 0, _ => none
  | fu2 + 1, x2_2 => if (z 0 16) ≤ x2_2 then (kk0 x2_2) else (gd (ck x2_2 10) (if ((z 9) (Int32.toNatClampNeg x2_2)) = x then (some 1) else ((lp_m_waits_2 z x kk0 fu2) (x2_2 + 1))))
def f_m_waits (z : Ob) (x : Int32) : Option Int32 := lp_m_waits_2 z x k_m_waits_2 10000 0
set_option maxHeartbeats 4000000 in
set_option maxRecDepth 100000 in
theorem c_m_waits (l : Launch) (D : va_G) (cI cZ cR : ClassId) (za z1 z2 z3 z4 z5 z6 z7 z8 z9 : Nat) (z : Ob) (x : Int32) (r : Int32) (hf : f_m_waits z x = some r) : kCr l yX7_waits cX7_waits 3 (some .boolean) { frames := 0, cells := 0, slots := 0, locals := 0 } [.ref za, .int x] D cI cZ cR (cModel cI cZ za z1 z2 z3 z4 z5 z6 z7 z8 z9 z) r := by
  refine kMrz (by decide) (Nat.le_of_ble_eq_true rfl) ?_
  intro p e s m below meth c Q hx hb hml hown hts hk hP hret ls hl
  have hK := hk.1
  have hl : lv_has ls 3 [(0, .ref za), (1, .int x)] := hl
  rw [f_m_waits] at hf
  refine lv_iconst (v := 0) hx hb dX7_waits_0 (by decide) ?_
  refine lv_istore_n (lv' := [(2, .int 0), (0, .ref za), (1, .int x)]) hx hb dX7_waits_1 rfl hl (by decide) rfl (fun ls hl => ?_)
  have kx2 : ∀ (x2_2 : Int32) (ls : Array Slot), k_m_waits_2 x2_2 = some r → lv_has ls 3 [(0, .ref za), (1, .int x), (2, .int x2_2)] → W p l e ({ frames := 0, cells := 0, slots := 0, locals := 0 } : Room) s m ([.ref za, .int x] : List Value).toArray below meth c s.heap [] 0 0 Q (F0 m 28 ls []) := by
    intro x2_2 ls hf hl
    rw [k_m_waits_2] at hf
    refine lv_iconst (v := 0) hx hb dX7_waits_28 (by decide) ?_
    exact hret _ _ _ hf (Or.inl rfl) dX7_waits_29
  have lh2 : ∀ (fu2 : Nat) (x2_2 : Int32) (ls : Array Slot), lp_m_waits_2 z x k_m_waits_2 fu2 x2_2 = some r → lv_has ls 3 [(0, .ref za), (1, .int x), (2, .int x2_2)] → W p l e ({ frames := 0, cells := 0, slots := 0, locals := 0 } : Room) s m ([.ref za, .int x] : List Value).toArray below meth c s.heap [] 0 0 Q (F0 m 2 ls []) := by
    intro fu2
    induction fu2 with
    | zero => intro x2_2 ls hf hl; exact no_none hf
    | succ fu2 ih2 =>
      intro x2_2 ls hf hl
      rw [lp_m_waits_2] at hf
      refine lv_iload_n hx hb dX7_waits_2 rfl (lv_at hl 2 rfl) ?_
      refine lv_aload_n hx hb dX7_waits_3 rfl (lv_at hl 0 rfl) ?_
      refine va_get (D := D) (ci := 7) (v := .int (z 0 16)) (C := RX7) (T := TX7) (N := 17) hx hb hts inT7 hown hK hP 0 rfl rfl 16 (by decide) (hts _ mT_582) (fun _ h9 => h9) rfl dX7_waits_4 ?_
      refine lv_icmp_ge (tgt := 28) hx hb dX7_waits_7 (by decide) (fun c7 => ?_) (fun c7 => ?_)
      · have hf := ite_t c7 hf
        exact kx2 x2_2 _ hf (lv_sub hl [0, 1, 2] rfl)
      · have hf := ite_f c7 hf
        refine lv_aload_n hx hb dX7_waits_10 rfl (lv_at hl 0 rfl) ?_
        refine va_get (D := D) (ci := 7) (v := .ref z9) (C := RX7) (T := TX7) (N := 17) hx hb hts inT7 hown hK hP 0 rfl rfl 15 (by decide) (hts _ mT_581) (fun _ h9 => h9) rfl dX7_waits_11 ?_
        refine lv_iload_n hx hb dX7_waits_14 rfl (lv_at hl 2 rfl) ?_
        obtain ⟨b15, hf⟩ := gd_some hf
        refine va_iald (n := 10) (f := z 9) hx hb hK hP 9 0 rfl rfl (ck_in b15) dX7_waits_15 ?_
        refine lv_iload_n hx hb dX7_waits_16 rfl (lv_at hl 1 rfl) ?_
        refine lv_icmp_ne (tgt := 22) hx hb dX7_waits_17 (by decide) (fun c17 => ?_) (fun c17 => ?_)
        · have hf := ite_f c17 hf
          refine lv_iinc (v := x2_2 + 1) (lv' := [(2, .int (x2_2 + 1)), (0, .ref za), (1, .int x)]) hx hb dX7_waits_22 hl (k := 2) rfl rfl (by decide) rfl (fun ls hl => ?_)
          refine lv_goto (tgt := 2) hx hb dX7_waits_25 (by decide) ?_
          exact ih2 (x2_2 + 1) _ hf (lv_sub hl [1, 2, 0] rfl)
        · have hf := ite_t c17 hf
          refine lv_iconst (v := 1) hx hb dX7_waits_20 (by decide) ?_
          exact hret _ _ _ hf (Or.inr rfl) dX7_waits_21
  exact lh2 10000 0 _ hf (lv_sub hl [1, 2, 0] rfl)
theorem s_yX7_isKept : kMS yX7_isKept cX7_isKept 3 (some .boolean) 1 := ⟨mT_662, mT_59, by decide +kernel⟩
theorem v_yX7_isKept : kMV yX7_isKept := ⟨mT_661, mT_27⟩
def k_m_isKept_2 (x2_2 : Int32) : Option Int32 := some 0
def lp_m_isKept_2 (z : Ob) (x : Int32) (kk0 : Int32 → Option Int32) : Nat → Int32 → Option Int32
  | 0, _ => none
  | fu2 + 1, x2_2 => if ((z 1) (Int32.toNatClampNeg 2)) ≤ x2_2 then (kk0 x2_2) else (bd (f_m_of z x2_2 1) (fun q15 => if q15 = x then (bd (f_m_of z x2_2 0) (fun q25 => if q25 < x then ((lp_m_isKept_2 z x kk0 fu2) (x2_2 + 1)) else (some 1))) else ((lp_m_isKept_2 z x kk0 fu2) (x2_2 + 1))))
def f_m_isKept (z : Ob) (x : Int32) : Option Int32 := lp_m_isKept_2 z x k_m_isKept_2 10000 0
set_option maxHeartbeats 4000000 in
set_option maxRecDepth 100000 in
theorem c_m_isKept (l : Launch) (D : va_G) (cI cZ cR : ClassId) (za z1 z2 z3 z4 z5 z6 z7 z8 z9 : Nat) (z : Ob) (x : Int32) (r : Int32) (hf : f_m_isKept z x = some r) : kCr l yX7_isKept cX7_isKept 3 (some .boolean) { frames := 1, cells := 0, slots := 0, locals := 22 } [.ref za, .int x] D cI cZ cR (cModel cI cZ za z1 z2 z3 z4 z5 z6 z7 z8 z9 z) r := by
  refine kMrz (by decide) (Nat.le_of_ble_eq_true rfl) ?_
  intro p e s m below meth c Q hx hb hml hown hts hk hP hret ls hl
  have hK := hk.1
  have hl : lv_has ls 3 [(0, .ref za), (1, .int x)] := hl
  rw [f_m_isKept] at hf
  refine lv_iconst (v := 0) hx hb dX7_isKept_0 (by decide) ?_
  refine lv_istore_n (lv' := [(2, .int 0), (0, .ref za), (1, .int x)]) hx hb dX7_isKept_1 rfl hl (by decide) rfl (fun ls hl => ?_)
  have kx2 : ∀ (x2_2 : Int32) (ls : Array Slot), k_m_isKept_2 x2_2 = some r → lv_has ls 3 [(0, .ref za), (1, .int x), (2, .int x2_2)] → W p l e ({ frames := 1, cells := 0, slots := 0, locals := 22 } : Room) s m ([.ref za, .int x] : List Value).toArray below meth c s.heap [] 0 0 Q (F0 m 40 ls []) := by
    intro x2_2 ls hf hl
    rw [k_m_isKept_2] at hf
    refine lv_iconst (v := 0) hx hb dX7_isKept_40 (by decide) ?_
    exact hret _ _ _ hf (Or.inl rfl) dX7_isKept_41
  have lh2 : ∀ (fu2 : Nat) (x2_2 : Int32) (ls : Array Slot), lp_m_isKept_2 z x k_m_isKept_2 fu2 x2_2 = some r → lv_has ls 3 [(0, .ref za), (1, .int x), (2, .int x2_2)] → W p l e ({ frames := 1, cells := 0, slots := 0, locals := 22 } : Room) s m ([.ref za, .int x] : List Value).toArray below meth c s.heap [] 0 0 Q (F0 m 2 ls []) := by
    intro fu2
    induction fu2 with
    | zero => intro x2_2 ls hf hl; exact no_none hf
    | succ fu2 ih2 =>
      intro x2_2 ls hf hl
      rw [lp_m_isKept_2] at hf
      refine lv_iload_n hx hb dX7_isKept_2 rfl (lv_at hl 2 rfl) ?_
      refine lv_aload_n hx hb dX7_isKept_3 rfl (lv_at hl 0 rfl) ?_
      refine va_get (D := D) (ci := 7) (v := .ref z1) (C := RX7) (T := TX7) (N := 17) hx hb hts inT7 hown hK hP 0 rfl rfl 0 (by decide) (hts _ mT_566) (fun _ h9 => h9) rfl dX7_isKept_4 ?_
      refine lv_iconst (v := 2) hx hb dX7_isKept_7 (by decide) ?_
      refine va_iald (n := 367) (f := z 1) hx hb hK hP 1 0 rfl rfl (ck_in (by decide)) dX7_isKept_8 ?_
      refine lv_icmp_ge (tgt := 40) hx hb dX7_isKept_9 (by decide) (fun c9 => ?_) (fun c9 => ?_)
      · have hf := ite_t c9 hf
        exact kx2 x2_2 _ hf (lv_sub hl [0, 1, 2] rfl)
      · have hf := ite_f c9 hf
        refine lv_aload_n hx hb dX7_isKept_12 rfl (lv_at hl 0 rfl) ?_
        refine lv_iload_n hx hb dX7_isKept_13 rfl (lv_at hl 2 rfl) ?_
        refine lv_iconst (v := 1) hx hb dX7_isKept_14 (by decide) ?_
        obtain ⟨q15, h15, hf⟩ := bd_some hf
        refine kx_rv (As := [.int x2_2, .int 1]) (rest := []) hx hb hml hown hts hk hP hl.1 s_yX7_of v_yX7_of (c_m_of l D cI cZ cR za z1 z2 z3 z4 z5 z6 z7 z8 z9 z x2_2 1 _ h15) mT_647 rfl rfl ⟨Nat.le_of_ble_eq_true rfl, Nat.le_of_ble_eq_true rfl⟩ (ci := 7) (q0 := 0) rfl rfl rfl (Nat.le_of_ble_eq_true rfl) ⟨Nat.zero_le _, Nat.zero_le _⟩ dX7_isKept_15 ?_
        refine lv_iload_n hx hb dX7_isKept_18 rfl (lv_at hl 1 rfl) ?_
        refine lv_icmp_ne (tgt := 34) hx hb dX7_isKept_19 (by decide) (fun c19 => ?_) (fun c19 => ?_)
        · have hf := ite_f c19 hf
          refine lv_iinc (v := x2_2 + 1) (lv' := [(2, .int (x2_2 + 1)), (0, .ref za), (1, .int x)]) hx hb dX7_isKept_34 hl (k := 2) rfl rfl (by decide) rfl (fun ls hl => ?_)
          refine lv_goto (tgt := 2) hx hb dX7_isKept_37 (by decide) ?_
          exact ih2 (x2_2 + 1) _ hf (lv_sub hl [1, 2, 0] rfl)
        · have hf := ite_t c19 hf
          refine lv_aload_n hx hb dX7_isKept_22 rfl (lv_at hl 0 rfl) ?_
          refine lv_iload_n hx hb dX7_isKept_23 rfl (lv_at hl 2 rfl) ?_
          refine lv_iconst (v := 0) hx hb dX7_isKept_24 (by decide) ?_
          obtain ⟨q25, h25, hf⟩ := bd_some hf
          refine kx_rv (As := [.int x2_2, .int 0]) (rest := []) hx hb hml hown hts hk hP hl.1 s_yX7_of v_yX7_of (c_m_of l D cI cZ cR za z1 z2 z3 z4 z5 z6 z7 z8 z9 z x2_2 0 _ h25) mT_647 rfl rfl ⟨Nat.le_of_ble_eq_true rfl, Nat.le_of_ble_eq_true rfl⟩ (ci := 7) (q0 := 0) rfl rfl rfl (Nat.le_of_ble_eq_true rfl) ⟨Nat.zero_le _, Nat.zero_le _⟩ dX7_isKept_25 ?_
          refine lv_iload_n hx hb dX7_isKept_28 rfl (lv_at hl 1 rfl) ?_
          refine lv_icmp_lt (tgt := 34) hx hb dX7_isKept_29 (by decide) (fun c29 => ?_) (fun c29 => ?_)
          · have hf := ite_t c29 hf
            refine lv_iinc (v := x2_2 + 1) (lv' := [(2, .int (x2_2 + 1)), (0, .ref za), (1, .int x)]) hx hb dX7_isKept_34 hl (k := 2) rfl rfl (by decide) rfl (fun ls hl => ?_)
            refine lv_goto (tgt := 2) hx hb dX7_isKept_37 (by decide) ?_
            exact ih2 (x2_2 + 1) _ hf (lv_sub hl [1, 2, 0] rfl)
          · have hf := ite_f c29 hf
            refine lv_iconst (v := 1) hx hb dX7_isKept_32 (by decide) ?_
            exact hret _ _ _ hf (Or.inr rfl) dX7_isKept_33
  exact lh2 10000 0 _ hf (lv_sub hl [1, 2, 0] rfl)
theorem s_yX7_kept : kMS yX7_kept cX7_kept 3 (some .int) 0 := ⟨mT_658, mT_59, by decide +kernel⟩
theorem v_yX7_kept : kMV yX7_kept := ⟨mT_657, mT_26⟩
def k_m_kept_4 (x1_4 : Int32) (x2_4 : Int32) : Option Int32 := some x1_4
def lp_m_kept_4 (z : Ob) (kk0 : Int32 → Int32 → Option Int32) : Nat → Int32 → Int32 → Option Int32
  | 0, _, _ => none
  | fu4 + 1, x1_4, x2_4 => if ((z 1) (Int32.toNatClampNeg 1)) ≤ x2_4 then (kk0 x1_4 x2_4) else (bd (f_m_isKept z x2_4) (fun q17 => if q17 = 0 then ((lp_m_kept_4 z kk0 fu4) (x1_4 ||| 0) (x2_4 + 1)) else ((lp_m_kept_4 z kk0 fu4) (x1_4 ||| (1 <<< (x2_4 &&& 31))) (x2_4 + 1))))
def f_m_kept (z : Ob) : Option Int32 := lp_m_kept_4 z k_m_kept_4 10000 0 0
set_option maxHeartbeats 4000000 in
set_option maxRecDepth 100000 in
theorem c_m_kept (l : Launch) (D : va_G) (cI cZ cR : ClassId) (za z1 z2 z3 z4 z5 z6 z7 z8 z9 : Nat) (z : Ob) (r : Int32) (hf : f_m_kept z = some r) : kCr l yX7_kept cX7_kept 3 (some .int) { frames := 2, cells := 0, slots := 0, locals := 44 } [.ref za] D cI cZ cR (cModel cI cZ za z1 z2 z3 z4 z5 z6 z7 z8 z9 z) r := by
  refine kMri (by decide) (Nat.le_of_ble_eq_true rfl) ?_
  intro p e s m below meth c Q hx hb hml hown hts hk hP hret ls hl
  have hK := hk.1
  have hl : lv_has ls 3 [(0, .ref za)] := hl
  rw [f_m_kept] at hf
  refine lv_iconst (v := 0) hx hb dX7_kept_0 (by decide) ?_
  refine lv_istore_n (lv' := [(1, .int 0), (0, .ref za)]) hx hb dX7_kept_1 rfl hl (by decide) rfl (fun ls hl => ?_)
  refine lv_iconst (v := 0) hx hb dX7_kept_2 (by decide) ?_
  refine lv_istore_n (lv' := [(2, .int 0), (1, .int 0), (0, .ref za)]) hx hb dX7_kept_3 rfl hl (by decide) rfl (fun ls hl => ?_)
  have kx4 : ∀ (x1_4 : Int32) (x2_4 : Int32) (ls : Array Slot), k_m_kept_4 x1_4 x2_4 = some r → lv_has ls 3 [(0, .ref za), (1, .int x1_4), (2, .int x2_4)] → W p l e ({ frames := 2, cells := 0, slots := 0, locals := 44 } : Room) s m ([.ref za] : List Value).toArray below meth c s.heap [] 0 0 Q (F0 m 38 ls []) := by
    intro x1_4 x2_4 ls hf hl
    rw [k_m_kept_4] at hf
    refine lv_iload_n hx hb dX7_kept_38 rfl (lv_at hl 1 rfl) ?_
    exact hret _ _ _ hf dX7_kept_39
  have lh4 : ∀ (fu4 : Nat) (x1_4 : Int32) (x2_4 : Int32) (ls : Array Slot), lp_m_kept_4 z k_m_kept_4 fu4 x1_4 x2_4 = some r → lv_has ls 3 [(0, .ref za), (1, .int x1_4), (2, .int x2_4)] → W p l e ({ frames := 2, cells := 0, slots := 0, locals := 44 } : Room) s m ([.ref za] : List Value).toArray below meth c s.heap [] 0 0 Q (F0 m 4 ls []) := by
    intro fu4
    induction fu4 with
    | zero => intro x1_4 x2_4 ls hf hl; exact no_none hf
    | succ fu4 ih4 =>
      intro x1_4 x2_4 ls hf hl
      rw [lp_m_kept_4] at hf
      refine lv_iload_n hx hb dX7_kept_4 rfl (lv_at hl 2 rfl) ?_
      refine lv_aload_n hx hb dX7_kept_5 rfl (lv_at hl 0 rfl) ?_
      refine va_get (D := D) (ci := 7) (v := .ref z1) (C := RX7) (T := TX7) (N := 17) hx hb hts inT7 hown hK hP 0 rfl rfl 0 (by decide) (hts _ mT_566) (fun _ h9 => h9) rfl dX7_kept_6 ?_
      refine lv_iconst (v := 1) hx hb dX7_kept_9 (by decide) ?_
      refine va_iald (n := 367) (f := z 1) hx hb hK hP 1 0 rfl rfl (ck_in (by decide)) dX7_kept_10 ?_
      refine lv_icmp_ge (tgt := 38) hx hb dX7_kept_11 (by decide) (fun c11 => ?_) (fun c11 => ?_)
      · have hf := ite_t c11 hf
        exact kx4 x1_4 x2_4 _ hf (lv_sub hl [0, 1, 2] rfl)
      · have hf := ite_f c11 hf
        refine lv_iload_n hx hb dX7_kept_14 rfl (lv_at hl 1 rfl) ?_
        refine lv_aload_n hx hb dX7_kept_15 rfl (lv_at hl 0 rfl) ?_
        refine lv_iload_n hx hb dX7_kept_16 rfl (lv_at hl 2 rfl) ?_
        obtain ⟨q17, h17, hf⟩ := bd_some hf
        refine kx_rv (As := [.int x2_4]) (rest := [.int x1_4]) hx hb hml hown hts hk hP hl.1 s_yX7_isKept v_yX7_isKept (c_m_isKept l D cI cZ cR za z1 z2 z3 z4 z5 z6 z7 z8 z9 z x2_4 _ h17) mT_659 rfl rfl ⟨Nat.le_of_ble_eq_true rfl, Nat.le_of_ble_eq_true rfl⟩ (ci := 7) (q0 := 0) rfl rfl rfl (Nat.le_of_ble_eq_true rfl) ⟨Nat.zero_le _, Nat.zero_le _⟩ dX7_kept_17 ?_
        refine lv_if_eq (tgt := 29) hx hb dX7_kept_20 (by decide) (fun c20 => ?_) (fun c20 => ?_)
        · have hf := ite_t c20 hf
          refine lv_iconst (v := 0) hx hb dX7_kept_29 (by decide) ?_
          refine lv_ior hx hb dX7_kept_30 ?_
          refine lv_istore_n (lv' := [(1, .int (x1_4 ||| 0)), (0, .ref za), (2, .int x2_4)]) hx hb dX7_kept_31 rfl hl (by decide) rfl (fun ls hl => ?_)
          refine lv_iinc (v := x2_4 + 1) (lv' := [(2, .int (x2_4 + 1)), (1, .int (x1_4 ||| 0)), (0, .ref za)]) hx hb dX7_kept_32 hl (k := 2) rfl rfl (by decide) rfl (fun ls hl => ?_)
          refine lv_goto (tgt := 4) hx hb dX7_kept_35 (by decide) ?_
          exact ih4 (x1_4 ||| 0) (x2_4 + 1) _ hf (lv_sub hl [2, 1, 0] rfl)
        · have hf := ite_f c20 hf
          refine lv_iconst (v := 1) hx hb dX7_kept_23 (by decide) ?_
          refine lv_iload_n hx hb dX7_kept_24 rfl (lv_at hl 2 rfl) ?_
          refine lv_ishl hx hb dX7_kept_25 ?_
          refine lv_goto (tgt := 30) hx hb dX7_kept_26 (by decide) ?_
          refine lv_ior hx hb dX7_kept_30 ?_
          refine lv_istore_n (lv' := [(1, .int (x1_4 ||| (1 <<< (x2_4 &&& 31)))), (0, .ref za), (2, .int x2_4)]) hx hb dX7_kept_31 rfl hl (by decide) rfl (fun ls hl => ?_)
          refine lv_iinc (v := x2_4 + 1) (lv' := [(2, .int (x2_4 + 1)), (1, .int (x1_4 ||| (1 <<< (x2_4 &&& 31)))), (0, .ref za)]) hx hb dX7_kept_32 hl (k := 2) rfl rfl (by decide) rfl (fun ls hl => ?_)
          refine lv_goto (tgt := 4) hx hb dX7_kept_35 (by decide) ?_
          exact ih4 (x1_4 ||| (1 <<< (x2_4 &&& 31))) (x2_4 + 1) _ hf (lv_sub hl [2, 1, 0] rfl)
  exact lh4 10000 0 0 _ hf (lv_sub hl [2, 1, 0] rfl)
theorem s_yX7_isLess : kMS yX7_isLess cX7_isLess 4 (some .boolean) 3 := ⟨mT_686, mT_59, by decide +kernel⟩
theorem v_yX7_isLess : kMV yX7_isLess := ⟨mT_685, mT_33⟩
def f_m_isLess (z : Ob) (x : Int32) (y : Int32) (v : Int32) : Option Int32 := gd (ck (87 + v) 367) (bd (f_m_isBelow z x ((z 1) (Int32.toNatClampNeg (87 + v)))) (fun q11 => if q11 = 0 then (some 0) else (gd (ck (97 + v) 367) (if (y &&& (((z 1) (Int32.toNatClampNeg (97 + v))) ^^^ (-1))) = 0 then (some 1) else (some 0)))))
set_option maxHeartbeats 4000000 in
set_option maxRecDepth 100000 in
theorem c_m_isLess (l : Launch) (D : va_G) (cI cZ cR : ClassId) (za z1 z2 z3 z4 z5 z6 z7 z8 z9 : Nat) (z : Ob) (x : Int32) (y : Int32) (v : Int32) (r : Int32) (hf : f_m_isLess z x y v = some r) : kCr l yX7_isLess cX7_isLess 4 (some .boolean) { frames := 2, cells := 0, slots := 0, locals := 44 } [.ref za, .int x, .int y, .int v] D cI cZ cR (cModel cI cZ za z1 z2 z3 z4 z5 z6 z7 z8 z9 z) r := by
  refine kMrz (by decide) (Nat.le_of_ble_eq_true rfl) ?_
  intro p e s m below meth c Q hx hb hml hown hts hk hP hret ls hl
  have hK := hk.1
  have hl : lv_has ls 4 [(0, .ref za), (1, .int x), (2, .int y), (3, .int v)] := hl
  rw [f_m_isLess] at hf
  refine lv_aload_n hx hb dX7_isLess_0 rfl (lv_at hl 0 rfl) ?_
  refine lv_iload_n hx hb dX7_isLess_1 rfl (lv_at hl 1 rfl) ?_
  refine lv_aload_n hx hb dX7_isLess_2 rfl (lv_at hl 0 rfl) ?_
  refine va_get (D := D) (ci := 7) (v := .ref z1) (C := RX7) (T := TX7) (N := 17) hx hb hts inT7 hown hK hP 0 rfl rfl 0 (by decide) (hts _ mT_566) (fun _ h9 => h9) rfl dX7_isLess_3 ?_
  refine lv_bipush (v := 87) hx hb dX7_isLess_6 (by decide) ?_
  refine lv_iload_n hx hb dX7_isLess_8 rfl (lv_at hl 3 rfl) ?_
  refine lv_iadd hx hb dX7_isLess_9 ?_
  obtain ⟨b10, hf⟩ := gd_some hf
  refine va_iald (n := 367) (f := z 1) hx hb hK hP 1 0 rfl rfl (ck_in b10) dX7_isLess_10 ?_
  obtain ⟨q11, h11, hf⟩ := bd_some hf
  refine kx_rv (As := [.int x, .int ((z 1) (Int32.toNatClampNeg (87 + v)))]) (rest := []) hx hb hml hown hts hk hP hl.1 s_yX7_isBelow v_yX7_isBelow (c_m_isBelow l D cI cZ cR za z1 z2 z3 z4 z5 z6 z7 z8 z9 z x ((z 1) (Int32.toNatClampNeg (87 + v))) _ h11) mT_643 rfl rfl ⟨Nat.le_of_ble_eq_true rfl, Nat.le_of_ble_eq_true rfl⟩ (ci := 7) (q0 := 0) rfl rfl rfl (Nat.le_of_ble_eq_true rfl) ⟨Nat.zero_le _, Nat.zero_le _⟩ dX7_isLess_11 ?_
  refine lv_if_eq (tgt := 37) hx hb dX7_isLess_14 (by decide) (fun c14 => ?_) (fun c14 => ?_)
  · have hf := ite_t c14 hf
    refine lv_iconst (v := 0) hx hb dX7_isLess_37 (by decide) ?_
    exact hret _ _ _ hf (Or.inl rfl) dX7_isLess_38
  · have hf := ite_f c14 hf
    refine lv_iload_n hx hb dX7_isLess_17 rfl (lv_at hl 2 rfl) ?_
    refine lv_aload_n hx hb dX7_isLess_18 rfl (lv_at hl 0 rfl) ?_
    refine va_get (D := D) (ci := 7) (v := .ref z1) (C := RX7) (T := TX7) (N := 17) hx hb hts inT7 hown hK hP 0 rfl rfl 0 (by decide) (hts _ mT_566) (fun _ h9 => h9) rfl dX7_isLess_19 ?_
    refine lv_bipush (v := 97) hx hb dX7_isLess_22 (by decide) ?_
    refine lv_iload_n hx hb dX7_isLess_24 rfl (lv_at hl 3 rfl) ?_
    refine lv_iadd hx hb dX7_isLess_25 ?_
    obtain ⟨b26, hf⟩ := gd_some hf
    refine va_iald (n := 367) (f := z 1) hx hb hK hP 1 0 rfl rfl (ck_in b26) dX7_isLess_26 ?_
    refine lv_iconst (v := (-1)) hx hb dX7_isLess_27 (by decide) ?_
    refine lv_ixor hx hb dX7_isLess_28 ?_
    refine lv_iand hx hb dX7_isLess_29 ?_
    refine lv_if_ne (tgt := 37) hx hb dX7_isLess_30 (by decide) (fun c30 => ?_) (fun c30 => ?_)
    · have hf := ite_f c30 hf
      refine lv_iconst (v := 0) hx hb dX7_isLess_37 (by decide) ?_
      exact hret _ _ _ hf (Or.inl rfl) dX7_isLess_38
    · have hf := ite_t c30 hf
      refine lv_iconst (v := 1) hx hb dX7_isLess_33 (by decide) ?_
      refine lv_goto (tgt := 38) hx hb dX7_isLess_34 (by decide) ?_
      exact hret _ _ _ hf (Or.inr rfl) dX7_isLess_38
theorem s_yX7_joined : kMS yX7_joined cX7_joined 3 (some .int) 2 := ⟨mT_726, mT_59, by decide +kernel⟩
theorem v_yX7_joined : kMV yX7_joined := ⟨mT_724, mT_725⟩
def f_m_joined (z : Ob) (x : Int32) (y : Int32) : Option Int32 := bd (f_m_isValue z x) (fun q2 => if q2 = 0 then (some (-1000000001)) else (bd (f_m_isValue z y) (fun q10 => if q10 = 0 then (some (-1000000001)) else (bd (f_m_both z x y) (fun q19 => some q19)))))
set_option maxHeartbeats 4000000 in
set_option maxRecDepth 100000 in
theorem c_m_joined (l : Launch) (D : va_G) (cI cZ cR : ClassId) (za z1 z2 z3 z4 z5 z6 z7 z8 z9 : Nat) (z : Ob) (x : Int32) (y : Int32) (r : Int32) (hf : f_m_joined z x y = some r) : kCr l yX7_joined cX7_joined 3 (some .int) { frames := 2, cells := 0, slots := 0, locals := 43 } [.ref za, .int x, .int y] D cI cZ cR (cModel cI cZ za z1 z2 z3 z4 z5 z6 z7 z8 z9 z) r := by
  refine kMri (by decide) (Nat.le_of_ble_eq_true rfl) ?_
  intro p e s m below meth c Q hx hb hml hown hts hk hP hret ls hl
  have hK := hk.1
  have hl : lv_has ls 3 [(0, .ref za), (1, .int x), (2, .int y)] := hl
  rw [f_m_joined] at hf
  refine lv_aload_n hx hb dX7_joined_0 rfl (lv_at hl 0 rfl) ?_
  refine lv_iload_n hx hb dX7_joined_1 rfl (lv_at hl 1 rfl) ?_
  obtain ⟨q2, h2, hf⟩ := bd_some hf
  refine kx_rv (As := [.int x]) (rest := []) hx hb hml hown hts hk hP hl.1 s_yX7_isValue v_yX7_isValue (c_m_isValue l D cI cZ cR za z1 z2 z3 z4 z5 z6 z7 z8 z9 z x _ h2) mT_727 rfl rfl ⟨Nat.le_of_ble_eq_true rfl, Nat.le_of_ble_eq_true rfl⟩ (ci := 7) (q0 := 0) rfl rfl rfl (Nat.le_of_ble_eq_true rfl) ⟨Nat.zero_le _, Nat.zero_le _⟩ dX7_joined_2 ?_
  refine lv_if_eq (tgt := 25) hx hb dX7_joined_5 (by decide) (fun c5 => ?_) (fun c5 => ?_)
  · have hf := ite_t c5 hf
    refine lv_ldc (v := (-1000000001)) hx hb hown (hts _ mT_731) dX7_joined_25 ?_
    exact hret _ _ _ hf dX7_joined_27
  · have hf := ite_f c5 hf
    refine lv_aload_n hx hb dX7_joined_8 rfl (lv_at hl 0 rfl) ?_
    refine lv_iload_n hx hb dX7_joined_9 rfl (lv_at hl 2 rfl) ?_
    obtain ⟨q10, h10, hf⟩ := bd_some hf
    refine kx_rv (As := [.int y]) (rest := []) hx hb hml hown hts hk hP hl.1 s_yX7_isValue v_yX7_isValue (c_m_isValue l D cI cZ cR za z1 z2 z3 z4 z5 z6 z7 z8 z9 z y _ h10) mT_727 rfl rfl ⟨Nat.le_of_ble_eq_true rfl, Nat.le_of_ble_eq_true rfl⟩ (ci := 7) (q0 := 0) rfl rfl rfl (Nat.le_of_ble_eq_true rfl) ⟨Nat.zero_le _, Nat.zero_le _⟩ dX7_joined_10 ?_
    refine lv_if_eq (tgt := 25) hx hb dX7_joined_13 (by decide) (fun c13 => ?_) (fun c13 => ?_)
    · have hf := ite_t c13 hf
      refine lv_ldc (v := (-1000000001)) hx hb hown (hts _ mT_731) dX7_joined_25 ?_
      exact hret _ _ _ hf dX7_joined_27
    · have hf := ite_f c13 hf
      refine lv_aload_n hx hb dX7_joined_16 rfl (lv_at hl 0 rfl) ?_
      refine lv_iload_n hx hb dX7_joined_17 rfl (lv_at hl 1 rfl) ?_
      refine lv_iload_n hx hb dX7_joined_18 rfl (lv_at hl 2 rfl) ?_
      obtain ⟨q19, h19, hf⟩ := bd_some hf
      refine kx_rv (As := [.int x, .int y]) (rest := []) hx hb hml hown hts hk hP hl.1 s_yX7_both v_yX7_both (c_m_both l D cI cZ cR za z1 z2 z3 z4 z5 z6 z7 z8 z9 z x y _ h19) mT_631 rfl rfl ⟨Nat.le_of_ble_eq_true rfl, Nat.le_of_ble_eq_true rfl⟩ (ci := 7) (q0 := 0) rfl rfl rfl (Nat.le_of_ble_eq_true rfl) ⟨Nat.zero_le _, Nat.zero_le _⟩ dX7_joined_19 ?_
      refine lv_goto (tgt := 27) hx hb dX7_joined_22 (by decide) ?_
      exact hret _ _ _ hf dX7_joined_27
theorem s_yX7_below : kMS yX7_below cX7_below 3 (some .int) 2 := ⟨mT_735, mT_59, by decide +kernel⟩
theorem v_yX7_below : kMV yX7_below := ⟨mT_733, mT_734⟩
def f_m_below (z : Ob) (x : Int32) (y : Int32) : Option Int32 := bd (f_m_isValue z x) (fun q2 => if q2 = 0 then (some (-1000000001)) else (bd (f_m_isValue z y) (fun q10 => if q10 = 0 then (some (-1000000001)) else (bd (f_m_isBelow z x y) (fun q22 => if q22 = 0 then (some 0) else (some 1))))))
set_option maxHeartbeats 4000000 in
set_option maxRecDepth 100000 in
theorem c_m_below (l : Launch) (D : va_G) (cI cZ cR : ClassId) (za z1 z2 z3 z4 z5 z6 z7 z8 z9 : Nat) (z : Ob) (x : Int32) (y : Int32) (r : Int32) (hf : f_m_below z x y = some r) : kCr l yX7_below cX7_below 3 (some .int) { frames := 2, cells := 0, slots := 0, locals := 44 } [.ref za, .int x, .int y] D cI cZ cR (cModel cI cZ za z1 z2 z3 z4 z5 z6 z7 z8 z9 z) r := by
  refine kMri (by decide) (Nat.le_of_ble_eq_true rfl) ?_
  intro p e s m below meth c Q hx hb hml hown hts hk hP hret ls hl
  have hK := hk.1
  have hl : lv_has ls 3 [(0, .ref za), (1, .int x), (2, .int y)] := hl
  rw [f_m_below] at hf
  refine lv_aload_n hx hb dX7_below_0 rfl (lv_at hl 0 rfl) ?_
  refine lv_iload_n hx hb dX7_below_1 rfl (lv_at hl 1 rfl) ?_
  obtain ⟨q2, h2, hf⟩ := bd_some hf
  refine kx_rv (As := [.int x]) (rest := []) hx hb hml hown hts hk hP hl.1 s_yX7_isValue v_yX7_isValue (c_m_isValue l D cI cZ cR za z1 z2 z3 z4 z5 z6 z7 z8 z9 z x _ h2) mT_727 rfl rfl ⟨Nat.le_of_ble_eq_true rfl, Nat.le_of_ble_eq_true rfl⟩ (ci := 7) (q0 := 0) rfl rfl rfl (Nat.le_of_ble_eq_true rfl) ⟨Nat.zero_le _, Nat.zero_le _⟩ dX7_below_2 ?_
  refine lv_if_eq (tgt := 16) hx hb dX7_below_5 (by decide) (fun c5 => ?_) (fun c5 => ?_)
  · have hf := ite_t c5 hf
    refine lv_ldc (v := (-1000000001)) hx hb hown (hts _ mT_731) dX7_below_16 ?_
    exact hret _ _ _ hf dX7_below_18
  · have hf := ite_f c5 hf
    refine lv_aload_n hx hb dX7_below_8 rfl (lv_at hl 0 rfl) ?_
    refine lv_iload_n hx hb dX7_below_9 rfl (lv_at hl 2 rfl) ?_
    obtain ⟨q10, h10, hf⟩ := bd_some hf
    refine kx_rv (As := [.int y]) (rest := []) hx hb hml hown hts hk hP hl.1 s_yX7_isValue v_yX7_isValue (c_m_isValue l D cI cZ cR za z1 z2 z3 z4 z5 z6 z7 z8 z9 z y _ h10) mT_727 rfl rfl ⟨Nat.le_of_ble_eq_true rfl, Nat.le_of_ble_eq_true rfl⟩ (ci := 7) (q0 := 0) rfl rfl rfl (Nat.le_of_ble_eq_true rfl) ⟨Nat.zero_le _, Nat.zero_le _⟩ dX7_below_10 ?_
    refine lv_if_ne (tgt := 19) hx hb dX7_below_13 (by decide) (fun c13 => ?_) (fun c13 => ?_)
    · have hf := ite_f c13 hf
      refine lv_aload_n hx hb dX7_below_19 rfl (lv_at hl 0 rfl) ?_
      refine lv_iload_n hx hb dX7_below_20 rfl (lv_at hl 1 rfl) ?_
      refine lv_iload_n hx hb dX7_below_21 rfl (lv_at hl 2 rfl) ?_
      obtain ⟨q22, h22, hf⟩ := bd_some hf
      refine kx_rv (As := [.int x, .int y]) (rest := []) hx hb hml hown hts hk hP hl.1 s_yX7_isBelow v_yX7_isBelow (c_m_isBelow l D cI cZ cR za z1 z2 z3 z4 z5 z6 z7 z8 z9 z x y _ h22) mT_643 rfl rfl ⟨Nat.le_of_ble_eq_true rfl, Nat.le_of_ble_eq_true rfl⟩ (ci := 7) (q0 := 0) rfl rfl rfl (Nat.le_of_ble_eq_true rfl) ⟨Nat.zero_le _, Nat.zero_le _⟩ dX7_below_22 ?_
      refine lv_if_eq (tgt := 32) hx hb dX7_below_25 (by decide) (fun c25 => ?_) (fun c25 => ?_)
      · have hf := ite_t c25 hf
        refine lv_iconst (v := 0) hx hb dX7_below_32 (by decide) ?_
        exact hret _ _ _ hf dX7_below_33
      · have hf := ite_f c25 hf
        refine lv_iconst (v := 1) hx hb dX7_below_28 (by decide) ?_
        refine lv_goto (tgt := 33) hx hb dX7_below_29 (by decide) ?_
        exact hret _ _ _ hf dX7_below_33
    · have hf := ite_t c13 hf
      refine lv_ldc (v := (-1000000001)) hx hb hown (hts _ mT_731) dX7_below_16 ?_
      exact hret _ _ _ hf dX7_below_18
theorem s_yX7_mapped : kMS yX7_mapped cX7_mapped 3 (some .int) 2 := ⟨mT_763, mT_59, by decide +kernel⟩
theorem v_yX7_mapped : kMV yX7_mapped := ⟨mT_761, mT_762⟩
def f_m_mapped (z : Ob) (x : Int32) (y : Int32) : Option Int32 := bd (f_m_isWay z x) (fun q2 => if q2 = 0 then (some (-1000000001)) else (bd (f_m_isValue z y) (fun q10 => if q10 = 0 then (some (-1000000001)) else (bd (f_m_of z x (5 + y)) (fun q21 => some q21)))))
set_option maxHeartbeats 4000000 in
set_option maxRecDepth 100000 in
theorem c_m_mapped (l : Launch) (D : va_G) (cI cZ cR : ClassId) (za z1 z2 z3 z4 z5 z6 z7 z8 z9 : Nat) (z : Ob) (x : Int32) (y : Int32) (r : Int32) (hf : f_m_mapped z x y = some r) : kCr l yX7_mapped cX7_mapped 3 (some .int) { frames := 2, cells := 0, slots := 0, locals := 43 } [.ref za, .int x, .int y] D cI cZ cR (cModel cI cZ za z1 z2 z3 z4 z5 z6 z7 z8 z9 z) r := by
  refine kMri (by decide) (Nat.le_of_ble_eq_true rfl) ?_
  intro p e s m below meth c Q hx hb hml hown hts hk hP hret ls hl
  have hK := hk.1
  have hl : lv_has ls 3 [(0, .ref za), (1, .int x), (2, .int y)] := hl
  rw [f_m_mapped] at hf
  refine lv_aload_n hx hb dX7_mapped_0 rfl (lv_at hl 0 rfl) ?_
  refine lv_iload_n hx hb dX7_mapped_1 rfl (lv_at hl 1 rfl) ?_
  obtain ⟨q2, h2, hf⟩ := bd_some hf
  refine kx_rv (As := [.int x]) (rest := []) hx hb hml hown hts hk hP hl.1 s_yX7_isWay v_yX7_isWay (c_m_isWay l D cI cZ cR za z1 z2 z3 z4 z5 z6 z7 z8 z9 z x _ h2) mT_752 rfl rfl ⟨Nat.le_of_ble_eq_true rfl, Nat.le_of_ble_eq_true rfl⟩ (ci := 7) (q0 := 0) rfl rfl rfl (Nat.le_of_ble_eq_true rfl) ⟨Nat.zero_le _, Nat.zero_le _⟩ dX7_mapped_2 ?_
  refine lv_if_eq (tgt := 27) hx hb dX7_mapped_5 (by decide) (fun c5 => ?_) (fun c5 => ?_)
  · have hf := ite_t c5 hf
    refine lv_ldc (v := (-1000000001)) hx hb hown (hts _ mT_731) dX7_mapped_27 ?_
    exact hret _ _ _ hf dX7_mapped_29
  · have hf := ite_f c5 hf
    refine lv_aload_n hx hb dX7_mapped_8 rfl (lv_at hl 0 rfl) ?_
    refine lv_iload_n hx hb dX7_mapped_9 rfl (lv_at hl 2 rfl) ?_
    obtain ⟨q10, h10, hf⟩ := bd_some hf
    refine kx_rv (As := [.int y]) (rest := []) hx hb hml hown hts hk hP hl.1 s_yX7_isValue v_yX7_isValue (c_m_isValue l D cI cZ cR za z1 z2 z3 z4 z5 z6 z7 z8 z9 z y _ h10) mT_727 rfl rfl ⟨Nat.le_of_ble_eq_true rfl, Nat.le_of_ble_eq_true rfl⟩ (ci := 7) (q0 := 0) rfl rfl rfl (Nat.le_of_ble_eq_true rfl) ⟨Nat.zero_le _, Nat.zero_le _⟩ dX7_mapped_10 ?_
    refine lv_if_eq (tgt := 27) hx hb dX7_mapped_13 (by decide) (fun c13 => ?_) (fun c13 => ?_)
    · have hf := ite_t c13 hf
      refine lv_ldc (v := (-1000000001)) hx hb hown (hts _ mT_731) dX7_mapped_27 ?_
      exact hret _ _ _ hf dX7_mapped_29
    · have hf := ite_f c13 hf
      refine lv_aload_n hx hb dX7_mapped_16 rfl (lv_at hl 0 rfl) ?_
      refine lv_iload_n hx hb dX7_mapped_17 rfl (lv_at hl 1 rfl) ?_
      refine lv_iconst (v := 5) hx hb dX7_mapped_18 (by decide) ?_
      refine lv_iload_n hx hb dX7_mapped_19 rfl (lv_at hl 2 rfl) ?_
      refine lv_iadd hx hb dX7_mapped_20 ?_
      obtain ⟨q21, h21, hf⟩ := bd_some hf
      refine kx_rv (As := [.int x, .int (5 + y)]) (rest := []) hx hb hml hown hts hk hP hl.1 s_yX7_of v_yX7_of (c_m_of l D cI cZ cR za z1 z2 z3 z4 z5 z6 z7 z8 z9 z x (5 + y) _ h21) mT_647 rfl rfl ⟨Nat.le_of_ble_eq_true rfl, Nat.le_of_ble_eq_true rfl⟩ (ci := 7) (q0 := 0) rfl rfl rfl (Nat.le_of_ble_eq_true rfl) ⟨Nat.zero_le _, Nat.zero_le _⟩ dX7_mapped_21 ?_
      refine lv_goto (tgt := 29) hx hb dX7_mapped_24 (by decide) ?_
      exact hret _ _ _ hf dX7_mapped_29
