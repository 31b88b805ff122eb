theorem s_yX7_told : kMS yX7_told cX7_told 2 (some .int) 1 := ⟨mT_622, mT_59, by decide +kernel⟩
theorem v_yX7_told : kMV yX7_told := ⟨mT_620, mT_621⟩
def f_m_told (z : Ob) (x : Int32) : Option (Int32 × Ob) := if x = 0 then (some ((z 1) (Int32.toNatClampNeg 0), z)) else (if x = 1 then (some ((z 1) (Int32.toNatClampNeg 1), z)) else (if x = 2 then (some ((z 1) (Int32.toNatClampNeg 2), z)) else (if x = 3 then (bd (f_m_broken z) (fun q5 => some (q5, z))) else (if x = 4 then (bd (f_m_firstUnordered z) (fun q8 => some (q8, z))) else (if x = 5 then (bd (f_m_isWell z) (fun q11 => if q11 = 0 then (some (0, z)) else (some (1, z)))) else (if x = 6 then (bd (f_m_kept z) (fun q15 => some (q15, z))) else (if x = 7 then (bd (f_m_refused z) (fun q18 => some (q18.1, q18.2))) else (if x = 8 then (bd (f_m_isExact z) (fun q21 => if q21.1 = 0 then (some (0, q21.2)) else (some (1, q21.2)))) else (if x = 9 then (bd (f_m_isWell z) (fun q25 => if q25 = 0 then (some ((-1), z)) else (bd (f_m_matters z) (fun q28 => some (q28.1, q28.2))))) else (if x = 10 then (some (z 0 7, z)) else (if x = 11 then (bd (f_m_wrong z) (fun q32 => some (q32.1, q32.2))) else (if x = 12 then (some (z 0 2, z)) else (some ((-1000000002), z))))))))))))))
set_option maxHeartbeats 4000000 in
set_option maxRecDepth 100000 in
theorem c_m_told (l : Launch) (D : va_G) (cI cZ cR : ClassId) (za z1 z2 z3 z4 z5 z6 z7 z8 z9 : Nat) (z : Ob) (x : Int32) (sz : Nat) (r : Int32) (u : Ob) (hf : f_m_told z x = some (r, u)) : kCi l yX7_told cX7_told 2 (some .int) { frames := 7, cells := 0, slots := 0, locals := 165 } [.ref za, .int x] D cI cZ cR (cModel cI cZ za z1 z2 z3 z4 z5 z6 z7 z8 z9 z) sz (cModel cI cZ za z1 z2 z3 z4 z5 z6 z7 z8 z9 u) r := by
  refine kMwi (wf := (fun u : Ob => cModel cI cZ za z1 z2 z3 z4 z5 z6 z7 z8 z9 u)) (u := u) (by decide) (Nat.le_of_ble_eq_true rfl) ?_
  intro p e s m below meth c Q A hx hb hml hown hts hk hP hD hA hS hret ls hl
  have hS0 := hS
  have hK := hk.1
  have hl : lv_has ls 2 [(0, .ref za), (1, .int x)] := hl
  rw [f_m_told] at hf
  refine lv_iload_n hx hb dX7_told_0 rfl (lv_at hl 1 rfl) ?_
  by_cases c1 : x = 0
  · have hf := ite_t c1 hf
    refine lv_tableIn (off := 67) (tgt := 68) hx hb dX7_told_1 (by rw [c1]; decide) (by rw [c1]; decide) (by rw [c1]; decide +kernel) (by decide) ?_
    refine lv_aload_n hx hb dX7_told_68 rfl (lv_at hl 0 rfl) ?_
    refine va_get (D := D) (ci := 7) (v := .ref z1) (C := RX7) (T := TX7) (N := 17) hx hb hts inT7 hown hK hP 0 rfl rfl 0 (by decide) (hts _ mT_566) (fun _ h9 => h9) rfl dX7_told_69 ?_
    refine lv_iconst (v := 0) hx hb dX7_told_72 (by decide) ?_
    refine va_iald (n := 367) (f := z 1) hx hb hK hP 1 0 rfl rfl (ck_in (by decide)) dX7_told_73 ?_
    exact hret _ _ _ z _ _ hf dX7_told_74 hP hD hS
  have hf := ite_f c1 hf
  by_cases c2 : x = 1
  · have hf := ite_t c2 hf
    refine lv_tableIn (off := 74) (tgt := 75) hx hb dX7_told_1 (by rw [c2]; decide) (by rw [c2]; decide) (by rw [c2]; decide +kernel) (by decide) ?_
    refine lv_aload_n hx hb dX7_told_75 rfl (lv_at hl 0 rfl) ?_
    refine va_get (D := D) (ci := 7) (v := .ref z1) (C := RX7) (T := TX7) (N := 17) hx hb hts inT7 hown hK hP 0 rfl rfl 0 (by decide) (hts _ mT_566) (fun _ h9 => h9) rfl dX7_told_76 ?_
    refine lv_iconst (v := 1) hx hb dX7_told_79 (by decide) ?_
    refine va_iald (n := 367) (f := z 1) hx hb hK hP 1 0 rfl rfl (ck_in (by decide)) dX7_told_80 ?_
    exact hret _ _ _ z _ _ hf dX7_told_81 hP hD hS
  have hf := ite_f c2 hf
  by_cases c3 : x = 2
  · have hf := ite_t c3 hf
    refine lv_tableIn (off := 81) (tgt := 82) hx hb dX7_told_1 (by rw [c3]; decide) (by rw [c3]; decide) (by rw [c3]; decide +kernel) (by decide) ?_
    refine lv_aload_n hx hb dX7_told_82 rfl (lv_at hl 0 rfl) ?_
    refine va_get (D := D) (ci := 7) (v := .ref z1) (C := RX7) (T := TX7) (N := 17) hx hb hts inT7 hown hK hP 0 rfl rfl 0 (by decide) (hts _ mT_566) (fun _ h9 => h9) rfl dX7_told_83 ?_
    refine lv_iconst (v := 2) hx hb dX7_told_86 (by decide) ?_
    refine va_iald (n := 367) (f := z 1) hx hb hK hP 1 0 rfl rfl (ck_in (by decide)) dX7_told_87 ?_
    exact hret _ _ _ z _ _ hf dX7_told_88 hP hD hS
  have hf := ite_f c3 hf
  by_cases c4 : x = 3
  · have hf := ite_t c4 hf
    refine lv_tableIn (off := 88) (tgt := 89) hx hb dX7_told_1 (by rw [c4]; decide) (by rw [c4]; decide) (by rw [c4]; decide +kernel) (by decide) ?_
    refine lv_aload_n hx hb dX7_told_89 rfl (lv_at hl 0 rfl) ?_
    obtain ⟨q5, h6, hf⟩ := bd_some hf
    refine kx_rv (As := []) (rest := []) hx hb hml hown hts hk hP hl.1 s_yX7_broken v_yX7_broken (c_m_broken l D cI cZ cR za z1 z2 z3 z4 z5 z6 z7 z8 z9 z _ h6) mT_623 rfl rfl ⟨Nat.le_of_ble_eq_true rfl, Nat.le_of_ble_eq_true rfl⟩ (ci := 7) (q0 := 0) rfl rfl rfl (Nat.le_of_ble_eq_true rfl) ⟨Nat.zero_le _, Nat.zero_le _⟩ dX7_told_90 ?_
    exact hret _ _ _ z _ _ hf dX7_told_93 hP hD hS
  have hf := ite_f c4 hf
  by_cases c7 : x = 4
  · have hf := ite_t c7 hf
    refine lv_tableIn (off := 93) (tgt := 94) hx hb dX7_told_1 (by rw [c7]; decide) (by rw [c7]; decide) (by rw [c7]; decide +kernel) (by decide) ?_
    refine lv_aload_n hx hb dX7_told_94 rfl (lv_at hl 0 rfl) ?_
    obtain ⟨q8, h9, hf⟩ := bd_some hf
    refine kx_rv (As := []) (rest := []) hx hb hml hown hts hk hP hl.1 s_yX7_firstUnordered v_yX7_firstUnordered (c_m_firstUnordered l D cI cZ cR za z1 z2 z3 z4 z5 z6 z7 z8 z9 z _ h9) mT_635 rfl rfl ⟨Nat.le_of_ble_eq_true rfl, Nat.le_of_ble_eq_true rfl⟩ (ci := 7) (q0 := 0) rfl rfl rfl (Nat.le_of_ble_eq_true rfl) ⟨Nat.zero_le _, Nat.zero_le _⟩ dX7_told_95 ?_
    exact hret _ _ _ z _ _ hf dX7_told_98 hP hD hS
  have hf := ite_f c7 hf
  by_cases c10 : x = 5
  · have hf := ite_t c10 hf
    refine lv_tableIn (off := 98) (tgt := 99) hx hb dX7_told_1 (by rw [c10]; decide) (by rw [c10]; decide) (by rw [c10]; decide +kernel) (by decide) ?_
    refine lv_aload_n hx hb dX7_told_99 rfl (lv_at hl 0 rfl) ?_
    obtain ⟨q11, h12, hf⟩ := bd_some hf
    refine kx_rv (As := []) (rest := []) hx hb hml hown hts hk hP hl.1 s_yX7_isWell v_yX7_isWell (c_m_isWell l D cI cZ cR za z1 z2 z3 z4 z5 z6 z7 z8 z9 z _ h12) mT_651 rfl rfl ⟨Nat.le_of_ble_eq_true rfl, Nat.le_of_ble_eq_true rfl⟩ (ci := 7) (q0 := 0) rfl rfl rfl (Nat.le_of_ble_eq_true rfl) ⟨Nat.zero_le _, Nat.zero_le _⟩ dX7_told_100 ?_
    refine lv_if_eq (tgt := 110) hx hb dX7_told_103 (by decide) (fun c13 => ?_) (fun c13 => ?_)
    · have hf := ite_t c13 hf
      refine lv_iconst (v := 0) hx hb dX7_told_110 (by decide) ?_
      exact hret _ _ _ z _ _ hf dX7_told_111 hP hD hS
    · have hf := ite_f c13 hf
      refine lv_iconst (v := 1) hx hb dX7_told_106 (by decide) ?_
      refine lv_goto (tgt := 111) hx hb dX7_told_107 (by decide) ?_
      exact hret _ _ _ z _ _ hf dX7_told_111 hP hD hS
  have hf := ite_f c10 hf
  by_cases c14 : x = 6
  · have hf := ite_t c14 hf
    refine lv_tableIn (off := 111) (tgt := 112) hx hb dX7_told_1 (by rw [c14]; decide) (by rw [c14]; decide) (by rw [c14]; decide +kernel) (by decide) ?_
    refine lv_aload_n hx hb dX7_told_112 rfl (lv_at hl 0 rfl) ?_
    obtain ⟨q15, h16, hf⟩ := bd_some hf
    refine kx_rv (As := []) (rest := []) hx hb hml hown hts hk hP hl.1 s_yX7_kept v_yX7_kept (c_m_kept l D cI cZ cR za z1 z2 z3 z4 z5 z6 z7 z8 z9 z _ h16) mT_655 rfl rfl ⟨Nat.le_of_ble_eq_true rfl, Nat.le_of_ble_eq_true rfl⟩ (ci := 7) (q0 := 0) rfl rfl rfl (Nat.le_of_ble_eq_true rfl) ⟨Nat.zero_le _, Nat.zero_le _⟩ dX7_told_113 ?_
    exact hret _ _ _ z _ _ hf dX7_told_116 hP hD hS
  have hf := ite_f c14 hf
  by_cases c17 : x = 7
  · have hf := ite_t c17 hf
    refine lv_tableIn (off := 116) (tgt := 117) hx hb dX7_told_1 (by rw [c17]; decide) (by rw [c17]; decide) (by rw [c17]; decide +kernel) (by decide) ?_
    refine lv_aload_n hx hb dX7_told_117 rfl (lv_at hl 0 rfl) ?_
    obtain ⟨q18, h19, hf⟩ := bd_some hf
    refine kx_wi (As := []) (rest := []) (wc := cModel cI cZ za z1 z2 z3 z4 z5 z6 z7 z8 z9 z) (wr := []) (wd := cModel cI cZ za z1 z2 z3 z4 z5 z6 z7 z8 z9 q18.2) (wn := cModel cI cZ za z1 z2 z3 z4 z5 z6 z7 z8 z9 q18.2) hx hb hml hown hts hk hP hD hS hA hl.1 s_yX7_refused v_yX7_refused (c_m_refused l D cI cZ cR za z1 z2 z3 z4 z5 z6 z7 z8 z9 z H.size _ _ h19) mT_663 rfl rfl ⟨Nat.le_of_ble_eq_true rfl, Nat.le_of_ble_eq_true rfl⟩ [0, 1, 2, 3, 4, 5, 6, 7, 8, 9] [] [0, 1, 2, 3, 4, 5, 6, 7, 8, 9] rfl rfl (by decide) (by decide) (by decide) (by decide) rfl (ci := 7) (q0 := 0) rfl rfl rfl (Nat.le_of_ble_eq_true rfl) ⟨Nat.zero_le _, Nat.zero_le _⟩ dX7_told_118 (fun H locs hP hD hS => ?_)
    exact hret _ _ _ q18.2 _ _ hf dX7_told_121 hP hD hS
  have hf := ite_f c17 hf
  by_cases c20 : x = 8
  · have hf := ite_t c20 hf
    refine lv_tableIn (off := 121) (tgt := 122) hx hb dX7_told_1 (by rw [c20]; decide) (by rw [c20]; decide) (by rw [c20]; decide +kernel) (by decide) ?_
    refine lv_aload_n hx hb dX7_told_122 rfl (lv_at hl 0 rfl) ?_
    obtain ⟨q21, h22, hf⟩ := bd_some hf
    refine kx_wi (As := []) (rest := []) (wc := cModel cI cZ za z1 z2 z3 z4 z5 z6 z7 z8 z9 z) (wr := []) (wd := cModel cI cZ za z1 z2 z3 z4 z5 z6 z7 z8 z9 q21.2) (wn := cModel cI cZ za z1 z2 z3 z4 z5 z6 z7 z8 z9 q21.2) hx hb hml hown hts hk hP hD hS hA hl.1 s_yX7_isExact v_yX7_isExact (c_m_isExact l D cI cZ cR za z1 z2 z3 z4 z5 z6 z7 z8 z9 z H.size _ _ h22) mT_687 rfl rfl ⟨Nat.le_of_ble_eq_true rfl, Nat.le_of_ble_eq_true rfl⟩ [0, 1, 2, 3, 4, 5, 6, 7, 8, 9] [] [0, 1, 2, 3, 4, 5, 6, 7, 8, 9] rfl rfl (by decide) (by decide) (by decide) (by decide) rfl (ci := 7) (q0 := 0) rfl rfl rfl (Nat.le_of_ble_eq_true rfl) ⟨Nat.zero_le _, Nat.zero_le _⟩ dX7_told_123 (fun H locs hP hD hS => ?_)
    refine lv_if_eq (tgt := 133) hx hb dX7_told_126 (by decide) (fun c23 => ?_) (fun c23 => ?_)
    · have hf := ite_t c23 hf
      refine lv_iconst (v := 0) hx hb dX7_told_133 (by decide) ?_
      exact hret _ _ _ q21.2 _ _ hf dX7_told_134 hP hD hS
    · have hf := ite_f c23 hf
      refine lv_iconst (v := 1) hx hb dX7_told_129 (by decide) ?_
      refine lv_goto (tgt := 134) hx hb dX7_told_130 (by decide) ?_
      exact hret _ _ _ q21.2 _ _ hf dX7_told_134 hP hD hS
  have hf := ite_f c20 hf
  by_cases c24 : x = 9
  · have hf := ite_t c24 hf
    refine lv_tableIn (off := 134) (tgt := 135) hx hb dX7_told_1 (by rw [c24]; decide) (by rw [c24]; decide) (by rw [c24]; decide +kernel) (by decide) ?_
    refine lv_aload_n hx hb dX7_told_135 rfl (lv_at hl 0 rfl) ?_
    obtain ⟨q25, h26, hf⟩ := bd_some hf
    refine kx_rv (As := []) (rest := []) hx hb hml hown hts hk hP hl.1 s_yX7_isWell v_yX7_isWell (c_m_isWell l D cI cZ cR za z1 z2 z3 z4 z5 z6 z7 z8 z9 z _ h26) mT_651 rfl rfl ⟨Nat.le_of_ble_eq_true rfl, Nat.le_of_ble_eq_true rfl⟩ (ci := 7) (q0 := 0) rfl rfl rfl (Nat.le_of_ble_eq_true rfl) ⟨Nat.zero_le _, Nat.zero_le _⟩ dX7_told_136 ?_
    refine lv_if_eq (tgt := 149) hx hb dX7_told_139 (by decide) (fun c27 => ?_) (fun c27 => ?_)
    · have hf := ite_t c27 hf
      refine lv_iconst (v := (-1)) hx hb dX7_told_149 (by decide) ?_
      exact hret _ _ _ z _ _ hf dX7_told_150 hP hD hS
    · have hf := ite_f c27 hf
      refine lv_aload_n hx hb dX7_told_142 rfl (lv_at hl 0 rfl) ?_
      obtain ⟨q28, h29, hf⟩ := bd_some hf
      refine kx_wi (As := []) (rest := []) (wc := cModel cI cZ za z1 z2 z3 z4 z5 z6 z7 z8 z9 z) (wr := []) (wd := cModel cI cZ za z1 z2 z3 z4 z5 z6 z7 z8 z9 q28.2) (wn := cModel cI cZ za z1 z2 z3 z4 z5 z6 z7 z8 z9 q28.2) hx hb hml hown hts hk hP hD hS hA hl.1 s_yX7_matters v_yX7_matters (c_m_matters l D cI cZ cR za z1 z2 z3 z4 z5 z6 z7 z8 z9 z H.size _ _ h29) mT_703 rfl rfl ⟨Nat.le_of_ble_eq_true rfl, Nat.le_of_ble_eq_true rfl⟩ [0, 1, 2, 3, 4, 5, 6, 7, 8, 9] [] [0, 1, 2, 3, 4, 5, 6, 7, 8, 9] rfl rfl (by decide) (by decide) (by decide) (by decide) rfl (ci := 7) (q0 := 0) rfl rfl rfl (Nat.le_of_ble_eq_true rfl) ⟨Nat.zero_le _, Nat.zero_le _⟩ dX7_told_143 (fun H locs hP hD hS => ?_)
      refine lv_goto (tgt := 150) hx hb dX7_told_146 (by decide) ?_
      exact hret _ _ _ q28.2 _ _ hf dX7_told_150 hP hD hS
  have hf := ite_f c24 hf
  by_cases c30 : x = 10
  · have hf := ite_t c30 hf
    refine lv_tableIn (off := 150) (tgt := 151) hx hb dX7_told_1 (by rw [c30]; decide) (by rw [c30]; decide) (by rw [c30]; decide +kernel) (by decide) ?_
    refine lv_aload_n hx hb dX7_told_151 rfl (lv_at hl 0 rfl) ?_
    refine va_get (D := D) (ci := 7) (v := .int (z 0 7)) (C := RX7) (T := TX7) (N := 17) hx hb hts inT7 hown hK hP 0 rfl rfl 7 (by decide) (hts _ mT_573) (fun _ h9 => h9) rfl dX7_told_152 ?_
    exact hret _ _ _ z _ _ hf dX7_told_155 hP hD hS
  have hf := ite_f c30 hf
  by_cases c31 : x = 11
  · have hf := ite_t c31 hf
    refine lv_tableIn (off := 155) (tgt := 156) hx hb dX7_told_1 (by rw [c31]; decide) (by rw [c31]; decide) (by rw [c31]; decide +kernel) (by decide) ?_
    refine lv_aload_n hx hb dX7_told_156 rfl (lv_at hl 0 rfl) ?_
    obtain ⟨q32, h33, hf⟩ := bd_some hf
    refine kx_wi (As := []) (rest := []) (wc := cModel cI cZ za z1 z2 z3 z4 z5 z6 z7 z8 z9 z) (wr := []) (wd := cModel cI cZ za z1 z2 z3 z4 z5 z6 z7 z8 z9 q32.2) (wn := cModel cI cZ za z1 z2 z3 z4 z5 z6 z7 z8 z9 q32.2) hx hb hml hown hts hk hP hD hS hA hl.1 s_yX7_wrong v_yX7_wrong (c_m_wrong l D cI cZ cR za z1 z2 z3 z4 z5 z6 z7 z8 z9 z H.size _ _ h33) mT_711 rfl rfl ⟨Nat.le_of_ble_eq_true rfl, Nat.le_of_ble_eq_true rfl⟩ [0, 1, 2, 3, 4, 5, 6, 7, 8, 9] [] [0, 1, 2, 3, 4, 5, 6, 7, 8, 9] rfl rfl (by decide) (by decide) (by decide) (by decide) rfl (ci := 7) (q0 := 0) rfl rfl rfl (Nat.le_of_ble_eq_true rfl) ⟨Nat.zero_le _, Nat.zero_le _⟩ dX7_told_157 (fun H locs hP hD hS => ?_)
    exact hret _ _ _ q32.2 _ _ hf dX7_told_160 hP hD hS
  have hf := ite_f c31 hf
  by_cases c34 : x = 12
  · have hf := ite_t c34 hf
    refine lv_tableIn (off := 160) (tgt := 161) hx hb dX7_told_1 (by rw [c34]; decide) (by rw [c34]; decide) (by rw [c34]; decide +kernel) (by decide) ?_
    refine lv_aload_n hx hb dX7_told_161 rfl (lv_at hl 0 rfl) ?_
    refine va_get (D := D) (ci := 7) (v := .int (z 0 2)) (C := RX7) (T := TX7) (N := 17) hx hb hts inT7 hown hK hP 0 rfl rfl 2 (by decide) (hts _ mT_568) (fun _ h9 => h9) rfl dX7_told_162 ?_
    exact hret _ _ _ z _ _ hf dX7_told_165 hP hD hS
  have hf := ite_f c34 hf
  refine lv_tableOut (tgt := 166) hx hb dX7_told_1 (by have nc1 := lv_neT (a := 0) c1 rfl; have nc2 := lv_neT (a := 1) c2 rfl; have nc3 := lv_neT (a := 2) c3 rfl; have nc4 := lv_neT (a := 3) c4 rfl; have nc7 := lv_neT (a := 4) c7 rfl; have nc10 := lv_neT (a := 5) c10 rfl; have nc14 := lv_neT (a := 6) c14 rfl; have nc17 := lv_neT (a := 7) c17 rfl; have nc20 := lv_neT (a := 8) c20 rfl; have nc24 := lv_neT (a := 9) c24 rfl; have nc30 := lv_neT (a := 10) c30 rfl; have nc31 := lv_neT (a := 11) c31 rfl; have nc34 := lv_neT (a := 12) c34 rfl; omega) (by decide) ?_
  refine lv_ldc (v := (-1000000002)) hx hb hown (hts _ mT_722) dX7_told_166 ?_
  exact hret _ _ _ z _ _ hf dX7_told_168 hP hD hS
theorem s_yX7_knownAt : kMS yX7_knownAt cX7_knownAt 2 (some .int) 1 := ⟨mT_743, mT_59, by decide +kernel⟩
theorem v_yX7_knownAt : kMV yX7_knownAt := ⟨mT_742, mT_43⟩
def f_m_knownAt (z : Ob) (x : Int32) : Option (Int32 × Ob) := bd (f_m_isWell z) (fun q1 => if q1 = 0 then (some ((-1), z)) else (bd (f_m_works 6 z 0 (-1)) (fun q4 => if q4.1 < 0 then (some ((-1), q4.2)) else (gd (ck x 20) (some ((q4.2 6) (Int32.toNatClampNeg x), q4.2))))))
set_option maxHeartbeats 4000000 in
set_option maxRecDepth 100000 in
theorem c_m_knownAt (l : Launch) (D : va_G) (cI cZ cR : ClassId) (za z1 z2 z3 z4 z5 z6 z7 z8 z9 : Nat) (z : Ob) (x : Int32) (sz : Nat) (r : Int32) (u : Ob) (hf : f_m_knownAt z x = some (r, u)) : kCi l yX7_knownAt cX7_knownAt 2 (some .int) { frames := 5, cells := 0, slots := 0, locals := 118 } [.ref za, .int x] D cI cZ cR (cModel cI cZ za z1 z2 z3 z4 z5 z6 z7 z8 z9 z) sz (cModel cI cZ za z1 z2 z3 z4 z5 z6 z7 z8 z9 u) r := by
  refine kMwi (wf := (fun u : Ob => cModel cI cZ za z1 z2 z3 z4 z5 z6 z7 z8 z9 u)) (u := u) (by decide) (Nat.le_of_ble_eq_true rfl) ?_
  intro p e s m below meth c Q A hx hb hml hown hts hk hP hD hA hS hret ls hl
  have hS0 := hS
  have hK := hk.1
  have hl : lv_has ls 2 [(0, .ref za), (1, .int x)] := hl
  rw [f_m_knownAt] at hf
  refine lv_aload_n hx hb dX7_knownAt_0 rfl (lv_at hl 0 rfl) ?_
  obtain ⟨q1, h2, hf⟩ := bd_some hf
  refine kx_rv (As := []) (rest := []) hx hb hml hown hts hk hP hl.1 s_yX7_isWell v_yX7_isWell (c_m_isWell l D cI cZ cR za z1 z2 z3 z4 z5 z6 z7 z8 z9 z _ h2) mT_651 rfl rfl ⟨Nat.le_of_ble_eq_true rfl, Nat.le_of_ble_eq_true rfl⟩ (ci := 7) (q0 := 0) rfl rfl rfl (Nat.le_of_ble_eq_true rfl) ⟨Nat.zero_le _, Nat.zero_le _⟩ dX7_knownAt_1 ?_
  refine lv_if_eq (tgt := 29) hx hb dX7_knownAt_4 (by decide) (fun c3 => ?_) (fun c3 => ?_)
  · have hf := ite_t c3 hf
    refine lv_iconst (v := (-1)) hx hb dX7_knownAt_29 (by decide) ?_
    exact hret _ _ _ z _ _ hf dX7_knownAt_30 hP hD hS
  · have hf := ite_f c3 hf
    refine lv_aload_n hx hb dX7_knownAt_7 rfl (lv_at hl 0 rfl) ?_
    refine lv_aload_n hx hb dX7_knownAt_8 rfl (lv_at hl 0 rfl) ?_
    refine va_get (D := D) (ci := 7) (v := .ref z6) (C := RX7) (T := TX7) (N := 17) hx hb hts inT7 hown hK hP 0 rfl rfl 8 (by decide) (hts _ mT_574) (fun _ h9 => h9) rfl dX7_knownAt_9 ?_
    refine lv_iconst (v := 0) hx hb dX7_knownAt_12 (by decide) ?_
    refine lv_iconst (v := (-1)) hx hb dX7_knownAt_13 (by decide) ?_
    obtain ⟨q4, h5, hf⟩ := bd_some hf
    refine kx_wi (As := [.ref z6, .int 0, .int (-1)]) (rest := []) (wc := cModel cI cZ za z1 z2 z3 z4 z5 z6 z7 z8 z9 z) (wr := []) (wd := cModel cI cZ za z1 z2 z3 z4 z5 z6 z7 z8 z9 q4.2) (wn := cModel cI cZ za z1 z2 z3 z4 z5 z6 z7 z8 z9 q4.2) hx hb hml hown hts hk hP hD hS hA hl.1 s_yX7_works v_yX7_works (c_m_works6 l D cI cZ cR za z1 z2 z3 z4 z5 z6 z7 z8 z9 z 0 (-1) H.size _ _ h5) mT_691 rfl rfl ⟨Nat.le_of_ble_eq_true rfl, Nat.le_of_ble_eq_true rfl⟩ [0, 1, 2, 3, 4, 5, 6, 7, 8, 9] [] [0, 1, 2, 3, 4, 5, 6, 7, 8, 9] rfl rfl (by decide) (by decide) (by decide) (by decide) rfl (ci := 7) (q0 := 0) rfl rfl rfl (Nat.le_of_ble_eq_true rfl) ⟨Nat.zero_le _, Nat.zero_le _⟩ dX7_knownAt_14 (fun H locs hP hD hS => ?_)
    refine lv_if_lt (tgt := 29) hx hb dX7_knownAt_17 (by decide) (fun c6 => ?_) (fun c6 => ?_)
    · have hf := ite_t c6 hf
      refine lv_iconst (v := (-1)) hx hb dX7_knownAt_29 (by decide) ?_
      exact hret _ _ _ q4.2 _ _ hf dX7_knownAt_30 hP hD hS
    · have hf := ite_f c6 hf
      refine lv_aload_n hx hb dX7_knownAt_20 rfl (lv_at hl 0 rfl) ?_
      refine va_get (D := D) (ci := 7) (v := .ref z6) (C := RX7) (T := TX7) (N := 17) hx hb hts inT7 hown hK hP 0 rfl rfl 8 (by decide) (hts _ mT_574) (fun _ h9 => h9) rfl dX7_knownAt_21 ?_
      refine lv_iload_n hx hb dX7_knownAt_24 rfl (lv_at hl 1 rfl) ?_
      obtain ⟨b7, hf⟩ := gd_some hf
      refine va_iald (n := 20) (f := q4.2 6) hx hb hK hP 6 0 rfl rfl (ck_in b7) dX7_knownAt_25 ?_
      refine lv_goto (tgt := 30) hx hb dX7_knownAt_26 (by decide) ?_
      exact hret _ _ _ q4.2 _ _ hf dX7_knownAt_30 hP hD hS
theorem s_yX7_rebuiltAt : kMS yX7_rebuiltAt cX7_rebuiltAt 2 (some .int) 1 := ⟨mT_747, mT_59, by decide +kernel⟩
theorem v_yX7_rebuiltAt : kMV yX7_rebuiltAt := ⟨mT_746, mT_44⟩
def f_m_rebuiltAt (z : Ob) (x : Int32) : Option (Int32 × Ob) := bd (f_m_rebuilds z) (fun q1 => gd (ck x 20) (some ((q1 8) (Int32.toNatClampNeg x), q1)))
set_option maxHeartbeats 4000000 in
set_option maxRecDepth 100000 in
theorem c_m_rebuiltAt (l : Launch) (D : va_G) (cI cZ cR : ClassId) (za z1 z2 z3 z4 z5 z6 z7 z8 z9 : Nat) (z : Ob) (x : Int32) (sz : Nat) (r : Int32) (u : Ob) (hf : f_m_rebuiltAt z x = some (r, u)) : kCi l yX7_rebuiltAt cX7_rebuiltAt 2 (some .int) { frames := 5, cells := 0, slots := 0, locals := 114 } [.ref za, .int x] D cI cZ cR (cModel cI cZ za z1 z2 z3 z4 z5 z6 z7 z8 z9 z) sz (cModel cI cZ za z1 z2 z3 z4 z5 z6 z7 z8 z9 u) r := by
  refine kMwi (wf := (fun u : Ob => cModel cI cZ za z1 z2 z3 z4 z5 z6 z7 z8 z9 u)) (u := u) (by decide) (Nat.le_of_ble_eq_true rfl) ?_
  intro p e s m below meth c Q A hx hb hml hown hts hk hP hD hA hS hret ls hl
  have hS0 := hS
  have hK := hk.1
  have hl : lv_has ls 2 [(0, .ref za), (1, .int x)] := hl
  rw [f_m_rebuiltAt] at hf
  refine lv_aload_n hx hb dX7_rebuiltAt_0 rfl (lv_at hl 0 rfl) ?_
  obtain ⟨q1, h2, hf⟩ := bd_some hf
  refine kx_wv (As := []) (rest := []) (wc := cModel cI cZ za z1 z2 z3 z4 z5 z6 z7 z8 z9 z) (wr := []) (wd := cModel cI cZ za z1 z2 z3 z4 z5 z6 z7 z8 z9 q1) (wn := cModel cI cZ za z1 z2 z3 z4 z5 z6 z7 z8 z9 q1) hx hb hml hown hts hk hP hD hS hA hl.1 s_yX7_rebuilds v_yX7_rebuilds (c_m_rebuilds l D cI cZ cR za z1 z2 z3 z4 z5 z6 z7 z8 z9 z H.size _ h2) mT_667 rfl rfl ⟨Nat.le_of_ble_eq_true rfl, Nat.le_of_ble_eq_true rfl⟩ [0, 1, 2, 3, 4, 5, 6, 7, 8, 9] [] [0, 1, 2, 3, 4, 5, 6, 7, 8, 9] rfl rfl (by decide) (by decide) (by decide) (by decide) rfl (ci := 7) (q0 := 0) rfl rfl rfl (Nat.le_of_ble_eq_true rfl) ⟨Nat.zero_le _, Nat.zero_le _⟩ dX7_rebuiltAt_1 (fun H locs hP hD hS => ?_)
  refine lv_aload_n hx hb dX7_rebuiltAt_4 rfl (lv_at hl 0 rfl) ?_
  refine va_get (D := D) (ci := 7) (v := .ref z8) (C := RX7) (T := TX7) (N := 17) hx hb hts inT7 hown hK hP 0 rfl rfl 10 (by decide) (hts _ mT_576) (fun _ h9 => h9) rfl dX7_rebuiltAt_5 ?_
  refine lv_iload_n hx hb dX7_rebuiltAt_8 rfl (lv_at hl 1 rfl) ?_
  obtain ⟨b3, hf⟩ := gd_some hf
  refine va_iald (n := 20) (f := q1 8) hx hb hK hP 8 0 rfl rfl (ck_in b3) dX7_rebuiltAt_9 ?_
  exact hret _ _ _ q1 _ _ hf dX7_rebuiltAt_10 hP hD hS
theorem s_yX7_place : kMS yX7_place cX7_place 3 (some .int) 2 := ⟨mT_739, mT_59, by decide +kernel⟩
theorem v_yX7_place : kMV yX7_place := ⟨mT_737, mT_738⟩
def f_m_place (z : Ob) (x : Int32) (y : Int32) : Option (Int32 × Ob) := bd (f_m_isPlace z x) (fun q1 => if q1 = 0 then (some ((-1000000001), z)) else (if y = 0 then (gd (ck (67 + x) 367) (some ((z 1) (Int32.toNatClampNeg (67 + x)), z))) else (if y = 1 then (gd (ck (77 + x) 367) (some ((z 1) (Int32.toNatClampNeg (77 + x)), z))) else (if y = 2 then (bd (f_m_knownAt z x) (fun q9 => some (q9.1, q9.2))) else (if y = 3 then (bd (f_m_knownAt z (10 + x)) (fun q12 => some (q12.1, q12.2))) else (if y = 4 then (bd (f_m_rebuiltAt z x) (fun q15 => some (q15.1, q15.2))) else (if y = 5 then (bd (f_m_rebuiltAt z (10 + x)) (fun q18 => some (q18.1, q18.2))) else (if y = 6 then (bd (f_m_isKept z x) (fun q21 => if q21 = 0 then (some ((-1), z)) else (gd (ck (87 + x) 367) (some ((z 1) (Int32.toNatClampNeg (87 + x)), z))))) else (if y = 7 then (bd (f_m_isKept z x) (fun q26 => if q26 = 0 then (some ((-1), z)) else (gd (ck (97 + x) 367) (some ((z 1) (Int32.toNatClampNeg (97 + x)), z))))) else (some ((-1000000002), z)))))))))))
set_option maxHeartbeats 4000000 in
set_option maxRecDepth 100000 in
theorem c_m_place (l : Launch) (D : va_G) (cI cZ cR : ClassId) (za z1 z2 z3 z4 z5 z6 z7 z8 z9 : Nat) (z : Ob) (x : Int32) (y : Int32) (sz : Nat) (r : Int32) (u : Ob) (hf : f_m_place z x y = some (r, u)) : kCi l yX7_place cX7_place 3 (some .int) { frames := 6, cells := 0, slots := 0, locals := 139 } [.ref za, .int x, .int y] D cI cZ cR (cModel cI cZ za z1 z2 z3 z4 z5 z6 z7 z8 z9 z) sz (cModel cI cZ za z1 z2 z3 z4 z5 z6 z7 z8 z9 u) r := by
  refine kMwi (wf := (fun u : Ob => cModel cI cZ za z1 z2 z3 z4 z5 z6 z7 z8 z9 u)) (u := u) (by decide) (Nat.le_of_ble_eq_true rfl) ?_
  intro p e s m below meth c Q A hx hb hml hown hts hk hP hD hA hS hret ls hl
  have hS0 := hS
  have hK := hk.1
  have hl : lv_has ls 3 [(0, .ref za), (1, .int x), (2, .int y)] := hl
  rw [f_m_place] at hf
  refine lv_aload_n hx hb dX7_place_0 rfl (lv_at hl 0 rfl) ?_
  refine lv_iload_n hx hb dX7_place_1 rfl (lv_at hl 1 rfl) ?_
  obtain ⟨q1, h2, hf⟩ := bd_some hf
  refine kx_rv (As := [.int x]) (rest := []) hx hb hml hown hts hk hP hl.1 s_yX7_isPlace v_yX7_isPlace (c_m_isPlace l D cI cZ cR za z1 z2 z3 z4 z5 z6 z7 z8 z9 z x _ h2) mT_715 rfl rfl ⟨Nat.le_of_ble_eq_true rfl, Nat.le_of_ble_eq_true rfl⟩ (ci := 7) (q0 := 0) rfl rfl rfl (Nat.le_of_ble_eq_true rfl) ⟨Nat.zero_le _, Nat.zero_le _⟩ dX7_place_2 ?_
  refine lv_if_ne (tgt := 11) hx hb dX7_place_5 (by decide) (fun c3 => ?_) (fun c3 => ?_)
  · have hf := ite_f c3 hf
    refine lv_iload_n hx hb dX7_place_11 rfl (lv_at hl 2 rfl) ?_
    by_cases c4 : y = 0
    · have hf := ite_t c4 hf
      refine lv_tableIn (off := 48) (tgt := 60) hx hb dX7_place_12 (by rw [c4]; decide) (by rw [c4]; decide) (by rw [c4]; decide +kernel) (by decide) ?_
      refine lv_aload_n hx hb dX7_place_60 rfl (lv_at hl 0 rfl) ?_
      refine va_get (D := D) (ci := 7) (v := .ref z1) (C := RX7) (T := TX7) (N := 17) hx hb hts inT7 hown hK hP 0 rfl rfl 0 (by decide) (hts _ mT_566) (fun _ h9 => h9) rfl dX7_place_61 ?_
      refine lv_bipush (v := 67) hx hb dX7_place_64 (by decide) ?_
      refine lv_iload_n hx hb dX7_place_66 rfl (lv_at hl 1 rfl) ?_
      refine lv_iadd hx hb dX7_place_67 ?_
      obtain ⟨b5, hf⟩ := gd_some hf
      refine va_iald (n := 367) (f := z 1) hx hb hK hP 1 0 rfl rfl (ck_in b5) dX7_place_68 ?_
      exact hret _ _ _ z _ _ hf dX7_place_69 hP hD hS
    have hf := ite_f c4 hf
    by_cases c6 : y = 1
    · have hf := ite_t c6 hf
      refine lv_tableIn (off := 58) (tgt := 70) hx hb dX7_place_12 (by rw [c6]; decide) (by rw [c6]; decide) (by rw [c6]; decide +kernel) (by decide) ?_
      refine lv_aload_n hx hb dX7_place_70 rfl (lv_at hl 0 rfl) ?_
      refine va_get (D := D) (ci := 7) (v := .ref z1) (C := RX7) (T := TX7) (N := 17) hx hb hts inT7 hown hK hP 0 rfl rfl 0 (by decide) (hts _ mT_566) (fun _ h9 => h9) rfl dX7_place_71 ?_
      refine lv_bipush (v := 77) hx hb dX7_place_74 (by decide) ?_
      refine lv_iload_n hx hb dX7_place_76 rfl (lv_at hl 1 rfl) ?_
      refine lv_iadd hx hb dX7_place_77 ?_
      obtain ⟨b7, hf⟩ := gd_some hf
      refine va_iald (n := 367) (f := z 1) hx hb hK hP 1 0 rfl rfl (ck_in b7) dX7_place_78 ?_
      exact hret _ _ _ z _ _ hf dX7_place_79 hP hD hS
    have hf := ite_f c6 hf
    by_cases c8 : y = 2
    · have hf := ite_t c8 hf
      refine lv_tableIn (off := 68) (tgt := 80) hx hb dX7_place_12 (by rw [c8]; decide) (by rw [c8]; decide) (by rw [c8]; decide +kernel) (by decide) ?_
      refine lv_aload_n hx hb dX7_place_80 rfl (lv_at hl 0 rfl) ?_
      refine lv_iload_n hx hb dX7_place_81 rfl (lv_at hl 1 rfl) ?_
      obtain ⟨q9, h10, hf⟩ := bd_some hf
      refine kx_wi (As := [.int x]) (rest := []) (wc := cModel cI cZ za z1 z2 z3 z4 z5 z6 z7 z8 z9 z) (wr := []) (wd := cModel cI cZ za z1 z2 z3 z4 z5 z6 z7 z8 z9 q9.2) (wn := cModel cI cZ za z1 z2 z3 z4 z5 z6 z7 z8 z9 q9.2) hx hb hml hown hts hk hP hD hS hA hl.1 s_yX7_knownAt v_yX7_knownAt (c_m_knownAt l D cI cZ cR za z1 z2 z3 z4 z5 z6 z7 z8 z9 z x H.size _ _ h10) mT_740 rfl rfl ⟨Nat.le_of_ble_eq_true rfl, Nat.le_of_ble_eq_true rfl⟩ [0, 1, 2, 3, 4, 5, 6, 7, 8, 9] [] [0, 1, 2, 3, 4, 5, 6, 7, 8, 9] rfl rfl (by decide) (by decide) (by decide) (by decide) rfl (ci := 7) (q0 := 0) rfl rfl rfl (Nat.le_of_ble_eq_true rfl) ⟨Nat.zero_le _, Nat.zero_le _⟩ dX7_place_82 (fun H locs hP hD hS => ?_)
      exact hret _ _ _ q9.2 _ _ hf dX7_place_85 hP hD hS
    have hf := ite_f c8 hf
    by_cases c11 : y = 3
    · have hf := ite_t c11 hf
      refine lv_tableIn (off := 74) (tgt := 86) hx hb dX7_place_12 (by rw [c11]; decide) (by rw [c11]; decide) (by rw [c11]; decide +kernel) (by decide) ?_
      refine lv_aload_n hx hb dX7_place_86 rfl (lv_at hl 0 rfl) ?_
      refine lv_bipush (v := 10) hx hb dX7_place_87 (by decide) ?_
      refine lv_iload_n hx hb dX7_place_89 rfl (lv_at hl 1 rfl) ?_
      refine lv_iadd hx hb dX7_place_90 ?_
      obtain ⟨q12, h13, hf⟩ := bd_some hf
      refine kx_wi (As := [.int (10 + x)]) (rest := []) (wc := cModel cI cZ za z1 z2 z3 z4 z5 z6 z7 z8 z9 z) (wr := []) (wd := cModel cI cZ za z1 z2 z3 z4 z5 z6 z7 z8 z9 q12.2) (wn := cModel cI cZ za z1 z2 z3 z4 z5 z6 z7 z8 z9 q12.2) hx hb hml hown hts hk hP hD hS hA hl.1 s_yX7_knownAt v_yX7_knownAt (c_m_knownAt l D cI cZ cR za z1 z2 z3 z4 z5 z6 z7 z8 z9 z (10 + x) H.size _ _ h13) mT_740 rfl rfl ⟨Nat.le_of_ble_eq_true rfl, Nat.le_of_ble_eq_true rfl⟩ [0, 1, 2, 3, 4, 5, 6, 7, 8, 9] [] [0, 1, 2, 3, 4, 5, 6, 7, 8, 9] rfl rfl (by decide) (by decide) (by decide) (by decide) rfl (ci := 7) (q0 := 0) rfl rfl rfl (Nat.le_of_ble_eq_true rfl) ⟨Nat.zero_le _, Nat.zero_le _⟩ dX7_place_91 (fun H locs hP hD hS => ?_)
      exact hret _ _ _ q12.2 _ _ hf dX7_place_94 hP hD hS
    have hf := ite_f c11 hf
    by_cases c14 : y = 4
    · have hf := ite_t c14 hf
      refine lv_tableIn (off := 83) (tgt := 95) hx hb dX7_place_12 (by rw [c14]; decide) (by rw [c14]; decide) (by rw [c14]; decide +kernel) (by decide) ?_
      refine lv_aload_n hx hb dX7_place_95 rfl (lv_at hl 0 rfl) ?_
      refine lv_iload_n hx hb dX7_place_96 rfl (lv_at hl 1 rfl) ?_
      obtain ⟨q15, h16, hf⟩ := bd_some hf
      refine kx_wi (As := [.int x]) (rest := []) (wc := cModel cI cZ za z1 z2 z3 z4 z5 z6 z7 z8 z9 z) (wr := []) (wd := cModel cI cZ za z1 z2 z3 z4 z5 z6 z7 z8 z9 q15.2) (wn := cModel cI cZ za z1 z2 z3 z4 z5 z6 z7 z8 z9 q15.2) hx hb hml hown hts hk hP hD hS hA hl.1 s_yX7_rebuiltAt v_yX7_rebuiltAt (c_m_rebuiltAt l D cI cZ cR za z1 z2 z3 z4 z5 z6 z7 z8 z9 z x H.size _ _ h16) mT_744 rfl rfl ⟨Nat.le_of_ble_eq_true rfl, Nat.le_of_ble_eq_true rfl⟩ [0, 1, 2, 3, 4, 5, 6, 7, 8, 9] [] [0, 1, 2, 3, 4, 5, 6, 7, 8, 9] rfl rfl (by decide) (by decide) (by decide) (by decide) rfl (ci := 7) (q0 := 0) rfl rfl rfl (Nat.le_of_ble_eq_true rfl) ⟨Nat.zero_le _, Nat.zero_le _⟩ dX7_place_97 (fun H locs hP hD hS => ?_)
      exact hret _ _ _ q15.2 _ _ hf dX7_place_100 hP hD hS
    have hf := ite_f c14 hf
    by_cases c17 : y = 5
    · have hf := ite_t c17 hf
      refine lv_tableIn (off := 89) (tgt := 101) hx hb dX7_place_12 (by rw [c17]; decide) (by rw [c17]; decide) (by rw [c17]; decide +kernel) (by decide) ?_
      refine lv_aload_n hx hb dX7_place_101 rfl (lv_at hl 0 rfl) ?_
      refine lv_bipush (v := 10) hx hb dX7_place_102 (by decide) ?_
      refine lv_iload_n hx hb dX7_place_104 rfl (lv_at hl 1 rfl) ?_
      refine lv_iadd hx hb dX7_place_105 ?_
      obtain ⟨q18, h19, hf⟩ := bd_some hf
      refine kx_wi (As := [.int (10 + x)]) (rest := []) (wc := cModel cI cZ za z1 z2 z3 z4 z5 z6 z7 z8 z9 z) (wr := []) (wd := cModel cI cZ za z1 z2 z3 z4 z5 z6 z7 z8 z9 q18.2) (wn := cModel cI cZ za z1 z2 z3 z4 z5 z6 z7 z8 z9 q18.2) hx hb hml hown hts hk hP hD hS hA hl.1 s_yX7_rebuiltAt v_yX7_rebuiltAt (c_m_rebuiltAt l D cI cZ cR za z1 z2 z3 z4 z5 z6 z7 z8 z9 z (10 + x) H.size _ _ h19) mT_744 rfl rfl ⟨Nat.le_of_ble_eq_true rfl, Nat.le_of_ble_eq_true rfl⟩ [0, 1, 2, 3, 4, 5, 6, 7, 8, 9] [] [0, 1, 2, 3, 4, 5, 6, 7, 8, 9] rfl rfl (by decide) (by decide) (by decide) (by decide) rfl (ci := 7) (q0 := 0) rfl rfl rfl (Nat.le_of_ble_eq_true rfl) ⟨Nat.zero_le _, Nat.zero_le _⟩ dX7_place_106 (fun H locs hP hD hS => ?_)
      exact hret _ _ _ q18.2 _ _ hf dX7_place_109 hP hD hS
    have hf := ite_f c17 hf
    by_cases c20 : y = 6
    · have hf := ite_t c20 hf
      refine lv_tableIn (off := 98) (tgt := 110) hx hb dX7_place_12 (by rw [c20]; decide) (by rw [c20]; decide) (by rw [c20]; decide +kernel) (by decide) ?_
      refine lv_aload_n hx hb dX7_place_110 rfl (lv_at hl 0 rfl) ?_
      refine lv_iload_n hx hb dX7_place_111 rfl (lv_at hl 1 rfl) ?_
      obtain ⟨q21, h22, hf⟩ := bd_some hf
      refine kx_rv (As := [.int x]) (rest := []) hx hb hml hown hts hk hP hl.1 s_yX7_isKept v_yX7_isKept (c_m_isKept l D cI cZ cR za z1 z2 z3 z4 z5 z6 z7 z8 z9 z x _ h22) mT_659 rfl rfl ⟨Nat.le_of_ble_eq_true rfl, Nat.le_of_ble_eq_true rfl⟩ (ci := 7) (q0 := 0) rfl rfl rfl (Nat.le_of_ble_eq_true rfl) ⟨Nat.zero_le _, Nat.zero_le _⟩ dX7_place_112 ?_
      refine lv_if_eq (tgt := 130) hx hb dX7_place_115 (by decide) (fun c23 => ?_) (fun c23 => ?_)
      · have hf := ite_t c23 hf
        refine lv_iconst (v := (-1)) hx hb dX7_place_130 (by decide) ?_
        exact hret _ _ _ z _ _ hf dX7_place_131 hP hD hS
      · have hf := ite_f c23 hf
        refine lv_aload_n hx hb dX7_place_118 rfl (lv_at hl 0 rfl) ?_
        refine va_get (D := D) (ci := 7) (v := .ref z1) (C := RX7) (T := TX7) (N := 17) hx hb hts inT7 hown hK hP 0 rfl rfl 0 (by decide) (hts _ mT_566) (fun _ h9 => h9) rfl dX7_place_119 ?_
        refine lv_bipush (v := 87) hx hb dX7_place_122 (by decide) ?_
        refine lv_iload_n hx hb dX7_place_124 rfl (lv_at hl 1 rfl) ?_
        refine lv_iadd hx hb dX7_place_125 ?_
        obtain ⟨b24, hf⟩ := gd_some hf
        refine va_iald (n := 367) (f := z 1) hx hb hK hP 1 0 rfl rfl (ck_in b24) dX7_place_126 ?_
        refine lv_goto (tgt := 131) hx hb dX7_place_127 (by decide) ?_
        exact hret _ _ _ z _ _ hf dX7_place_131 hP hD hS
    have hf := ite_f c20 hf
    by_cases c25 : y = 7
    · have hf := ite_t c25 hf
      refine lv_tableIn (off := 120) (tgt := 132) hx hb dX7_place_12 (by rw [c25]; decide) (by rw [c25]; decide) (by rw [c25]; decide +kernel) (by decide) ?_
      refine lv_aload_n hx hb dX7_place_132 rfl (lv_at hl 0 rfl) ?_
      refine lv_iload_n hx hb dX7_place_133 rfl (lv_at hl 1 rfl) ?_
      obtain ⟨q26, h27, hf⟩ := bd_some hf
      refine kx_rv (As := [.int x]) (rest := []) hx hb hml hown hts hk hP hl.1 s_yX7_isKept v_yX7_isKept (c_m_isKept l D cI cZ cR za z1 z2 z3 z4 z5 z6 z7 z8 z9 z x _ h27) mT_659 rfl rfl ⟨Nat.le_of_ble_eq_true rfl, Nat.le_of_ble_eq_true rfl⟩ (ci := 7) (q0 := 0) rfl rfl rfl (Nat.le_of_ble_eq_true rfl) ⟨Nat.zero_le _, Nat.zero_le _⟩ dX7_place_134 ?_
      refine lv_if_eq (tgt := 152) hx hb dX7_place_137 (by decide) (fun c28 => ?_) (fun c28 => ?_)
      · have hf := ite_t c28 hf
        refine lv_iconst (v := (-1)) hx hb dX7_place_152 (by decide) ?_
        exact hret _ _ _ z _ _ hf dX7_place_153 hP hD hS
      · have hf := ite_f c28 hf
        refine lv_aload_n hx hb dX7_place_140 rfl (lv_at hl 0 rfl) ?_
        refine va_get (D := D) (ci := 7) (v := .ref z1) (C := RX7) (T := TX7) (N := 17) hx hb hts inT7 hown hK hP 0 rfl rfl 0 (by decide) (hts _ mT_566) (fun _ h9 => h9) rfl dX7_place_141 ?_
        refine lv_bipush (v := 97) hx hb dX7_place_144 (by decide) ?_
        refine lv_iload_n hx hb dX7_place_146 rfl (lv_at hl 1 rfl) ?_
        refine lv_iadd hx hb dX7_place_147 ?_
        obtain ⟨b29, hf⟩ := gd_some hf
        refine va_iald (n := 367) (f := z 1) hx hb hK hP 1 0 rfl rfl (ck_in b29) dX7_place_148 ?_
        refine lv_goto (tgt := 153) hx hb dX7_place_149 (by decide) ?_
        exact hret _ _ _ z _ _ hf dX7_place_153 hP hD hS
    have hf := ite_f c25 hf
    refine lv_tableOut (tgt := 154) hx hb dX7_place_12 (by have nc4 := lv_neT (a := 0) c4 rfl; have nc6 := lv_neT (a := 1) c6 rfl; have nc8 := lv_neT (a := 2) c8 rfl; have nc11 := lv_neT (a := 3) c11 rfl; have nc14 := lv_neT (a := 4) c14 rfl; have nc17 := lv_neT (a := 5) c17 rfl; have nc20 := lv_neT (a := 6) c20 rfl; have nc25 := lv_neT (a := 7) c25 rfl; omega) (by decide) ?_
    refine lv_ldc (v := (-1000000002)) hx hb hown (hts _ mT_722) dX7_place_154 ?_
    exact hret _ _ _ z _ _ hf dX7_place_156 hP hD hS
  · have hf := ite_t c3 hf
    refine lv_ldc (v := (-1000000001)) hx hb hown (hts _ mT_731) dX7_place_8 ?_
    exact hret _ _ _ z _ _ hf dX7_place_10 hP hD hS
theorem s_yX7_broughtBy : kMS yX7_broughtBy cX7_broughtBy 3 (some .int) 2 := ⟨mT_759, mT_59, by decide +kernel⟩
theorem v_yX7_broughtBy : kMV yX7_broughtBy := ⟨mT_758, mT_46⟩
def f_m_broughtBy (z : Ob) (x : Int32) (y : Int32) : Option (Int32 × Ob) := bd (f_m_isWell z) (fun q1 => if q1 = 0 then (some ((-1), z)) else (bd (f_m_works 6 z 0 (-1)) (fun q4 => if 0 ≤ q4.1 then (bd (f_m_of q4.2 x 0) (fun q7 => gd (ck q7 20) (bd (f_m_of q4.2 x 0) (fun q10 => gd (ck (10 + q10) 20) (bd (f_m_brings q4.2 x ((q4.2 6) (Int32.toNatClampNeg q7)) ((q4.2 6) (Int32.toNatClampNeg (10 + q10)))) (fun q13 => if y = 7 then (some (q13 0 11, q13)) else (some (q13 0 12, q13)))))))) else (some ((-1), q4.2)))))
set_option maxHeartbeats 4000000 in
set_option maxRecDepth 100000 in
theorem c_m_broughtBy (l : Launch) (D : va_G) (cI cZ cR : ClassId) (za z1 z2 z3 z4 z5 z6 z7 z8 z9 : Nat) (z : Ob) (x : Int32) (y : Int32) (sz : Nat) (r : Int32) (u : Ob) (hf : f_m_broughtBy z x y = some (r, u)) : kCi l yX7_broughtBy cX7_broughtBy 3 (some .int) { frames := 5, cells := 0, slots := 0, locals := 118 } [.ref za, .int x, .int y] D cI cZ cR (cModel cI cZ za z1 z2 z3 z4 z5 z6 z7 z8 z9 z) sz (cModel cI cZ za z1 z2 z3 z4 z5 z6 z7 z8 z9 u) r := by
  refine kMwi (wf := (fun u : Ob => cModel cI cZ za z1 z2 z3 z4 z5 z6 z7 z8 z9 u)) (u := u) (by decide) (Nat.le_of_ble_eq_true rfl) ?_
  intro p e s m below meth c Q A hx hb hml hown hts hk hP hD hA hS hret ls hl
  have hS0 := hS
  have hK := hk.1
  have hl : lv_has ls 3 [(0, .ref za), (1, .int x), (2, .int y)] := hl
  rw [f_m_broughtBy] at hf
  refine lv_aload_n hx hb dX7_broughtBy_0 rfl (lv_at hl 0 rfl) ?_
  obtain ⟨q1, h2, hf⟩ := bd_some hf
  refine kx_rv (As := []) (rest := []) hx hb hml hown hts hk hP hl.1 s_yX7_isWell v_yX7_isWell (c_m_isWell l D cI cZ cR za z1 z2 z3 z4 z5 z6 z7 z8 z9 z _ h2) mT_651 rfl rfl ⟨Nat.le_of_ble_eq_true rfl, Nat.le_of_ble_eq_true rfl⟩ (ci := 7) (q0 := 0) rfl rfl rfl (Nat.le_of_ble_eq_true rfl) ⟨Nat.zero_le _, Nat.zero_le _⟩ dX7_broughtBy_1 ?_
  refine lv_if_eq (tgt := 20) hx hb dX7_broughtBy_4 (by decide) (fun c3 => ?_) (fun c3 => ?_)
  · have hf := ite_t c3 hf
    refine lv_iconst (v := (-1)) hx hb dX7_broughtBy_20 (by decide) ?_
    exact hret _ _ _ z _ _ hf dX7_broughtBy_21 hP hD hS
  · have hf := ite_f c3 hf
    refine lv_aload_n hx hb dX7_broughtBy_7 rfl (lv_at hl 0 rfl) ?_
    refine lv_aload_n hx hb dX7_broughtBy_8 rfl (lv_at hl 0 rfl) ?_
    refine va_get (D := D) (ci := 7) (v := .ref z6) (C := RX7) (T := TX7) (N := 17) hx hb hts inT7 hown hK hP 0 rfl rfl 8 (by decide) (hts _ mT_574) (fun _ h9 => h9) rfl dX7_broughtBy_9 ?_
    refine lv_iconst (v := 0) hx hb dX7_broughtBy_12 (by decide) ?_
    refine lv_iconst (v := (-1)) hx hb dX7_broughtBy_13 (by decide) ?_
    obtain ⟨q4, h5, hf⟩ := bd_some hf
    refine kx_wi (As := [.ref z6, .int 0, .int (-1)]) (rest := []) (wc := cModel cI cZ za z1 z2 z3 z4 z5 z6 z7 z8 z9 z) (wr := []) (wd := cModel cI cZ za z1 z2 z3 z4 z5 z6 z7 z8 z9 q4.2) (wn := cModel cI cZ za z1 z2 z3 z4 z5 z6 z7 z8 z9 q4.2) hx hb hml hown hts hk hP hD hS hA hl.1 s_yX7_works v_yX7_works (c_m_works6 l D cI cZ cR za z1 z2 z3 z4 z5 z6 z7 z8 z9 z 0 (-1) H.size _ _ h5) mT_691 rfl rfl ⟨Nat.le_of_ble_eq_true rfl, Nat.le_of_ble_eq_true rfl⟩ [0, 1, 2, 3, 4, 5, 6, 7, 8, 9] [] [0, 1, 2, 3, 4, 5, 6, 7, 8, 9] rfl rfl (by decide) (by decide) (by decide) (by decide) rfl (ci := 7) (q0 := 0) rfl rfl rfl (Nat.le_of_ble_eq_true rfl) ⟨Nat.zero_le _, Nat.zero_le _⟩ dX7_broughtBy_14 (fun H locs hP hD hS => ?_)
    refine lv_if_ge (tgt := 22) hx hb dX7_broughtBy_17 (by decide) (fun c6 => ?_) (fun c6 => ?_)
    · have hf := ite_t c6 hf
      refine lv_aload_n hx hb dX7_broughtBy_22 rfl (lv_at hl 0 rfl) ?_
      refine lv_iload_n hx hb dX7_broughtBy_23 rfl (lv_at hl 1 rfl) ?_
      refine lv_aload_n hx hb dX7_broughtBy_24 rfl (lv_at hl 0 rfl) ?_
      refine va_get (D := D) (ci := 7) (v := .ref z6) (C := RX7) (T := TX7) (N := 17) hx hb hts inT7 hown hK hP 0 rfl rfl 8 (by decide) (hts _ mT_574) (fun _ h9 => h9) rfl dX7_broughtBy_25 ?_
      refine lv_aload_n hx hb dX7_broughtBy_28 rfl (lv_at hl 0 rfl) ?_
      refine lv_iload_n hx hb dX7_broughtBy_29 rfl (lv_at hl 1 rfl) ?_
      refine lv_iconst (v := 0) hx hb dX7_broughtBy_30 (by decide) ?_
      obtain ⟨q7, h8, hf⟩ := bd_some hf
      refine kx_rv (As := [.int x, .int 0]) (rest := [.ref z6, .int x, .ref za]) hx hb hml hown hts hk hP hl.1 s_yX7_of v_yX7_of (c_m_of l D cI cZ cR za z1 z2 z3 z4 z5 z6 z7 z8 z9 q4.2 x 0 _ h8) mT_647 rfl rfl ⟨Nat.le_of_ble_eq_true rfl, Nat.le_of_ble_eq_true rfl⟩ (ci := 7) (q0 := 0) rfl rfl rfl (Nat.le_of_ble_eq_true rfl) ⟨Nat.zero_le _, Nat.zero_le _⟩ dX7_broughtBy_31 ?_
      obtain ⟨b9, hf⟩ := gd_some hf
      refine va_iald (n := 20) (f := q4.2 6) hx hb hK hP 6 0 rfl rfl (ck_in b9) dX7_broughtBy_34 ?_
      refine lv_aload_n hx hb dX7_broughtBy_35 rfl (lv_at hl 0 rfl) ?_
      refine va_get (D := D) (ci := 7) (v := .ref z6) (C := RX7) (T := TX7) (N := 17) hx hb hts inT7 hown hK hP 0 rfl rfl 8 (by decide) (hts _ mT_574) (fun _ h9 => h9) rfl dX7_broughtBy_36 ?_
      refine lv_bipush (v := 10) hx hb dX7_broughtBy_39 (by decide) ?_
      refine lv_aload_n hx hb dX7_broughtBy_41 rfl (lv_at hl 0 rfl) ?_
      refine lv_iload_n hx hb dX7_broughtBy_42 rfl (lv_at hl 1 rfl) ?_
      refine lv_iconst (v := 0) hx hb dX7_broughtBy_43 (by decide) ?_
      obtain ⟨q10, h11, hf⟩ := bd_some hf
      refine kx_rv (As := [.int x, .int 0]) (rest := [.int 10, .ref z6, .int ((q4.2 6) (Int32.toNatClampNeg q7)), .int x, .ref za]) hx hb hml hown hts hk hP hl.1 s_yX7_of v_yX7_of (c_m_of l D cI cZ cR za z1 z2 z3 z4 z5 z6 z7 z8 z9 q4.2 x 0 _ h11) mT_647 rfl rfl ⟨Nat.le_of_ble_eq_true rfl, Nat.le_of_ble_eq_true rfl⟩ (ci := 7) (q0 := 0) rfl rfl rfl (Nat.le_of_ble_eq_true rfl) ⟨Nat.zero_le _, Nat.zero_le _⟩ dX7_broughtBy_44 ?_
      refine lv_iadd hx hb dX7_broughtBy_47 ?_
      obtain ⟨b12, hf⟩ := gd_some hf
      refine va_iald (n := 20) (f := q4.2 6) hx hb hK hP 6 0 rfl rfl (ck_in b12) dX7_broughtBy_48 ?_
      obtain ⟨q13, h14, hf⟩ := bd_some hf
      refine kx_wv (As := [.int x, .int ((q4.2 6) (Int32.toNatClampNeg q7)), .int ((q4.2 6) (Int32.toNatClampNeg (10 + q10)))]) (rest := []) (wc := cModel cI cZ za z1 z2 z3 z4 z5 z6 z7 z8 z9 q4.2) (wr := []) (wd := cModel cI cZ za z1 z2 z3 z4 z5 z6 z7 z8 z9 q13) (wn := cModel cI cZ za z1 z2 z3 z4 z5 z6 z7 z8 z9 q13) hx hb hml hown hts hk hP hD hS hA hl.1 s_yX7_brings v_yX7_brings (c_m_brings l D cI cZ cR za z1 z2 z3 z4 z5 z6 z7 z8 z9 q4.2 x ((q4.2 6) (Int32.toNatClampNeg q7)) ((q4.2 6) (Int32.toNatClampNeg (10 + q10))) H.size _ h14) mT_675 rfl rfl ⟨Nat.le_of_ble_eq_true rfl, Nat.le_of_ble_eq_true rfl⟩ [0, 1, 2, 3, 4, 5, 6, 7, 8, 9] [] [0, 1, 2, 3, 4, 5, 6, 7, 8, 9] rfl rfl (by decide) (by decide) (by decide) (by decide) rfl (ci := 7) (q0 := 0) rfl rfl rfl (Nat.le_of_ble_eq_true rfl) ⟨Nat.zero_le _, Nat.zero_le _⟩ dX7_broughtBy_49 (fun H locs hP hD hS => ?_)
      refine lv_iload_n hx hb dX7_broughtBy_52 rfl (lv_at hl 2 rfl) ?_
      refine lv_bipush (v := 7) hx hb dX7_broughtBy_53 (by decide) ?_
      refine lv_icmp_ne (tgt := 65) hx hb dX7_broughtBy_55 (by decide) (fun c15 => ?_) (fun c15 => ?_)
      · have hf := ite_f c15 hf
        refine lv_aload_n hx hb dX7_broughtBy_65 rfl (lv_at hl 0 rfl) ?_
        refine va_get (D := D) (ci := 7) (v := .int (q13 0 12)) (C := RX7) (T := TX7) (N := 17) hx hb hts inT7 hown hK hP 0 rfl rfl 12 (by decide) (hts _ mT_578) (fun _ h9 => h9) rfl dX7_broughtBy_66 ?_
        exact hret _ _ _ q13 _ _ hf dX7_broughtBy_69 hP hD hS
      · have hf := ite_t c15 hf
        refine lv_aload_n hx hb dX7_broughtBy_58 rfl (lv_at hl 0 rfl) ?_
        refine va_get (D := D) (ci := 7) (v := .int (q13 0 11)) (C := RX7) (T := TX7) (N := 17) hx hb hts inT7 hown hK hP 0 rfl rfl 11 (by decide) (hts _ mT_577) (fun _ h9 => h9) rfl dX7_broughtBy_59 ?_
        refine lv_goto (tgt := 69) hx hb dX7_broughtBy_62 (by decide) ?_
        exact hret _ _ _ q13 _ _ hf dX7_broughtBy_69 hP hD hS
    · have hf := ite_f c6 hf
      refine lv_iconst (v := (-1)) hx hb dX7_broughtBy_20 (by decide) ?_
      exact hret _ _ _ q4.2 _ _ hf dX7_broughtBy_21 hP hD hS
theorem s_yX7_wayAt : kMS yX7_wayAt cX7_wayAt 3 (some .int) 2 := ⟨mT_751, mT_59, by decide +kernel⟩
theorem v_yX7_wayAt : kMV yX7_wayAt := ⟨mT_749, mT_750⟩
def f_m_wayAt (z : Ob) (x : Int32) (y : Int32) : Option (Int32 × Ob) := bd (f_m_isWay z x) (fun q1 => if q1 = 0 then (some ((-1000000001), z)) else (bd (f_m_in y 0 8) (fun q4 => if q4 = 0 then (some ((-1000000002), z)) else (if 5 ≤ y then (if y = 5 then (bd (f_m_keepsOrder z x) (fun q17 => if q17 = 0 then (some (0, z)) else (some (1, z)))) else (if y ≤ 6 then (bd (f_m_isWell z) (fun q10 => if q10 = 0 then (some ((-1), z)) else (bd (f_m_without z x) (fun q13 => some (q13.1, q13.2))))) else (bd (f_m_broughtBy z x y) (fun q15 => some (q15.1, q15.2))))) else (bd (f_m_of z x y) (fun q20 => some (q20, z)))))))
set_option maxHeartbeats 4000000 in
set_option maxRecDepth 100000 in
theorem c_m_wayAt (l : Launch) (D : va_G) (cI cZ cR : ClassId) (za z1 z2 z3 z4 z5 z6 z7 z8 z9 : Nat) (z : Ob) (x : Int32) (y : Int32) (sz : Nat) (r : Int32) (u : Ob) (hf : f_m_wayAt z x y = some (r, u)) : kCi l yX7_wayAt cX7_wayAt 3 (some .int) { frames := 6, cells := 0, slots := 0, locals := 143 } [.ref za, .int x, .int y] D cI cZ cR (cModel cI cZ za z1 z2 z3 z4 z5 z6 z7 z8 z9 z) sz (cModel cI cZ za z1 z2 z3 z4 z5 z6 z7 z8 z9 u) r := by
  refine kMwi (wf := (fun u : Ob => cModel cI cZ za z1 z2 z3 z4 z5 z6 z7 z8 z9 u)) (u := u) (by decide) (Nat.le_of_ble_eq_true rfl) ?_
  intro p e s m below meth c Q A hx hb hml hown hts hk hP hD hA hS hret ls hl
  have hS0 := hS
  have hK := hk.1
  have hl : lv_has ls 3 [(0, .ref za), (1, .int x), (2, .int y)] := hl
  rw [f_m_wayAt] at hf
  refine lv_aload_n hx hb dX7_wayAt_0 rfl (lv_at hl 0 rfl) ?_
  refine lv_iload_n hx hb dX7_wayAt_1 rfl (lv_at hl 1 rfl) ?_
  obtain ⟨q1, h2, hf⟩ := bd_some hf
  refine kx_rv (As := [.int x]) (rest := []) hx hb hml hown hts hk hP hl.1 s_yX7_isWay v_yX7_isWay (c_m_isWay l D cI cZ cR za z1 z2 z3 z4 z5 z6 z7 z8 z9 z x _ h2) mT_752 rfl rfl ⟨Nat.le_of_ble_eq_true rfl, Nat.le_of_ble_eq_true rfl⟩ (ci := 7) (q0 := 0) rfl rfl rfl (Nat.le_of_ble_eq_true rfl) ⟨Nat.zero_le _, Nat.zero_le _⟩ dX7_wayAt_2 ?_
  refine lv_if_ne (tgt := 11) hx hb dX7_wayAt_5 (by decide) (fun c3 => ?_) (fun c3 => ?_)
  · have hf := ite_f c3 hf
    refine lv_iload_n hx hb dX7_wayAt_11 rfl (lv_at hl 2 rfl) ?_
    refine lv_iconst (v := 0) hx hb dX7_wayAt_12 (by decide) ?_
    refine lv_bipush (v := 8) hx hb dX7_wayAt_13 (by decide) ?_
    obtain ⟨q4, h5, hf⟩ := bd_some hf
    refine kx_rs (As := [.int y, .int 0, .int 8]) (rest := []) hx hb hml hown hts hk hl.1 s_yX7_in mT_720 (c_m_in l D cI cZ cR y 0 8 _ h5) mT_719 rfl rfl ⟨Nat.le_of_ble_eq_true rfl, Nat.le_of_ble_eq_true rfl⟩ rfl (Nat.le_of_ble_eq_true rfl) ⟨Nat.zero_le _, Nat.zero_le _⟩ dX7_wayAt_15 ?_
    refine lv_if_ne (tgt := 24) hx hb dX7_wayAt_18 (by decide) (fun c6 => ?_) (fun c6 => ?_)
    · have hf := ite_f c6 hf
      refine lv_iload_n hx hb dX7_wayAt_24 rfl (lv_at hl 2 rfl) ?_
      refine lv_iconst (v := 5) hx hb dX7_wayAt_25 (by decide) ?_
      refine lv_icmp_ge (tgt := 36) hx hb dX7_wayAt_26 (by decide) (fun c7 => ?_) (fun c7 => ?_)
      · have hf := ite_t c7 hf
        refine lv_iload_n hx hb dX7_wayAt_36 rfl (lv_at hl 2 rfl) ?_
        refine lv_iconst (v := 5) hx hb dX7_wayAt_37 (by decide) ?_
        refine lv_icmp_ne (tgt := 55) hx hb dX7_wayAt_38 (by decide) (fun c8 => ?_) (fun c8 => ?_)
        · have hf := ite_f c8 hf
          refine lv_iload_n hx hb dX7_wayAt_55 rfl (lv_at hl 2 rfl) ?_
          refine lv_bipush (v := 6) hx hb dX7_wayAt_56 (by decide) ?_
          refine lv_icmp_le (tgt := 70) hx hb dX7_wayAt_58 (by decide) (fun c9 => ?_) (fun c9 => ?_)
          · have hf := ite_t c9 hf
            refine lv_aload_n hx hb dX7_wayAt_70 rfl (lv_at hl 0 rfl) ?_
            obtain ⟨q10, h11, hf⟩ := bd_some hf
            refine kx_rv (As := []) (rest := []) hx hb hml hown hts hk hP hl.1 s_yX7_isWell v_yX7_isWell (c_m_isWell l D cI cZ cR za z1 z2 z3 z4 z5 z6 z7 z8 z9 z _ h11) mT_651 rfl rfl ⟨Nat.le_of_ble_eq_true rfl, Nat.le_of_ble_eq_true rfl⟩ (ci := 7) (q0 := 0) rfl rfl rfl (Nat.le_of_ble_eq_true rfl) ⟨Nat.zero_le _, Nat.zero_le _⟩ dX7_wayAt_71 ?_
            refine lv_if_eq (tgt := 85) hx hb dX7_wayAt_74 (by decide) (fun c12 => ?_) (fun c12 => ?_)
            · have hf := ite_t c12 hf
              refine lv_iconst (v := (-1)) hx hb dX7_wayAt_85 (by decide) ?_
              exact hret _ _ _ z _ _ hf dX7_wayAt_86 hP hD hS
            · have hf := ite_f c12 hf
              refine lv_aload_n hx hb dX7_wayAt_77 rfl (lv_at hl 0 rfl) ?_
              refine lv_iload_n hx hb dX7_wayAt_78 rfl (lv_at hl 1 rfl) ?_
              obtain ⟨q13, h14, hf⟩ := bd_some hf
              refine kx_wi (As := [.int x]) (rest := []) (wc := cModel cI cZ za z1 z2 z3 z4 z5 z6 z7 z8 z9 z) (wr := []) (wd := cModel cI cZ za z1 z2 z3 z4 z5 z6 z7 z8 z9 q13.2) (wn := cModel cI cZ za z1 z2 z3 z4 z5 z6 z7 z8 z9 q13.2) hx hb hml hown hts hk hP hD hS hA hl.1 s_yX7_without v_yX7_without (c_m_without l D cI cZ cR za z1 z2 z3 z4 z5 z6 z7 z8 z9 z x H.size _ _ h14) mT_707 rfl rfl ⟨Nat.le_of_ble_eq_true rfl, Nat.le_of_ble_eq_true rfl⟩ [0, 1, 2, 3, 4, 5, 6, 7, 8, 9] [] [0, 1, 2, 3, 4, 5, 6, 7, 8, 9] rfl rfl (by decide) (by decide) (by decide) (by decide) rfl (ci := 7) (q0 := 0) rfl rfl rfl (Nat.le_of_ble_eq_true rfl) ⟨Nat.zero_le _, Nat.zero_le _⟩ dX7_wayAt_79 (fun H locs hP hD hS => ?_)
              refine lv_goto (tgt := 86) hx hb dX7_wayAt_82 (by decide) ?_
              exact hret _ _ _ q13.2 _ _ hf dX7_wayAt_86 hP hD hS
          · have hf := ite_f c9 hf
            refine lv_aload_n hx hb dX7_wayAt_61 rfl (lv_at hl 0 rfl) ?_
            refine lv_iload_n hx hb dX7_wayAt_62 rfl (lv_at hl 1 rfl) ?_
            refine lv_iload_n hx hb dX7_wayAt_63 rfl (lv_at hl 2 rfl) ?_
            obtain ⟨q15, h16, hf⟩ := bd_some hf
            refine kx_wi (As := [.int x, .int y]) (rest := []) (wc := cModel cI cZ za z1 z2 z3 z4 z5 z6 z7 z8 z9 z) (wr := []) (wd := cModel cI cZ za z1 z2 z3 z4 z5 z6 z7 z8 z9 q15.2) (wn := cModel cI cZ za z1 z2 z3 z4 z5 z6 z7 z8 z9 q15.2) hx hb hml hown hts hk hP hD hS hA hl.1 s_yX7_broughtBy v_yX7_broughtBy (c_m_broughtBy l D cI cZ cR za z1 z2 z3 z4 z5 z6 z7 z8 z9 z x y H.size _ _ h16) mT_756 rfl rfl ⟨Nat.le_of_ble_eq_true rfl, Nat.le_of_ble_eq_true rfl⟩ [0, 1, 2, 3, 4, 5, 6, 7, 8, 9] [] [0, 1, 2, 3, 4, 5, 6, 7, 8, 9] rfl rfl (by decide) (by decide) (by decide) (by decide) rfl (ci := 7) (q0 := 0) rfl rfl rfl (Nat.le_of_ble_eq_true rfl) ⟨Nat.zero_le _, Nat.zero_le _⟩ dX7_wayAt_64 (fun H locs hP hD hS => ?_)
            refine lv_goto (tgt := 86) hx hb dX7_wayAt_67 (by decide) ?_
            exact hret _ _ _ q15.2 _ _ hf dX7_wayAt_86 hP hD hS
        · have hf := ite_t c8 hf
          refine lv_aload_n hx hb dX7_wayAt_41 rfl (lv_at hl 0 rfl) ?_
          refine lv_iload_n hx hb dX7_wayAt_42 rfl (lv_at hl 1 rfl) ?_
          obtain ⟨q17, h18, hf⟩ := bd_some hf
          refine kx_rv (As := [.int x]) (rest := []) hx hb hml hown hts hk hP hl.1 s_yX7_keepsOrder v_yX7_keepsOrder (c_m_keepsOrder l D cI cZ cR za z1 z2 z3 z4 z5 z6 z7 z8 z9 z x _ h18) mT_639 rfl rfl ⟨Nat.le_of_ble_eq_true rfl, Nat.le_of_ble_eq_true rfl⟩ (ci := 7) (q0 := 0) rfl rfl rfl (Nat.le_of_ble_eq_true rfl) ⟨Nat.zero_le _, Nat.zero_le _⟩ dX7_wayAt_43 ?_
          refine lv_if_eq (tgt := 53) hx hb dX7_wayAt_46 (by decide) (fun c19 => ?_) (fun c19 => ?_)
          · have hf := ite_t c19 hf
            refine lv_iconst (v := 0) hx hb dX7_wayAt_53 (by decide) ?_
            exact hret _ _ _ z _ _ hf dX7_wayAt_54 hP hD hS
          · have hf := ite_f c19 hf
            refine lv_iconst (v := 1) hx hb dX7_wayAt_49 (by decide) ?_
            refine lv_goto (tgt := 54) hx hb dX7_wayAt_50 (by decide) ?_
            exact hret _ _ _ z _ _ hf dX7_wayAt_54 hP hD hS
      · have hf := ite_f c7 hf
        refine lv_aload_n hx hb dX7_wayAt_29 rfl (lv_at hl 0 rfl) ?_
        refine lv_iload_n hx hb dX7_wayAt_30 rfl (lv_at hl 1 rfl) ?_
        refine lv_iload_n hx hb dX7_wayAt_31 rfl (lv_at hl 2 rfl) ?_
        obtain ⟨q20, h21, hf⟩ := bd_some hf
        refine kx_rv (As := [.int x, .int y]) (rest := []) hx hb hml hown hts hk hP hl.1 s_yX7_of v_yX7_of (c_m_of l D cI cZ cR za z1 z2 z3 z4 z5 z6 z7 z8 z9 z x y _ h21) mT_647 rfl rfl ⟨Nat.le_of_ble_eq_true rfl, Nat.le_of_ble_eq_true rfl⟩ (ci := 7) (q0 := 0) rfl rfl rfl (Nat.le_of_ble_eq_true rfl) ⟨Nat.zero_le _, Nat.zero_le _⟩ dX7_wayAt_32 ?_
        exact hret _ _ _ z _ _ hf dX7_wayAt_35 hP hD hS
    · have hf := ite_t c6 hf
      refine lv_ldc (v := (-1000000002)) hx hb hown (hts _ mT_722) dX7_wayAt_21 ?_
      exact hret _ _ _ z _ _ hf dX7_wayAt_23 hP hD hS
  · have hf := ite_t c3 hf
    refine lv_ldc (v := (-1000000001)) hx hb hown (hts _ mT_731) dX7_wayAt_8 ?_
    exact hret _ _ _ z _ _ hf dX7_wayAt_10 hP hD hS
theorem s_yX7_steps : kMS yX7_steps cX7_steps 2 (some .int) 1 := ⟨mT_767, mT_59, by decide +kernel⟩
theorem v_yX7_steps : kMV yX7_steps := ⟨mT_765, mT_766⟩
def f_m_steps (z : Ob) (x : Int32) : Option (Int32 × Ob) := bd (f_m_in x 0 2) (fun q1 => if q1 = 0 then (some ((-1000000002), z)) else (bd (f_m_works 7 z x (-1)) (fun q4 => some (q4.1, q4.2))))
set_option maxHeartbeats 4000000 in
set_option maxRecDepth 100000 in
theorem c_m_steps (l : Launch) (D : va_G) (cI cZ cR : ClassId) (za z1 z2 z3 z4 z5 z6 z7 z8 z9 : Nat) (z : Ob) (x : Int32) (sz : Nat) (r : Int32) (u : Ob) (hf : f_m_steps z x = some (r, u)) : kCi l yX7_steps cX7_steps 2 (some .int) { frames := 5, cells := 0, slots := 0, locals := 118 } [.ref za, .int x] D cI cZ cR (cModel cI cZ za z1 z2 z3 z4 z5 z6 z7 z8 z9 z) sz (cModel cI cZ za z1 z2 z3 z4 z5 z6 z7 z8 z9 u) r := by
  refine kMwi (wf := (fun u : Ob => cModel cI cZ za z1 z2 z3 z4 z5 z6 z7 z8 z9 u)) (u := u) (by decide) (Nat.le_of_ble_eq_true rfl) ?_
  intro p e s m below meth c Q A hx hb hml hown hts hk hP hD hA hS hret ls hl
  have hS0 := hS
  have hK := hk.1
  have hl : lv_has ls 2 [(0, .ref za), (1, .int x)] := hl
  rw [f_m_steps] at hf
  refine lv_iload_n hx hb dX7_steps_0 rfl (lv_at hl 1 rfl) ?_
  refine lv_iconst (v := 0) hx hb dX7_steps_1 (by decide) ?_
  refine lv_iconst (v := 2) hx hb dX7_steps_2 (by decide) ?_
  obtain ⟨q1, h2, hf⟩ := bd_some hf
  refine kx_rs (As := [.int x, .int 0, .int 2]) (rest := []) hx hb hml hown hts hk hl.1 s_yX7_in mT_720 (c_m_in l D cI cZ cR x 0 2 _ h2) mT_719 rfl rfl ⟨Nat.le_of_ble_eq_true rfl, Nat.le_of_ble_eq_true rfl⟩ rfl (Nat.le_of_ble_eq_true rfl) ⟨Nat.zero_le _, Nat.zero_le _⟩ dX7_steps_3 ?_
  refine lv_if_eq (tgt := 22) hx hb dX7_steps_6 (by decide) (fun c3 => ?_) (fun c3 => ?_)
  · have hf := ite_t c3 hf
    refine lv_ldc (v := (-1000000002)) hx hb hown (hts _ mT_722) dX7_steps_22 ?_
    exact hret _ _ _ z _ _ hf dX7_steps_24 hP hD hS
  · have hf := ite_f c3 hf
    refine lv_aload_n hx hb dX7_steps_9 rfl (lv_at hl 0 rfl) ?_
    refine lv_aload_n hx hb dX7_steps_10 rfl (lv_at hl 0 rfl) ?_
    refine va_get (D := D) (ci := 7) (v := .ref z7) (C := RX7) (T := TX7) (N := 17) hx hb hts inT7 hown hK hP 0 rfl rfl 9 (by decide) (hts _ mT_575) (fun _ h9 => h9) rfl dX7_steps_11 ?_
    refine lv_iload_n hx hb dX7_steps_14 rfl (lv_at hl 1 rfl) ?_
    refine lv_iconst (v := (-1)) hx hb dX7_steps_15 (by decide) ?_
    obtain ⟨q4, h5, hf⟩ := bd_some hf
    refine kx_wi (As := [.ref z7, .int x, .int (-1)]) (rest := []) (wc := cModel cI cZ za z1 z2 z3 z4 z5 z6 z7 z8 z9 z) (wr := []) (wd := cModel cI cZ za z1 z2 z3 z4 z5 z6 z7 z8 z9 q4.2) (wn := cModel cI cZ za z1 z2 z3 z4 z5 z6 z7 z8 z9 q4.2) hx hb hml hown hts hk hP hD hS hA hl.1 s_yX7_works v_yX7_works (c_m_works7 l D cI cZ cR za z1 z2 z3 z4 z5 z6 z7 z8 z9 z x (-1) H.size _ _ h5) mT_691 rfl rfl ⟨Nat.le_of_ble_eq_true rfl, Nat.le_of_ble_eq_true rfl⟩ [0, 1, 2, 3, 4, 5, 6, 7, 8, 9] [] [0, 1, 2, 3, 4, 5, 6, 7, 8, 9] rfl rfl (by decide) (by decide) (by decide) (by decide) rfl (ci := 7) (q0 := 0) rfl rfl rfl (Nat.le_of_ble_eq_true rfl) ⟨Nat.zero_le _, Nat.zero_le _⟩ dX7_steps_16 (fun H locs hP hD hS => ?_)
    refine lv_goto (tgt := 24) hx hb dX7_steps_19 (by decide) ?_
    exact hret _ _ _ q4.2 _ _ hf dX7_steps_24 hP hD hS
theorem s_yX7_worked : kMS yX7_worked cX7_worked 3 (some .int) 2 := ⟨mT_771, mT_59, by decide +kernel⟩
theorem v_yX7_worked : kMV yX7_worked := ⟨mT_769, mT_770⟩
def f_m_worked (z : Ob) (x : Int32) (y : Int32) : Option (Int32 × Ob) := bd (f_m_isPlace z y) (fun q1 => if q1 = 0 then (some ((-1000000001), z)) else (bd (f_m_in x 0 2) (fun q4 => if q4 = 0 then (some ((-1000000002), z)) else (bd (f_m_works 7 z x (-1)) (fun q7 => if 0 ≤ q7.1 then (gd (ck y 20) (gd (ck (10 + y) 20) (some ((256 * ((q7.2 7) (Int32.toNatClampNeg y))) + ((q7.2 7) (Int32.toNatClampNeg (10 + y))), q7.2)))) else (some ((-1), q7.2)))))))
set_option maxHeartbeats 4000000 in
set_option maxRecDepth 100000 in
theorem c_m_worked (l : Launch) (D : va_G) (cI cZ cR : ClassId) (za z1 z2 z3 z4 z5 z6 z7 z8 z9 : Nat) (z : Ob) (x : Int32) (y : Int32) (sz : Nat) (r : Int32) (u : Ob) (hf : f_m_worked z x y = some (r, u)) : kCi l yX7_worked cX7_worked 3 (some .int) { frames := 5, cells := 0, slots := 0, locals := 118 } [.ref za, .int x, .int y] D cI cZ cR (cModel cI cZ za z1 z2 z3 z4 z5 z6 z7 z8 z9 z) sz (cModel cI cZ za z1 z2 z3 z4 z5 z6 z7 z8 z9 u) r := by
  refine kMwi (wf := (fun u : Ob => cModel cI cZ za z1 z2 z3 z4 z5 z6 z7 z8 z9 u)) (u := u) (by decide) (Nat.le_of_ble_eq_true rfl) ?_
  intro p e s m below meth c Q A hx hb hml hown hts hk hP hD hA hS hret ls hl
  have hS0 := hS
  have hK := hk.1
  have hl : lv_has ls 3 [(0, .ref za), (1, .int x), (2, .int y)] := hl
  rw [f_m_worked] at hf
  refine lv_aload_n hx hb dX7_worked_0 rfl (lv_at hl 0 rfl) ?_
  refine lv_iload_n hx hb dX7_worked_1 rfl (lv_at hl 2 rfl) ?_
  obtain ⟨q1, h2, hf⟩ := bd_some hf
  refine kx_rv (As := [.int y]) (rest := []) hx hb hml hown hts hk hP hl.1 s_yX7_isPlace v_yX7_isPlace (c_m_isPlace l D cI cZ cR za z1 z2 z3 z4 z5 z6 z7 z8 z9 z y _ h2) mT_715 rfl rfl ⟨Nat.le_of_ble_eq_true rfl, Nat.le_of_ble_eq_true rfl⟩ (ci := 7) (q0 := 0) rfl rfl rfl (Nat.le_of_ble_eq_true rfl) ⟨Nat.zero_le _, Nat.zero_le _⟩ dX7_worked_2 ?_
  refine lv_if_ne (tgt := 11) hx hb dX7_worked_5 (by decide) (fun c3 => ?_) (fun c3 => ?_)
  · have hf := ite_f c3 hf
    refine lv_iload_n hx hb dX7_worked_11 rfl (lv_at hl 1 rfl) ?_
    refine lv_iconst (v := 0) hx hb dX7_worked_12 (by decide) ?_
    refine lv_iconst (v := 2) hx hb dX7_worked_13 (by decide) ?_
    obtain ⟨q4, h5, hf⟩ := bd_some hf
    refine kx_rs (As := [.int x, .int 0, .int 2]) (rest := []) hx hb hml hown hts hk hl.1 s_yX7_in mT_720 (c_m_in l D cI cZ cR x 0 2 _ h5) mT_719 rfl rfl ⟨Nat.le_of_ble_eq_true rfl, Nat.le_of_ble_eq_true rfl⟩ rfl (Nat.le_of_ble_eq_true rfl) ⟨Nat.zero_le _, Nat.zero_le _⟩ dX7_worked_14 ?_
    refine lv_if_ne (tgt := 23) hx hb dX7_worked_17 (by decide) (fun c6 => ?_) (fun c6 => ?_)
    · have hf := ite_f c6 hf
      refine lv_aload_n hx hb dX7_worked_23 rfl (lv_at hl 0 rfl) ?_
      refine lv_aload_n hx hb dX7_worked_24 rfl (lv_at hl 0 rfl) ?_
      refine va_get (D := D) (ci := 7) (v := .ref z7) (C := RX7) (T := TX7) (N := 17) hx hb hts inT7 hown hK hP 0 rfl rfl 9 (by decide) (hts _ mT_575) (fun _ h9 => h9) rfl dX7_worked_25 ?_
      refine lv_iload_n hx hb dX7_worked_28 rfl (lv_at hl 1 rfl) ?_
      refine lv_iconst (v := (-1)) hx hb dX7_worked_29 (by decide) ?_
      obtain ⟨q7, h8, hf⟩ := bd_some hf
      refine kx_wi (As := [.ref z7, .int x, .int (-1)]) (rest := []) (wc := cModel cI cZ za z1 z2 z3 z4 z5 z6 z7 z8 z9 z) (wr := []) (wd := cModel cI cZ za z1 z2 z3 z4 z5 z6 z7 z8 z9 q7.2) (wn := cModel cI cZ za z1 z2 z3 z4 z5 z6 z7 z8 z9 q7.2) hx hb hml hown hts hk hP hD hS hA hl.1 s_yX7_works v_yX7_works (c_m_works7 l D cI cZ cR za z1 z2 z3 z4 z5 z6 z7 z8 z9 z x (-1) H.size _ _ h8) mT_691 rfl rfl ⟨Nat.le_of_ble_eq_true rfl, Nat.le_of_ble_eq_true rfl⟩ [0, 1, 2, 3, 4, 5, 6, 7, 8, 9] [] [0, 1, 2, 3, 4, 5, 6, 7, 8, 9] rfl rfl (by decide) (by decide) (by decide) (by decide) rfl (ci := 7) (q0 := 0) rfl rfl rfl (Nat.le_of_ble_eq_true rfl) ⟨Nat.zero_le _, Nat.zero_le _⟩ dX7_worked_30 (fun H locs hP hD hS => ?_)
      refine lv_if_ge (tgt := 40) hx hb dX7_worked_33 (by decide) (fun c9 => ?_) (fun c9 => ?_)
      · have hf := ite_t c9 hf
        refine lv_sipush (v := 256) hx hb dX7_worked_40 (by decide) ?_
        refine lv_aload_n hx hb dX7_worked_43 rfl (lv_at hl 0 rfl) ?_
        refine va_get (D := D) (ci := 7) (v := .ref z7) (C := RX7) (T := TX7) (N := 17) hx hb hts inT7 hown hK hP 0 rfl rfl 9 (by decide) (hts _ mT_575) (fun _ h9 => h9) rfl dX7_worked_44 ?_
        refine lv_iload_n hx hb dX7_worked_47 rfl (lv_at hl 2 rfl) ?_
        obtain ⟨b10, hf⟩ := gd_some hf
        refine va_iald (n := 20) (f := q7.2 7) hx hb hK hP 7 0 rfl rfl (ck_in b10) dX7_worked_48 ?_
        refine lv_imul hx hb dX7_worked_49 ?_
        refine lv_aload_n hx hb dX7_worked_50 rfl (lv_at hl 0 rfl) ?_
        refine va_get (D := D) (ci := 7) (v := .ref z7) (C := RX7) (T := TX7) (N := 17) hx hb hts inT7 hown hK hP 0 rfl rfl 9 (by decide) (hts _ mT_575) (fun _ h9 => h9) rfl dX7_worked_51 ?_
        refine lv_bipush (v := 10) hx hb dX7_worked_54 (by decide) ?_
        refine lv_iload_n hx hb dX7_worked_56 rfl (lv_at hl 2 rfl) ?_
        refine lv_iadd hx hb dX7_worked_57 ?_
        obtain ⟨b11, hf⟩ := gd_some hf
        refine va_iald (n := 20) (f := q7.2 7) hx hb hK hP 7 0 rfl rfl (ck_in b11) dX7_worked_58 ?_
        refine lv_iadd hx hb dX7_worked_59 ?_
        exact hret _ _ _ q7.2 _ _ hf dX7_worked_60 hP hD hS
      · have hf := ite_f c9 hf
        refine lv_iconst (v := (-1)) hx hb dX7_worked_36 (by decide) ?_
        refine lv_goto (tgt := 60) hx hb dX7_worked_37 (by decide) ?_
        exact hret _ _ _ q7.2 _ _ hf dX7_worked_60 hP hD hS
    · have hf := ite_t c6 hf
      refine lv_ldc (v := (-1000000002)) hx hb hown (hts _ mT_722) dX7_worked_20 ?_
      exact hret _ _ _ z _ _ hf dX7_worked_22 hP hD hS
  · have hf := ite_t c3 hf
    refine lv_ldc (v := (-1000000001)) hx hb hown (hts _ mT_731) dX7_worked_8 ?_
    exact hret _ _ _ z _ _ hf dX7_worked_10 hP hD hS
