theorem s_yX7_told : kMS yX7_told cX7_told 2 (some .int) 1 := ⟨mT_622, mT_59, by decide +kernel⟩
theorem v_yX7_told : kMV yX7_told := ⟨mT_620, mT_621⟩
def f_m_told (z : Ob) (x : Int32) : Option (Int32 × Ob) := if x = 0 then (some ((z 1) (Int32.toNatClampNeg 0), z)) else (if x = 1 then (some ((z 1) (Int32.toNatClampNeg 1), z)) else (if x = 2 then (some ((z 1) (Int32.toNatClampNeg 2), z)) else (if x = 3 then (bd (f_m_broken z) (fun q90 => some (q90, z))) else (if x = 4 then (bd (f_m_firstUnordered z) (fun q95 => some (q95, z))) else (if x = 5 then (bd (f_m_isWell z) (fun q100 => if q100 = 0 then (some (0, z)) else (some (1, z)))) else (if x = 6 then (bd (f_m_kept z) (fun q113 => some (q113, z))) else (if x = 7 then (bd (f_m_refused z) (fun q118 => some (q118.1, q118.2))) else (if x = 8 then (bd (f_m_isExact z) (fun q123 => if q123.1 = 0 then (some (0, q123.2)) else (some (1, q123.2)))) else (if x = 9 then (bd (f_m_isWell z) (fun q136 => if q136 = 0 then (some ((-1), z)) else (bd (f_m_matters z) (fun q143 => some (q143.1, q143.2))))) else (if x = 10 then (some (z 0 7, z)) else (if x = 11 then (bd (f_m_wrong z) (fun q157 => some (q157.1, q157.2))) else (if x = 12 then (some (z 0 2, z)) else (some ((-1000000002), z))))))))))))))
set_option maxHeartbeats 4000000 in
set_option maxRecDepth 100000 in
theorem c_m_told (l : Launch) (D : va_G) (cI cZ cR : ClassId) (za z1 z2 z3 z4 z5 z6 z7 z8 z9 : Nat) (z : Ob) (x : Int32) (sz : Nat) (r : Int32) (u : Ob) (hf : f_m_told z x = some (r, u)) : kCi l yX7_told cX7_told 2 (some .int) { frames := 7, cells := 0, slots := 0, locals := 165 } [.ref za, .int x] D cI cZ cR (cModel cI cZ za z1 z2 z3 z4 z5 z6 z7 z8 z9 z) sz (cModel cI cZ za z1 z2 z3 z4 z5 z6 z7 z8 z9 u) r := by
  refine kMwi (wf := (fun u : Ob => cModel cI cZ za z1 z2 z3 z4 z5 z6 z7 z8 z9 u)) (u := u) (by decide) (Nat.le_of_ble_eq_true rfl) ?_
  intro p e s m below meth c Q A hx hb hml hown hts hk hP hD hA hS hret ls hl
  have hS0 := hS
  have hK := hk.1
  have hl : lv_has ls 2 [(0, .ref za), (1, .int x)] := hl
  rw [f_m_told] at hf
  refine lv_iload_n hx hb dX7_told_0 rfl (lv_at hl 1 rfl) ?_
  by_cases c1_0 : x = 0
  · have hf := ite_t c1_0 hf
    refine lv_tableIn (off := 67) (tgt := 68) hx hb dX7_told_1 (by rw [c1_0]; decide) (by rw [c1_0]; decide) (by rw [c1_0]; decide +kernel) (by decide) ?_
    refine lv_aload_n hx hb dX7_told_68 rfl (lv_at hl 0 rfl) ?_
    refine va_get (D := D) (ci := 7) (v := .ref z1) (C := RX7) (T := TX7) (N := 17) hx hb hts inT7 hown hK hP 0 rfl rfl 0 (by decide) (hts _ mT_566) (fun _ h9 => h9) rfl dX7_told_69 ?_
    refine lv_iconst (v := 0) hx hb dX7_told_72 (by decide) ?_
    refine va_iald (n := 367) (f := z 1) hx hb hK hP 1 0 rfl rfl (ck_in (by decide)) dX7_told_73 ?_
    exact hret _ _ _ z _ _ hf dX7_told_74 hP hD hS
  have hf := ite_f c1_0 hf
  by_cases c1_1 : x = 1
  · have hf := ite_t c1_1 hf
    refine lv_tableIn (off := 74) (tgt := 75) hx hb dX7_told_1 (by rw [c1_1]; decide) (by rw [c1_1]; decide) (by rw [c1_1]; decide +kernel) (by decide) ?_
    refine lv_aload_n hx hb dX7_told_75 rfl (lv_at hl 0 rfl) ?_
    refine va_get (D := D) (ci := 7) (v := .ref z1) (C := RX7) (T := TX7) (N := 17) hx hb hts inT7 hown hK hP 0 rfl rfl 0 (by decide) (hts _ mT_566) (fun _ h9 => h9) rfl dX7_told_76 ?_
    refine lv_iconst (v := 1) hx hb dX7_told_79 (by decide) ?_
    refine va_iald (n := 367) (f := z 1) hx hb hK hP 1 0 rfl rfl (ck_in (by decide)) dX7_told_80 ?_
    exact hret _ _ _ z _ _ hf dX7_told_81 hP hD hS
  have hf := ite_f c1_1 hf
  by_cases c1_2 : x = 2
  · have hf := ite_t c1_2 hf
    refine lv_tableIn (off := 81) (tgt := 82) hx hb dX7_told_1 (by rw [c1_2]; decide) (by rw [c1_2]; decide) (by rw [c1_2]; decide +kernel) (by decide) ?_
    refine lv_aload_n hx hb dX7_told_82 rfl (lv_at hl 0 rfl) ?_
    refine va_get (D := D) (ci := 7) (v := .ref z1) (C := RX7) (T := TX7) (N := 17) hx hb hts inT7 hown hK hP 0 rfl rfl 0 (by decide) (hts _ mT_566) (fun _ h9 => h9) rfl dX7_told_83 ?_
    refine lv_iconst (v := 2) hx hb dX7_told_86 (by decide) ?_
    refine va_iald (n := 367) (f := z 1) hx hb hK hP 1 0 rfl rfl (ck_in (by decide)) dX7_told_87 ?_
    exact hret _ _ _ z _ _ hf dX7_told_88 hP hD hS
  have hf := ite_f c1_2 hf
  by_cases c1_3 : x = 3
  · have hf := ite_t c1_3 hf
    refine lv_tableIn (off := 88) (tgt := 89) hx hb dX7_told_1 (by rw [c1_3]; decide) (by rw [c1_3]; decide) (by rw [c1_3]; decide +kernel) (by decide) ?_
    refine lv_aload_n hx hb dX7_told_89 rfl (lv_at hl 0 rfl) ?_
    obtain ⟨q90, h90, hf⟩ := bd_some hf
    refine kx_rv (As := []) (rest := []) hx hb hml hown hts hk hP hl.1 s_yX7_broken v_yX7_broken (c_m_broken l D cI cZ cR za z1 z2 z3 z4 z5 z6 z7 z8 z9 z _ h90) mT_623 rfl rfl ⟨Nat.le_of_ble_eq_true rfl, Nat.le_of_ble_eq_true rfl⟩ (ci := 7) (q0 := 0) rfl rfl rfl (Nat.le_of_ble_eq_true rfl) ⟨Nat.zero_le _, Nat.zero_le _⟩ dX7_told_90 ?_
    exact hret _ _ _ z _ _ hf dX7_told_93 hP hD hS
  have hf := ite_f c1_3 hf
  by_cases c1_4 : x = 4
  · have hf := ite_t c1_4 hf
    refine lv_tableIn (off := 93) (tgt := 94) hx hb dX7_told_1 (by rw [c1_4]; decide) (by rw [c1_4]; decide) (by rw [c1_4]; decide +kernel) (by decide) ?_
    refine lv_aload_n hx hb dX7_told_94 rfl (lv_at hl 0 rfl) ?_
    obtain ⟨q95, h95, hf⟩ := bd_some hf
    refine kx_rv (As := []) (rest := []) hx hb hml hown hts hk hP hl.1 s_yX7_firstUnordered v_yX7_firstUnordered (c_m_firstUnordered l D cI cZ cR za z1 z2 z3 z4 z5 z6 z7 z8 z9 z _ h95) mT_635 rfl rfl ⟨Nat.le_of_ble_eq_true rfl, Nat.le_of_ble_eq_true rfl⟩ (ci := 7) (q0 := 0) rfl rfl rfl (Nat.le_of_ble_eq_true rfl) ⟨Nat.zero_le _, Nat.zero_le _⟩ dX7_told_95 ?_
    exact hret _ _ _ z _ _ hf dX7_told_98 hP hD hS
  have hf := ite_f c1_4 hf
  by_cases c1_5 : x = 5
  · have hf := ite_t c1_5 hf
    refine lv_tableIn (off := 98) (tgt := 99) hx hb dX7_told_1 (by rw [c1_5]; decide) (by rw [c1_5]; decide) (by rw [c1_5]; decide +kernel) (by decide) ?_
    refine lv_aload_n hx hb dX7_told_99 rfl (lv_at hl 0 rfl) ?_
    obtain ⟨q100, h100, hf⟩ := bd_some hf
    refine kx_rv (As := []) (rest := []) hx hb hml hown hts hk hP hl.1 s_yX7_isWell v_yX7_isWell (c_m_isWell l D cI cZ cR za z1 z2 z3 z4 z5 z6 z7 z8 z9 z _ h100) mT_651 rfl rfl ⟨Nat.le_of_ble_eq_true rfl, Nat.le_of_ble_eq_true rfl⟩ (ci := 7) (q0 := 0) rfl rfl rfl (Nat.le_of_ble_eq_true rfl) ⟨Nat.zero_le _, Nat.zero_le _⟩ dX7_told_100 ?_
    refine lv_if_eq (tgt := 110) hx hb dX7_told_103 (by decide) (fun c103 => ?_) (fun c103 => ?_)
    · have hf := ite_t c103 hf
      refine lv_iconst (v := 0) hx hb dX7_told_110 (by decide) ?_
      exact hret _ _ _ z _ _ hf dX7_told_111 hP hD hS
    · have hf := ite_f c103 hf
      refine lv_iconst (v := 1) hx hb dX7_told_106 (by decide) ?_
      refine lv_goto (tgt := 111) hx hb dX7_told_107 (by decide) ?_
      exact hret _ _ _ z _ _ hf dX7_told_111 hP hD hS
  have hf := ite_f c1_5 hf
  by_cases c1_6 : x = 6
  · have hf := ite_t c1_6 hf
    refine lv_tableIn (off := 111) (tgt := 112) hx hb dX7_told_1 (by rw [c1_6]; decide) (by rw [c1_6]; decide) (by rw [c1_6]; decide +kernel) (by decide) ?_
    refine lv_aload_n hx hb dX7_told_112 rfl (lv_at hl 0 rfl) ?_
    obtain ⟨q113, h113, hf⟩ := bd_some hf
    refine kx_rv (As := []) (rest := []) hx hb hml hown hts hk hP hl.1 s_yX7_kept v_yX7_kept (c_m_kept l D cI cZ cR za z1 z2 z3 z4 z5 z6 z7 z8 z9 z _ h113) mT_655 rfl rfl ⟨Nat.le_of_ble_eq_true rfl, Nat.le_of_ble_eq_true rfl⟩ (ci := 7) (q0 := 0) rfl rfl rfl (Nat.le_of_ble_eq_true rfl) ⟨Nat.zero_le _, Nat.zero_le _⟩ dX7_told_113 ?_
    exact hret _ _ _ z _ _ hf dX7_told_116 hP hD hS
  have hf := ite_f c1_6 hf
  by_cases c1_7 : x = 7
  · have hf := ite_t c1_7 hf
    refine lv_tableIn (off := 116) (tgt := 117) hx hb dX7_told_1 (by rw [c1_7]; decide) (by rw [c1_7]; decide) (by rw [c1_7]; decide +kernel) (by decide) ?_
    refine lv_aload_n hx hb dX7_told_117 rfl (lv_at hl 0 rfl) ?_
    obtain ⟨q118, h118, hf⟩ := bd_some hf
    refine kx_wi (As := []) (rest := []) (wc := cModel cI cZ za z1 z2 z3 z4 z5 z6 z7 z8 z9 z) (wr := []) (wd := cModel cI cZ za z1 z2 z3 z4 z5 z6 z7 z8 z9 q118.2) (wn := cModel cI cZ za z1 z2 z3 z4 z5 z6 z7 z8 z9 q118.2) hx hb hml hown hts hk hP hD hS hA hl.1 s_yX7_refused v_yX7_refused (c_m_refused l D cI cZ cR za z1 z2 z3 z4 z5 z6 z7 z8 z9 z s.heap.size _ _ h118) mT_663 rfl rfl ⟨Nat.le_of_ble_eq_true rfl, Nat.le_of_ble_eq_true rfl⟩ [0, 1, 2, 3, 4, 5, 6, 7, 8, 9] [] [0, 1, 2, 3, 4, 5, 6, 7, 8, 9] rfl rfl (by decide) (by decide) (by decide) (by decide) rfl (ci := 7) (q0 := 0) rfl rfl rfl (Nat.le_of_ble_eq_true rfl) ⟨Nat.zero_le _, Nat.zero_le _⟩ dX7_told_118 (fun H locs hP hD hS => ?_)
    exact hret _ _ _ q118.2 _ _ hf dX7_told_121 hP hD hS
  have hf := ite_f c1_7 hf
  by_cases c1_8 : x = 8
  · have hf := ite_t c1_8 hf
    refine lv_tableIn (off := 121) (tgt := 122) hx hb dX7_told_1 (by rw [c1_8]; decide) (by rw [c1_8]; decide) (by rw [c1_8]; decide +kernel) (by decide) ?_
    refine lv_aload_n hx hb dX7_told_122 rfl (lv_at hl 0 rfl) ?_
    obtain ⟨q123, h123, hf⟩ := bd_some hf
    refine kx_wi (As := []) (rest := []) (wc := cModel cI cZ za z1 z2 z3 z4 z5 z6 z7 z8 z9 z) (wr := []) (wd := cModel cI cZ za z1 z2 z3 z4 z5 z6 z7 z8 z9 q123.2) (wn := cModel cI cZ za z1 z2 z3 z4 z5 z6 z7 z8 z9 q123.2) hx hb hml hown hts hk hP hD hS hA hl.1 s_yX7_isExact v_yX7_isExact (c_m_isExact l D cI cZ cR za z1 z2 z3 z4 z5 z6 z7 z8 z9 z s.heap.size _ _ h123) mT_687 rfl rfl ⟨Nat.le_of_ble_eq_true rfl, Nat.le_of_ble_eq_true rfl⟩ [0, 1, 2, 3, 4, 5, 6, 7, 8, 9] [] [0, 1, 2, 3, 4, 5, 6, 7, 8, 9] rfl rfl (by decide) (by decide) (by decide) (by decide) rfl (ci := 7) (q0 := 0) rfl rfl rfl (Nat.le_of_ble_eq_true rfl) ⟨Nat.zero_le _, Nat.zero_le _⟩ dX7_told_123 (fun H locs hP hD hS => ?_)
    refine lv_if_eq (tgt := 133) hx hb dX7_told_126 (by decide) (fun c126 => ?_) (fun c126 => ?_)
    · have hf := ite_t c126 hf
      refine lv_iconst (v := 0) hx hb dX7_told_133 (by decide) ?_
      exact hret _ _ _ q123.2 _ _ hf dX7_told_134 hP hD hS
    · have hf := ite_f c126 hf
      refine lv_iconst (v := 1) hx hb dX7_told_129 (by decide) ?_
      refine lv_goto (tgt := 134) hx hb dX7_told_130 (by decide) ?_
      exact hret _ _ _ q123.2 _ _ hf dX7_told_134 hP hD hS
  have hf := ite_f c1_8 hf
  by_cases c1_9 : x = 9
  · have hf := ite_t c1_9 hf
    refine lv_tableIn (off := 134) (tgt := 135) hx hb dX7_told_1 (by rw [c1_9]; decide) (by rw [c1_9]; decide) (by rw [c1_9]; decide +kernel) (by decide) ?_
    refine lv_aload_n hx hb dX7_told_135 rfl (lv_at hl 0 rfl) ?_
    obtain ⟨q136, h136, hf⟩ := bd_some hf
    refine kx_rv (As := []) (rest := []) hx hb hml hown hts hk hP hl.1 s_yX7_isWell v_yX7_isWell (c_m_isWell l D cI cZ cR za z1 z2 z3 z4 z5 z6 z7 z8 z9 z _ h136) mT_651 rfl rfl ⟨Nat.le_of_ble_eq_true rfl, Nat.le_of_ble_eq_true rfl⟩ (ci := 7) (q0 := 0) rfl rfl rfl (Nat.le_of_ble_eq_true rfl) ⟨Nat.zero_le _, Nat.zero_le _⟩ dX7_told_136 ?_
    refine lv_if_eq (tgt := 149) hx hb dX7_told_139 (by decide) (fun c139 => ?_) (fun c139 => ?_)
    · have hf := ite_t c139 hf
      refine lv_iconst (v := (-1)) hx hb dX7_told_149 (by decide) ?_
      exact hret _ _ _ z _ _ hf dX7_told_150 hP hD hS
    · have hf := ite_f c139 hf
      refine lv_aload_n hx hb dX7_told_142 rfl (lv_at hl 0 rfl) ?_
      obtain ⟨q143, h143, hf⟩ := bd_some hf
      refine kx_wi (As := []) (rest := []) (wc := cModel cI cZ za z1 z2 z3 z4 z5 z6 z7 z8 z9 z) (wr := []) (wd := cModel cI cZ za z1 z2 z3 z4 z5 z6 z7 z8 z9 q143.2) (wn := cModel cI cZ za z1 z2 z3 z4 z5 z6 z7 z8 z9 q143.2) hx hb hml hown hts hk hP hD hS hA hl.1 s_yX7_matters v_yX7_matters (c_m_matters l D cI cZ cR za z1 z2 z3 z4 z5 z6 z7 z8 z9 z s.heap.size _ _ h143) mT_703 rfl rfl ⟨Nat.le_of_ble_eq_true rfl, Nat.le_of_ble_eq_true rfl⟩ [0, 1, 2, 3, 4, 5, 6, 7, 8, 9] [] [0, 1, 2, 3, 4, 5, 6, 7, 8, 9] rfl rfl (by decide) (by decide) (by decide) (by decide) rfl (ci := 7) (q0 := 0) rfl rfl rfl (Nat.le_of_ble_eq_true rfl) ⟨Nat.zero_le _, Nat.zero_le _⟩ dX7_told_143 (fun H locs hP hD hS => ?_)
      refine lv_goto (tgt := 150) hx hb dX7_told_146 (by decide) ?_
      exact hret _ _ _ q143.2 _ _ hf dX7_told_150 hP hD hS
  have hf := ite_f c1_9 hf
  by_cases c1_10 : x = 10
  · have hf := ite_t c1_10 hf
    refine lv_tableIn (off := 150) (tgt := 151) hx hb dX7_told_1 (by rw [c1_10]; decide) (by rw [c1_10]; decide) (by rw [c1_10]; decide +kernel) (by decide) ?_
    refine lv_aload_n hx hb dX7_told_151 rfl (lv_at hl 0 rfl) ?_
    refine va_get (D := D) (ci := 7) (v := .int (z 0 7)) (C := RX7) (T := TX7) (N := 17) hx hb hts inT7 hown hK hP 0 rfl rfl 7 (by decide) (hts _ mT_573) (fun _ h9 => h9) rfl dX7_told_152 ?_
    exact hret _ _ _ z _ _ hf dX7_told_155 hP hD hS
  have hf := ite_f c1_10 hf
  by_cases c1_11 : x = 11
  · have hf := ite_t c1_11 hf
    refine lv_tableIn (off := 155) (tgt := 156) hx hb dX7_told_1 (by rw [c1_11]; decide) (by rw [c1_11]; decide) (by rw [c1_11]; decide +kernel) (by decide) ?_
    refine lv_aload_n hx hb dX7_told_156 rfl (lv_at hl 0 rfl) ?_
    obtain ⟨q157, h157, hf⟩ := bd_some hf
    refine kx_wi (As := []) (rest := []) (wc := cModel cI cZ za z1 z2 z3 z4 z5 z6 z7 z8 z9 z) (wr := []) (wd := cModel cI cZ za z1 z2 z3 z4 z5 z6 z7 z8 z9 q157.2) (wn := cModel cI cZ za z1 z2 z3 z4 z5 z6 z7 z8 z9 q157.2) hx hb hml hown hts hk hP hD hS hA hl.1 s_yX7_wrong v_yX7_wrong (c_m_wrong l D cI cZ cR za z1 z2 z3 z4 z5 z6 z7 z8 z9 z s.heap.size _ _ h157) mT_711 rfl rfl ⟨Nat.le_of_ble_eq_true rfl, Nat.le_of_ble_eq_true rfl⟩ [0, 1, 2, 3, 4, 5, 6, 7, 8, 9] [] [0, 1, 2, 3, 4, 5, 6, 7, 8, 9] rfl rfl (by decide) (by decide) (by decide) (by decide) rfl (ci := 7) (q0 := 0) rfl rfl rfl (Nat.le_of_ble_eq_true rfl) ⟨Nat.zero_le _, Nat.zero_le _⟩ dX7_told_157 (fun H locs hP hD hS => ?_)
    exact hret _ _ _ q157.2 _ _ hf dX7_told_160 hP hD hS
  have hf := ite_f c1_11 hf
  by_cases c1_12 : x = 12
  · have hf := ite_t c1_12 hf
    refine lv_tableIn (off := 160) (tgt := 161) hx hb dX7_told_1 (by rw [c1_12]; decide) (by rw [c1_12]; decide) (by rw [c1_12]; decide +kernel) (by decide) ?_
    refine lv_aload_n hx hb dX7_told_161 rfl (lv_at hl 0 rfl) ?_
    refine va_get (D := D) (ci := 7) (v := .int (z 0 2)) (C := RX7) (T := TX7) (N := 17) hx hb hts inT7 hown hK hP 0 rfl rfl 2 (by decide) (hts _ mT_568) (fun _ h9 => h9) rfl dX7_told_162 ?_
    exact hret _ _ _ z _ _ hf dX7_told_165 hP hD hS
  have hf := ite_f c1_12 hf
  refine lv_tableOut (tgt := 166) hx hb dX7_told_1 (by have nc1_0 := lv_neT (a := 0) c1_0 rfl; have nc1_1 := lv_neT (a := 1) c1_1 rfl; have nc1_2 := lv_neT (a := 2) c1_2 rfl; have nc1_3 := lv_neT (a := 3) c1_3 rfl; have nc1_4 := lv_neT (a := 4) c1_4 rfl; have nc1_5 := lv_neT (a := 5) c1_5 rfl; have nc1_6 := lv_neT (a := 6) c1_6 rfl; have nc1_7 := lv_neT (a := 7) c1_7 rfl; have nc1_8 := lv_neT (a := 8) c1_8 rfl; have nc1_9 := lv_neT (a := 9) c1_9 rfl; have nc1_10 := lv_neT (a := 10) c1_10 rfl; have nc1_11 := lv_neT (a := 11) c1_11 rfl; have nc1_12 := lv_neT (a := 12) c1_12 rfl; omega) (by decide) ?_
  refine lv_ldc (v := (-1000000002)) hx hb hown (hts _ mT_722) dX7_told_166 ?_
  exact hret _ _ _ z _ _ hf dX7_told_168 hP hD hS
theorem s_yX7_knownAt : kMS yX7_knownAt cX7_knownAt 2 (some .int) 1 := ⟨mT_743, mT_59, by decide +kernel⟩
theorem v_yX7_knownAt : kMV yX7_knownAt := ⟨mT_742, mT_43⟩
def f_m_knownAt (z : Ob) (x : Int32) : Option (Int32 × Ob) := bd (f_m_isWell z) (fun q1 => if q1 = 0 then (some ((-1), z)) else (bd (f_m_works 6 z 0 (-1)) (fun q14 => if q14.1 < 0 then (some ((-1), q14.2)) else (gd (ck x 20) (some ((q14.2 6) (Int32.toNatClampNeg x), q14.2))))))
set_option maxHeartbeats 4000000 in
set_option maxRecDepth 100000 in
theorem c_m_knownAt (l : Launch) (D : va_G) (cI cZ cR : ClassId) (za z1 z2 z3 z4 z5 z6 z7 z8 z9 : Nat) (z : Ob) (x : Int32) (sz : Nat) (r : Int32) (u : Ob) (hf : f_m_knownAt z x = some (r, u)) : kCi l yX7_knownAt cX7_knownAt 2 (some .int) { frames := 5, cells := 0, slots := 0, locals := 118 } [.ref za, .int x] D cI cZ cR (cModel cI cZ za z1 z2 z3 z4 z5 z6 z7 z8 z9 z) sz (cModel cI cZ za z1 z2 z3 z4 z5 z6 z7 z8 z9 u) r := by
  refine kMwi (wf := (fun u : Ob => cModel cI cZ za z1 z2 z3 z4 z5 z6 z7 z8 z9 u)) (u := u) (by decide) (Nat.le_of_ble_eq_true rfl) ?_
  intro p e s m below meth c Q A hx hb hml hown hts hk hP hD hA hS hret ls hl
  have hS0 := hS
  have hK := hk.1
  have hl : lv_has ls 2 [(0, .ref za), (1, .int x)] := hl
  rw [f_m_knownAt] at hf
  refine lv_aload_n hx hb dX7_knownAt_0 rfl (lv_at hl 0 rfl) ?_
  obtain ⟨q1, h1, hf⟩ := bd_some hf
  refine kx_rv (As := []) (rest := []) hx hb hml hown hts hk hP hl.1 s_yX7_isWell v_yX7_isWell (c_m_isWell l D cI cZ cR za z1 z2 z3 z4 z5 z6 z7 z8 z9 z _ h1) mT_651 rfl rfl ⟨Nat.le_of_ble_eq_true rfl, Nat.le_of_ble_eq_true rfl⟩ (ci := 7) (q0 := 0) rfl rfl rfl (Nat.le_of_ble_eq_true rfl) ⟨Nat.zero_le _, Nat.zero_le _⟩ dX7_knownAt_1 ?_
  refine lv_if_eq (tgt := 29) hx hb dX7_knownAt_4 (by decide) (fun c4 => ?_) (fun c4 => ?_)
  · have hf := ite_t c4 hf
    refine lv_iconst (v := (-1)) hx hb dX7_knownAt_29 (by decide) ?_
    exact hret _ _ _ z _ _ hf dX7_knownAt_30 hP hD hS
  · have hf := ite_f c4 hf
    refine lv_aload_n hx hb dX7_knownAt_7 rfl (lv_at hl 0 rfl) ?_
    refine lv_aload_n hx hb dX7_knownAt_8 rfl (lv_at hl 0 rfl) ?_
    refine va_get (D := D) (ci := 7) (v := .ref z6) (C := RX7) (T := TX7) (N := 17) hx hb hts inT7 hown hK hP 0 rfl rfl 8 (by decide) (hts _ mT_574) (fun _ h9 => h9) rfl dX7_knownAt_9 ?_
    refine lv_iconst (v := 0) hx hb dX7_knownAt_12 (by decide) ?_
    refine lv_iconst (v := (-1)) hx hb dX7_knownAt_13 (by decide) ?_
    obtain ⟨q14, h14, hf⟩ := bd_some hf
    refine kx_wi (As := [.ref z6, .int 0, .int (-1)]) (rest := []) (wc := cModel cI cZ za z1 z2 z3 z4 z5 z6 z7 z8 z9 z) (wr := []) (wd := cModel cI cZ za z1 z2 z3 z4 z5 z6 z7 z8 z9 q14.2) (wn := cModel cI cZ za z1 z2 z3 z4 z5 z6 z7 z8 z9 q14.2) hx hb hml hown hts hk hP hD hS hA hl.1 s_yX7_works v_yX7_works (c_m_works6 l D cI cZ cR za z1 z2 z3 z4 z5 z6 z7 z8 z9 z 0 (-1) s.heap.size _ _ h14) mT_691 rfl rfl ⟨Nat.le_of_ble_eq_true rfl, Nat.le_of_ble_eq_true rfl⟩ [0, 1, 2, 3, 4, 5, 6, 7, 8, 9] [] [0, 1, 2, 3, 4, 5, 6, 7, 8, 9] rfl rfl (by decide) (by decide) (by decide) (by decide) rfl (ci := 7) (q0 := 0) rfl rfl rfl (Nat.le_of_ble_eq_true rfl) ⟨Nat.zero_le _, Nat.zero_le _⟩ dX7_knownAt_14 (fun H locs hP hD hS => ?_)
    refine lv_if_lt (tgt := 29) hx hb dX7_knownAt_17 (by decide) (fun c17 => ?_) (fun c17 => ?_)
    · have hf := ite_t c17 hf
      refine lv_iconst (v := (-1)) hx hb dX7_knownAt_29 (by decide) ?_
      exact hret _ _ _ q14.2 _ _ hf dX7_knownAt_30 hP hD hS
    · have hf := ite_f c17 hf
      refine lv_aload_n hx hb dX7_knownAt_20 rfl (lv_at hl 0 rfl) ?_
      refine va_get (D := D) (ci := 7) (v := .ref z6) (C := RX7) (T := TX7) (N := 17) hx hb hts inT7 hown hK hP 0 rfl rfl 8 (by decide) (hts _ mT_574) (fun _ h9 => h9) rfl dX7_knownAt_21 ?_
      refine lv_iload_n hx hb dX7_knownAt_24 rfl (lv_at hl 1 rfl) ?_
      obtain ⟨b25, hf⟩ := gd_some hf
      refine va_iald (n := 20) (f := q14.2 6) hx hb hK hP 6 0 rfl rfl (ck_in b25) dX7_knownAt_25 ?_
      refine lv_goto (tgt := 30) hx hb dX7_knownAt_26 (by decide) ?_
      exact hret _ _ _ q14.2 _ _ hf dX7_knownAt_30 hP hD hS
theorem s_yX7_rebuiltAt : kMS yX7_rebuiltAt cX7_rebuiltAt 2 (some .int) 1 := ⟨mT_747, mT_59, by decide +kernel⟩
theorem v_yX7_rebuiltAt : kMV yX7_rebuiltAt := ⟨mT_746, mT_44⟩
def f_m_rebuiltAt (z : Ob) (x : Int32) : Option (Int32 × Ob) := bd (f_m_rebuilds z) (fun q1 => gd (ck x 20) (some ((q1 8) (Int32.toNatClampNeg x), q1)))
set_option maxHeartbeats 4000000 in
set_option maxRecDepth 100000 in
theorem c_m_rebuiltAt (l : Launch) (D : va_G) (cI cZ cR : ClassId) (za z1 z2 z3 z4 z5 z6 z7 z8 z9 : Nat) (z : Ob) (x : Int32) (sz : Nat) (r : Int32) (u : Ob) (hf : f_m_rebuiltAt z x = some (r, u)) : kCi l yX7_rebuiltAt cX7_rebuiltAt 2 (some .int) { frames := 5, cells := 0, slots := 0, locals := 114 } [.ref za, .int x] D cI cZ cR (cModel cI cZ za z1 z2 z3 z4 z5 z6 z7 z8 z9 z) sz (cModel cI cZ za z1 z2 z3 z4 z5 z6 z7 z8 z9 u) r := by
  refine kMwi (wf := (fun u : Ob => cModel cI cZ za z1 z2 z3 z4 z5 z6 z7 z8 z9 u)) (u := u) (by decide) (Nat.le_of_ble_eq_true rfl) ?_
  intro p e s m below meth c Q A hx hb hml hown hts hk hP hD hA hS hret ls hl
  have hS0 := hS
  have hK := hk.1
  have hl : lv_has ls 2 [(0, .ref za), (1, .int x)] := hl
  rw [f_m_rebuiltAt] at hf
  refine lv_aload_n hx hb dX7_rebuiltAt_0 rfl (lv_at hl 0 rfl) ?_
  obtain ⟨q1, h1, hf⟩ := bd_some hf
  refine kx_wv (As := []) (rest := []) (wc := cModel cI cZ za z1 z2 z3 z4 z5 z6 z7 z8 z9 z) (wr := []) (wd := cModel cI cZ za z1 z2 z3 z4 z5 z6 z7 z8 z9 q1) (wn := cModel cI cZ za z1 z2 z3 z4 z5 z6 z7 z8 z9 q1) hx hb hml hown hts hk hP hD hS hA hl.1 s_yX7_rebuilds v_yX7_rebuilds (c_m_rebuilds l D cI cZ cR za z1 z2 z3 z4 z5 z6 z7 z8 z9 z s.heap.size _ h1) mT_667 rfl rfl ⟨Nat.le_of_ble_eq_true rfl, Nat.le_of_ble_eq_true rfl⟩ [0, 1, 2, 3, 4, 5, 6, 7, 8, 9] [] [0, 1, 2, 3, 4, 5, 6, 7, 8, 9] rfl rfl (by decide) (by decide) (by decide) (by decide) rfl (ci := 7) (q0 := 0) rfl rfl rfl (Nat.le_of_ble_eq_true rfl) ⟨Nat.zero_le _, Nat.zero_le _⟩ dX7_rebuiltAt_1 (fun H locs hP hD hS => ?_)
  refine lv_aload_n hx hb dX7_rebuiltAt_4 rfl (lv_at hl 0 rfl) ?_
  refine va_get (D := D) (ci := 7) (v := .ref z8) (C := RX7) (T := TX7) (N := 17) hx hb hts inT7 hown hK hP 0 rfl rfl 10 (by decide) (hts _ mT_576) (fun _ h9 => h9) rfl dX7_rebuiltAt_5 ?_
  refine lv_iload_n hx hb dX7_rebuiltAt_8 rfl (lv_at hl 1 rfl) ?_
  obtain ⟨b9, hf⟩ := gd_some hf
  refine va_iald (n := 20) (f := q1 8) hx hb hK hP 8 0 rfl rfl (ck_in b9) dX7_rebuiltAt_9 ?_
  exact hret _ _ _ q1 _ _ hf dX7_rebuiltAt_10 hP hD hS
theorem s_yX7_place : kMS yX7_place cX7_place 3 (some .int) 2 := ⟨mT_739, mT_59, by decide +kernel⟩
theorem v_yX7_place : kMV yX7_place := ⟨mT_737, mT_738⟩
def f_m_place (z : Ob) (x : Int32) (y : Int32) : Option (Int32 × Ob) := bd (f_m_isPlace z x) (fun q2 => if q2 = 0 then (some ((-1000000001), z)) else (if y = 0 then (gd (ck (67 + x) 367) (some ((z 1) (Int32.toNatClampNeg (67 + x)), z))) else (if y = 1 then (gd (ck (77 + x) 367) (some ((z 1) (Int32.toNatClampNeg (77 + x)), z))) else (if y = 2 then (bd (f_m_knownAt z x) (fun q82 => some (q82.1, q82.2))) else (if y = 3 then (bd (f_m_knownAt z (10 + x)) (fun q91 => some (q91.1, q91.2))) else (if y = 4 then (bd (f_m_rebuiltAt z x) (fun q97 => some (q97.1, q97.2))) else (if y = 5 then (bd (f_m_rebuiltAt z (10 + x)) (fun q106 => some (q106.1, q106.2))) else (if y = 6 then (bd (f_m_isKept z x) (fun q112 => if q112 = 0 then (some ((-1), z)) else (gd (ck (87 + x) 367) (some ((z 1) (Int32.toNatClampNeg (87 + x)), z))))) else (if y = 7 then (bd (f_m_isKept z x) (fun q134 => if q134 = 0 then (some ((-1), z)) else (gd (ck (97 + x) 367) (some ((z 1) (Int32.toNatClampNeg (97 + x)), z))))) else (some ((-1000000002), z)))))))))))
set_option maxHeartbeats 4000000 in
set_option maxRecDepth 100000 in
theorem c_m_place (l : Launch) (D : va_G) (cI cZ cR : ClassId) (za z1 z2 z3 z4 z5 z6 z7 z8 z9 : Nat) (z : Ob) (x : Int32) (y : Int32) (sz : Nat) (r : Int32) (u : Ob) (hf : f_m_place z x y = some (r, u)) : kCi l yX7_place cX7_place 3 (some .int) { frames := 6, cells := 0, slots := 0, locals := 139 } [.ref za, .int x, .int y] D cI cZ cR (cModel cI cZ za z1 z2 z3 z4 z5 z6 z7 z8 z9 z) sz (cModel cI cZ za z1 z2 z3 z4 z5 z6 z7 z8 z9 u) r := by
  refine kMwi (wf := (fun u : Ob => cModel cI cZ za z1 z2 z3 z4 z5 z6 z7 z8 z9 u)) (u := u) (by decide) (Nat.le_of_ble_eq_true rfl) ?_
  intro p e s m below meth c Q A hx hb hml hown hts hk hP hD hA hS hret ls hl
  have hS0 := hS
  have hK := hk.1
  have hl : lv_has ls 3 [(0, .ref za), (1, .int x), (2, .int y)] := hl
  rw [f_m_place] at hf
  refine lv_aload_n hx hb dX7_place_0 rfl (lv_at hl 0 rfl) ?_
  refine lv_iload_n hx hb dX7_place_1 rfl (lv_at hl 1 rfl) ?_
  obtain ⟨q2, h2, hf⟩ := bd_some hf
  refine kx_rv (As := [.int x]) (rest := []) hx hb hml hown hts hk hP hl.1 s_yX7_isPlace v_yX7_isPlace (c_m_isPlace l D cI cZ cR za z1 z2 z3 z4 z5 z6 z7 z8 z9 z x _ h2) mT_715 rfl rfl ⟨Nat.le_of_ble_eq_true rfl, Nat.le_of_ble_eq_true rfl⟩ (ci := 7) (q0 := 0) rfl rfl rfl (Nat.le_of_ble_eq_true rfl) ⟨Nat.zero_le _, Nat.zero_le _⟩ dX7_place_2 ?_
  refine lv_if_ne (tgt := 11) hx hb dX7_place_5 (by decide) (fun c5 => ?_) (fun c5 => ?_)
  · have hf := ite_f c5 hf
    refine lv_iload_n hx hb dX7_place_11 rfl (lv_at hl 2 rfl) ?_
    by_cases c12_0 : y = 0
    · have hf := ite_t c12_0 hf
      refine lv_tableIn (off := 48) (tgt := 60) hx hb dX7_place_12 (by rw [c12_0]; decide) (by rw [c12_0]; decide) (by rw [c12_0]; decide +kernel) (by decide) ?_
      refine lv_aload_n hx hb dX7_place_60 rfl (lv_at hl 0 rfl) ?_
      refine va_get (D := D) (ci := 7) (v := .ref z1) (C := RX7) (T := TX7) (N := 17) hx hb hts inT7 hown hK hP 0 rfl rfl 0 (by decide) (hts _ mT_566) (fun _ h9 => h9) rfl dX7_place_61 ?_
      refine lv_bipush (v := 67) hx hb dX7_place_64 (by decide) ?_
      refine lv_iload_n hx hb dX7_place_66 rfl (lv_at hl 1 rfl) ?_
      refine lv_iadd hx hb dX7_place_67 ?_
      obtain ⟨b68, hf⟩ := gd_some hf
      refine va_iald (n := 367) (f := z 1) hx hb hK hP 1 0 rfl rfl (ck_in b68) dX7_place_68 ?_
      exact hret _ _ _ z _ _ hf dX7_place_69 hP hD hS
    have hf := ite_f c12_0 hf
    by_cases c12_1 : y = 1
    · have hf := ite_t c12_1 hf
      refine lv_tableIn (off := 58) (tgt := 70) hx hb dX7_place_12 (by rw [c12_1]; decide) (by rw [c12_1]; decide) (by rw [c12_1]; decide +kernel) (by decide) ?_
      refine lv_aload_n hx hb dX7_place_70 rfl (lv_at hl 0 rfl) ?_
      refine va_get (D := D) (ci := 7) (v := .ref z1) (C := RX7) (T := TX7) (N := 17) hx hb hts inT7 hown hK hP 0 rfl rfl 0 (by decide) (hts _ mT_566) (fun _ h9 => h9) rfl dX7_place_71 ?_
      refine lv_bipush (v := 77) hx hb dX7_place_74 (by decide) ?_
      refine lv_iload_n hx hb dX7_place_76 rfl (lv_at hl 1 rfl) ?_
      refine lv_iadd hx hb dX7_place_77 ?_
      obtain ⟨b78, hf⟩ := gd_some hf
      refine va_iald (n := 367) (f := z 1) hx hb hK hP 1 0 rfl rfl (ck_in b78) dX7_place_78 ?_
      exact hret _ _ _ z _ _ hf dX7_place_79 hP hD hS
    have hf := ite_f c12_1 hf
    by_cases c12_2 : y = 2
    · have hf := ite_t c12_2 hf
      refine lv_tableIn (off := 68) (tgt := 80) hx hb dX7_place_12 (by rw [c12_2]; decide) (by rw [c12_2]; decide) (by rw [c12_2]; decide +kernel) (by decide) ?_
      refine lv_aload_n hx hb dX7_place_80 rfl (lv_at hl 0 rfl) ?_
      refine lv_iload_n hx hb dX7_place_81 rfl (lv_at hl 1 rfl) ?_
      obtain ⟨q82, h82, hf⟩ := bd_some hf
      refine kx_wi (As := [.int x]) (rest := []) (wc := cModel cI cZ za z1 z2 z3 z4 z5 z6 z7 z8 z9 z) (wr := []) (wd := cModel cI cZ za z1 z2 z3 z4 z5 z6 z7 z8 z9 q82.2) (wn := cModel cI cZ za z1 z2 z3 z4 z5 z6 z7 z8 z9 q82.2) hx hb hml hown hts hk hP hD hS hA hl.1 s_yX7_knownAt v_yX7_knownAt (c_m_knownAt l D cI cZ cR za z1 z2 z3 z4 z5 z6 z7 z8 z9 z x s.heap.size _ _ h82) mT_740 rfl rfl ⟨Nat.le_of_ble_eq_true rfl, Nat.le_of_ble_eq_true rfl⟩ [0, 1, 2, 3, 4, 5, 6, 7, 8, 9] [] [0, 1, 2, 3, 4, 5, 6, 7, 8, 9] rfl rfl (by decide) (by decide) (by decide) (by decide) rfl (ci := 7) (q0 := 0) rfl rfl rfl (Nat.le_of_ble_eq_true rfl) ⟨Nat.zero_le _, Nat.zero_le _⟩ dX7_place_82 (fun H locs hP hD hS => ?_)
      exact hret _ _ _ q82.2 _ _ hf dX7_place_85 hP hD hS
    have hf := ite_f c12_2 hf
    by_cases c12_3 : y = 3
    · have hf := ite_t c12_3 hf
      refine lv_tableIn (off := 74) (tgt := 86) hx hb dX7_place_12 (by rw [c12_3]; decide) (by rw [c12_3]; decide) (by rw [c12_3]; decide +kernel) (by decide) ?_
      refine lv_aload_n hx hb dX7_place_86 rfl (lv_at hl 0 rfl) ?_
      refine lv_bipush (v := 10) hx hb dX7_place_87 (by decide) ?_
      refine lv_iload_n hx hb dX7_place_89 rfl (lv_at hl 1 rfl) ?_
      refine lv_iadd hx hb dX7_place_90 ?_
      obtain ⟨q91, h91, hf⟩ := bd_some hf
      refine kx_wi (As := [.int (10 + x)]) (rest := []) (wc := cModel cI cZ za z1 z2 z3 z4 z5 z6 z7 z8 z9 z) (wr := []) (wd := cModel cI cZ za z1 z2 z3 z4 z5 z6 z7 z8 z9 q91.2) (wn := cModel cI cZ za z1 z2 z3 z4 z5 z6 z7 z8 z9 q91.2) hx hb hml hown hts hk hP hD hS hA hl.1 s_yX7_knownAt v_yX7_knownAt (c_m_knownAt l D cI cZ cR za z1 z2 z3 z4 z5 z6 z7 z8 z9 z (10 + x) s.heap.size _ _ h91) mT_740 rfl rfl ⟨Nat.le_of_ble_eq_true rfl, Nat.le_of_ble_eq_true rfl⟩ [0, 1, 2, 3, 4, 5, 6, 7, 8, 9] [] [0, 1, 2, 3, 4, 5, 6, 7, 8, 9] rfl rfl (by decide) (by decide) (by decide) (by decide) rfl (ci := 7) (q0 := 0) rfl rfl rfl (Nat.le_of_ble_eq_true rfl) ⟨Nat.zero_le _, Nat.zero_le _⟩ dX7_place_91 (fun H locs hP hD hS => ?_)
      exact hret _ _ _ q91.2 _ _ hf dX7_place_94 hP hD hS
    have hf := ite_f c12_3 hf
    by_cases c12_4 : y = 4
    · have hf := ite_t c12_4 hf
      refine lv_tableIn (off := 83) (tgt := 95) hx hb dX7_place_12 (by rw [c12_4]; decide) (by rw [c12_4]; decide) (by rw [c12_4]; decide +kernel) (by decide) ?_
      refine lv_aload_n hx hb dX7_place_95 rfl (lv_at hl 0 rfl) ?_
      refine lv_iload_n hx hb dX7_place_96 rfl (lv_at hl 1 rfl) ?_
      obtain ⟨q97, h97, hf⟩ := bd_some hf
      refine kx_wi (As := [.int x]) (rest := []) (wc := cModel cI cZ za z1 z2 z3 z4 z5 z6 z7 z8 z9 z) (wr := []) (wd := cModel cI cZ za z1 z2 z3 z4 z5 z6 z7 z8 z9 q97.2) (wn := cModel cI cZ za z1 z2 z3 z4 z5 z6 z7 z8 z9 q97.2) hx hb hml hown hts hk hP hD hS hA hl.1 s_yX7_rebuiltAt v_yX7_rebuiltAt (c_m_rebuiltAt l D cI cZ cR za z1 z2 z3 z4 z5 z6 z7 z8 z9 z x s.heap.size _ _ h97) mT_744 rfl rfl ⟨Nat.le_of_ble_eq_true rfl, Nat.le_of_ble_eq_true rfl⟩ [0, 1, 2, 3, 4, 5, 6, 7, 8, 9] [] [0, 1, 2, 3, 4, 5, 6, 7, 8, 9] rfl rfl (by decide) (by decide) (by decide) (by decide) rfl (ci := 7) (q0 := 0) rfl rfl rfl (Nat.le_of_ble_eq_true rfl) ⟨Nat.zero_le _, Nat.zero_le _⟩ dX7_place_97 (fun H locs hP hD hS => ?_)
      exact hret _ _ _ q97.2 _ _ hf dX7_place_100 hP hD hS
    have hf := ite_f c12_4 hf
    by_cases c12_5 : y = 5
    · have hf := ite_t c12_5 hf
      refine lv_tableIn (off := 89) (tgt := 101) hx hb dX7_place_12 (by rw [c12_5]; decide) (by rw [c12_5]; decide) (by rw [c12_5]; decide +kernel) (by decide) ?_
      refine lv_aload_n hx hb dX7_place_101 rfl (lv_at hl 0 rfl) ?_
      refine lv_bipush (v := 10) hx hb dX7_place_102 (by decide) ?_
      refine lv_iload_n hx hb dX7_place_104 rfl (lv_at hl 1 rfl) ?_
      refine lv_iadd hx hb dX7_place_105 ?_
      obtain ⟨q106, h106, hf⟩ := bd_some hf
      refine kx_wi (As := [.int (10 + x)]) (rest := []) (wc := cModel cI cZ za z1 z2 z3 z4 z5 z6 z7 z8 z9 z) (wr := []) (wd := cModel cI cZ za z1 z2 z3 z4 z5 z6 z7 z8 z9 q106.2) (wn := cModel cI cZ za z1 z2 z3 z4 z5 z6 z7 z8 z9 q106.2) hx hb hml hown hts hk hP hD hS hA hl.1 s_yX7_rebuiltAt v_yX7_rebuiltAt (c_m_rebuiltAt l D cI cZ cR za z1 z2 z3 z4 z5 z6 z7 z8 z9 z (10 + x) s.heap.size _ _ h106) mT_744 rfl rfl ⟨Nat.le_of_ble_eq_true rfl, Nat.le_of_ble_eq_true rfl⟩ [0, 1, 2, 3, 4, 5, 6, 7, 8, 9] [] [0, 1, 2, 3, 4, 5, 6, 7, 8, 9] rfl rfl (by decide) (by decide) (by decide) (by decide) rfl (ci := 7) (q0 := 0) rfl rfl rfl (Nat.le_of_ble_eq_true rfl) ⟨Nat.zero_le _, Nat.zero_le _⟩ dX7_place_106 (fun H locs hP hD hS => ?_)
      exact hret _ _ _ q106.2 _ _ hf dX7_place_109 hP hD hS
    have hf := ite_f c12_5 hf
    by_cases c12_6 : y = 6
    · have hf := ite_t c12_6 hf
      refine lv_tableIn (off := 98) (tgt := 110) hx hb dX7_place_12 (by rw [c12_6]; decide) (by rw [c12_6]; decide) (by rw [c12_6]; decide +kernel) (by decide) ?_
      refine lv_aload_n hx hb dX7_place_110 rfl (lv_at hl 0 rfl) ?_
      refine lv_iload_n hx hb dX7_place_111 rfl (lv_at hl 1 rfl) ?_
      obtain ⟨q112, h112, hf⟩ := bd_some hf
      refine kx_rv (As := [.int x]) (rest := []) hx hb hml hown hts hk hP hl.1 s_yX7_isKept v_yX7_isKept (c_m_isKept l D cI cZ cR za z1 z2 z3 z4 z5 z6 z7 z8 z9 z x _ h112) mT_659 rfl rfl ⟨Nat.le_of_ble_eq_true rfl, Nat.le_of_ble_eq_true rfl⟩ (ci := 7) (q0 := 0) rfl rfl rfl (Nat.le_of_ble_eq_true rfl) ⟨Nat.zero_le _, Nat.zero_le _⟩ dX7_place_112 ?_
      refine lv_if_eq (tgt := 130) hx hb dX7_place_115 (by decide) (fun c115 => ?_) (fun c115 => ?_)
      · have hf := ite_t c115 hf
        refine lv_iconst (v := (-1)) hx hb dX7_place_130 (by decide) ?_
        exact hret _ _ _ z _ _ hf dX7_place_131 hP hD hS
      · have hf := ite_f c115 hf
        refine lv_aload_n hx hb dX7_place_118 rfl (lv_at hl 0 rfl) ?_
        refine va_get (D := D) (ci := 7) (v := .ref z1) (C := RX7) (T := TX7) (N := 17) hx hb hts inT7 hown hK hP 0 rfl rfl 0 (by decide) (hts _ mT_566) (fun _ h9 => h9) rfl dX7_place_119 ?_
        refine lv_bipush (v := 87) hx hb dX7_place_122 (by decide) ?_
        refine lv_iload_n hx hb dX7_place_124 rfl (lv_at hl 1 rfl) ?_
        refine lv_iadd hx hb dX7_place_125 ?_
        obtain ⟨b126, hf⟩ := gd_some hf
        refine va_iald (n := 367) (f := z 1) hx hb hK hP 1 0 rfl rfl (ck_in b126) dX7_place_126 ?_
        refine lv_goto (tgt := 131) hx hb dX7_place_127 (by decide) ?_
        exact hret _ _ _ z _ _ hf dX7_place_131 hP hD hS
    have hf := ite_f c12_6 hf
    by_cases c12_7 : y = 7
    · have hf := ite_t c12_7 hf
      refine lv_tableIn (off := 120) (tgt := 132) hx hb dX7_place_12 (by rw [c12_7]; decide) (by rw [c12_7]; decide) (by rw [c12_7]; decide +kernel) (by decide) ?_
      refine lv_aload_n hx hb dX7_place_132 rfl (lv_at hl 0 rfl) ?_
      refine lv_iload_n hx hb dX7_place_133 rfl (lv_at hl 1 rfl) ?_
      obtain ⟨q134, h134, hf⟩ := bd_some hf
      refine kx_rv (As := [.int x]) (rest := []) hx hb hml hown hts hk hP hl.1 s_yX7_isKept v_yX7_isKept (c_m_isKept l D cI cZ cR za z1 z2 z3 z4 z5 z6 z7 z8 z9 z x _ h134) mT_659 rfl rfl ⟨Nat.le_of_ble_eq_true rfl, Nat.le_of_ble_eq_true rfl⟩ (ci := 7) (q0 := 0) rfl rfl rfl (Nat.le_of_ble_eq_true rfl) ⟨Nat.zero_le _, Nat.zero_le _⟩ dX7_place_134 ?_
      refine lv_if_eq (tgt := 152) hx hb dX7_place_137 (by decide) (fun c137 => ?_) (fun c137 => ?_)
      · have hf := ite_t c137 hf
        refine lv_iconst (v := (-1)) hx hb dX7_place_152 (by decide) ?_
        exact hret _ _ _ z _ _ hf dX7_place_153 hP hD hS
      · have hf := ite_f c137 hf
        refine lv_aload_n hx hb dX7_place_140 rfl (lv_at hl 0 rfl) ?_
        refine va_get (D := D) (ci := 7) (v := .ref z1) (C := RX7) (T := TX7) (N := 17) hx hb hts inT7 hown hK hP 0 rfl rfl 0 (by decide) (hts _ mT_566) (fun _ h9 => h9) rfl dX7_place_141 ?_
        refine lv_bipush (v := 97) hx hb dX7_place_144 (by decide) ?_
        refine lv_iload_n hx hb dX7_place_146 rfl (lv_at hl 1 rfl) ?_
        refine lv_iadd hx hb dX7_place_147 ?_
        obtain ⟨b148, hf⟩ := gd_some hf
        refine va_iald (n := 367) (f := z 1) hx hb hK hP 1 0 rfl rfl (ck_in b148) dX7_place_148 ?_
        refine lv_goto (tgt := 153) hx hb dX7_place_149 (by decide) ?_
        exact hret _ _ _ z _ _ hf dX7_place_153 hP hD hS
    have hf := ite_f c12_7 hf
    refine lv_tableOut (tgt := 154) hx hb dX7_place_12 (by have nc12_0 := lv_neT (a := 0) c12_0 rfl; have nc12_1 := lv_neT (a := 1) c12_1 rfl; have nc12_2 := lv_neT (a := 2) c12_2 rfl; have nc12_3 := lv_neT (a := 3) c12_3 rfl; have nc12_4 := lv_neT (a := 4) c12_4 rfl; have nc12_5 := lv_neT (a := 5) c12_5 rfl; have nc12_6 := lv_neT (a := 6) c12_6 rfl; have nc12_7 := lv_neT (a := 7) c12_7 rfl; omega) (by decide) ?_
    refine lv_ldc (v := (-1000000002)) hx hb hown (hts _ mT_722) dX7_place_154 ?_
    exact hret _ _ _ z _ _ hf dX7_place_156 hP hD hS
  · have hf := ite_t c5 hf
    refine lv_ldc (v := (-1000000001)) hx hb hown (hts _ mT_731) dX7_place_8 ?_
    exact hret _ _ _ z _ _ hf dX7_place_10 hP hD hS
theorem s_yX7_broughtBy : kMS yX7_broughtBy cX7_broughtBy 3 (some .int) 2 := ⟨mT_759, mT_59, by decide +kernel⟩
theorem v_yX7_broughtBy : kMV yX7_broughtBy := ⟨mT_758, mT_46⟩
def f_m_broughtBy (z : Ob) (x : Int32) (y : Int32) : Option (Int32 × Ob) := bd (f_m_isWell z) (fun q1 => if q1 = 0 then (some ((-1), z)) else (bd (f_m_works 6 z 0 (-1)) (fun q14 => if 0 ≤ q14.1 then (bd (f_m_of q14.2 x 0) (fun q31 => gd (ck q31 20) (bd (f_m_of q14.2 x 0) (fun q44 => gd (ck (10 + q44) 20) (bd (f_m_brings q14.2 x ((q14.2 6) (Int32.toNatClampNeg q31)) ((q14.2 6) (Int32.toNatClampNeg (10 + q44)))) (fun q49 => if y = 7 then (some (q49 0 11, q49)) else (some (q49 0 12, q49)))))))) else (some ((-1), q14.2)))))
set_option maxHeartbeats 4000000 in
set_option maxRecDepth 100000 in
theorem c_m_broughtBy (l : Launch) (D : va_G) (cI cZ cR : ClassId) (za z1 z2 z3 z4 z5 z6 z7 z8 z9 : Nat) (z : Ob) (x : Int32) (y : Int32) (sz : Nat) (r : Int32) (u : Ob) (hf : f_m_broughtBy z x y = some (r, u)) : kCi l yX7_broughtBy cX7_broughtBy 3 (some .int) { frames := 5, cells := 0, slots := 0, locals := 118 } [.ref za, .int x, .int y] D cI cZ cR (cModel cI cZ za z1 z2 z3 z4 z5 z6 z7 z8 z9 z) sz (cModel cI cZ za z1 z2 z3 z4 z5 z6 z7 z8 z9 u) r := by
  refine kMwi (wf := (fun u : Ob => cModel cI cZ za z1 z2 z3 z4 z5 z6 z7 z8 z9 u)) (u := u) (by decide) (Nat.le_of_ble_eq_true rfl) ?_
  intro p e s m below meth c Q A hx hb hml hown hts hk hP hD hA hS hret ls hl
  have hS0 := hS
  have hK := hk.1
  have hl : lv_has ls 3 [(0, .ref za), (1, .int x), (2, .int y)] := hl
  rw [f_m_broughtBy] at hf
  refine lv_aload_n hx hb dX7_broughtBy_0 rfl (lv_at hl 0 rfl) ?_
  obtain ⟨q1, h1, hf⟩ := bd_some hf
  refine kx_rv (As := []) (rest := []) hx hb hml hown hts hk hP hl.1 s_yX7_isWell v_yX7_isWell (c_m_isWell l D cI cZ cR za z1 z2 z3 z4 z5 z6 z7 z8 z9 z _ h1) mT_651 rfl rfl ⟨Nat.le_of_ble_eq_true rfl, Nat.le_of_ble_eq_true rfl⟩ (ci := 7) (q0 := 0) rfl rfl rfl (Nat.le_of_ble_eq_true rfl) ⟨Nat.zero_le _, Nat.zero_le _⟩ dX7_broughtBy_1 ?_
  refine lv_if_eq (tgt := 20) hx hb dX7_broughtBy_4 (by decide) (fun c4 => ?_) (fun c4 => ?_)
  · have hf := ite_t c4 hf
    refine lv_iconst (v := (-1)) hx hb dX7_broughtBy_20 (by decide) ?_
    exact hret _ _ _ z _ _ hf dX7_broughtBy_21 hP hD hS
  · have hf := ite_f c4 hf
    refine lv_aload_n hx hb dX7_broughtBy_7 rfl (lv_at hl 0 rfl) ?_
    refine lv_aload_n hx hb dX7_broughtBy_8 rfl (lv_at hl 0 rfl) ?_
    refine va_get (D := D) (ci := 7) (v := .ref z6) (C := RX7) (T := TX7) (N := 17) hx hb hts inT7 hown hK hP 0 rfl rfl 8 (by decide) (hts _ mT_574) (fun _ h9 => h9) rfl dX7_broughtBy_9 ?_
    refine lv_iconst (v := 0) hx hb dX7_broughtBy_12 (by decide) ?_
    refine lv_iconst (v := (-1)) hx hb dX7_broughtBy_13 (by decide) ?_
    obtain ⟨q14, h14, hf⟩ := bd_some hf
    refine kx_wi (As := [.ref z6, .int 0, .int (-1)]) (rest := []) (wc := cModel cI cZ za z1 z2 z3 z4 z5 z6 z7 z8 z9 z) (wr := []) (wd := cModel cI cZ za z1 z2 z3 z4 z5 z6 z7 z8 z9 q14.2) (wn := cModel cI cZ za z1 z2 z3 z4 z5 z6 z7 z8 z9 q14.2) hx hb hml hown hts hk hP hD hS hA hl.1 s_yX7_works v_yX7_works (c_m_works6 l D cI cZ cR za z1 z2 z3 z4 z5 z6 z7 z8 z9 z 0 (-1) s.heap.size _ _ h14) mT_691 rfl rfl ⟨Nat.le_of_ble_eq_true rfl, Nat.le_of_ble_eq_true rfl⟩ [0, 1, 2, 3, 4, 5, 6, 7, 8, 9] [] [0, 1, 2, 3, 4, 5, 6, 7, 8, 9] rfl rfl (by decide) (by decide) (by decide) (by decide) rfl (ci := 7) (q0 := 0) rfl rfl rfl (Nat.le_of_ble_eq_true rfl) ⟨Nat.zero_le _, Nat.zero_le _⟩ dX7_broughtBy_14 (fun H locs hP hD hS => ?_)
    refine lv_if_ge (tgt := 22) hx hb dX7_broughtBy_17 (by decide) (fun c17 => ?_) (fun c17 => ?_)
    · have hf := ite_t c17 hf
      refine lv_aload_n hx hb dX7_broughtBy_22 rfl (lv_at hl 0 rfl) ?_
      refine lv_iload_n hx hb dX7_broughtBy_23 rfl (lv_at hl 1 rfl) ?_
      refine lv_aload_n hx hb dX7_broughtBy_24 rfl (lv_at hl 0 rfl) ?_
      refine va_get (D := D) (ci := 7) (v := .ref z6) (C := RX7) (T := TX7) (N := 17) hx hb hts inT7 hown hK hP 0 rfl rfl 8 (by decide) (hts _ mT_574) (fun _ h9 => h9) rfl dX7_broughtBy_25 ?_
      refine lv_aload_n hx hb dX7_broughtBy_28 rfl (lv_at hl 0 rfl) ?_
      refine lv_iload_n hx hb dX7_broughtBy_29 rfl (lv_at hl 1 rfl) ?_
      refine lv_iconst (v := 0) hx hb dX7_broughtBy_30 (by decide) ?_
      obtain ⟨q31, h31, hf⟩ := bd_some hf
      refine kx_rv (As := [.int x, .int 0]) (rest := [.ref z6, .int x, .ref za]) hx hb hml hown hts hk hP hl.1 s_yX7_of v_yX7_of (c_m_of l D cI cZ cR za z1 z2 z3 z4 z5 z6 z7 z8 z9 q14.2 x 0 _ h31) mT_647 rfl rfl ⟨Nat.le_of_ble_eq_true rfl, Nat.le_of_ble_eq_true rfl⟩ (ci := 7) (q0 := 0) rfl rfl rfl (Nat.le_of_ble_eq_true rfl) ⟨Nat.zero_le _, Nat.zero_le _⟩ dX7_broughtBy_31 ?_
      obtain ⟨b34, hf⟩ := gd_some hf
      refine va_iald (n := 20) (f := q14.2 6) hx hb hK hP 6 0 rfl rfl (ck_in b34) dX7_broughtBy_34 ?_
      refine lv_aload_n hx hb dX7_broughtBy_35 rfl (lv_at hl 0 rfl) ?_
      refine va_get (D := D) (ci := 7) (v := .ref z6) (C := RX7) (T := TX7) (N := 17) hx hb hts inT7 hown hK hP 0 rfl rfl 8 (by decide) (hts _ mT_574) (fun _ h9 => h9) rfl dX7_broughtBy_36 ?_
      refine lv_bipush (v := 10) hx hb dX7_broughtBy_39 (by decide) ?_
      refine lv_aload_n hx hb dX7_broughtBy_41 rfl (lv_at hl 0 rfl) ?_
      refine lv_iload_n hx hb dX7_broughtBy_42 rfl (lv_at hl 1 rfl) ?_
      refine lv_iconst (v := 0) hx hb dX7_broughtBy_43 (by decide) ?_
      obtain ⟨q44, h44, hf⟩ := bd_some hf
      refine kx_rv (As := [.int x, .int 0]) (rest := [.int 10, .ref z6, .int ((q14.2 6) (Int32.toNatClampNeg q31)), .int x, .ref za]) hx hb hml hown hts hk hP hl.1 s_yX7_of v_yX7_of (c_m_of l D cI cZ cR za z1 z2 z3 z4 z5 z6 z7 z8 z9 q14.2 x 0 _ h44) mT_647 rfl rfl ⟨Nat.le_of_ble_eq_true rfl, Nat.le_of_ble_eq_true rfl⟩ (ci := 7) (q0 := 0) rfl rfl rfl (Nat.le_of_ble_eq_true rfl) ⟨Nat.zero_le _, Nat.zero_le _⟩ dX7_broughtBy_44 ?_
      refine lv_iadd hx hb dX7_broughtBy_47 ?_
      obtain ⟨b48, hf⟩ := gd_some hf
      refine va_iald (n := 20) (f := q14.2 6) hx hb hK hP 6 0 rfl rfl (ck_in b48) dX7_broughtBy_48 ?_
      obtain ⟨q49, h49, hf⟩ := bd_some hf
      refine kx_wv (As := [.int x, .int ((q14.2 6) (Int32.toNatClampNeg q31)), .int ((q14.2 6) (Int32.toNatClampNeg (10 + q44)))]) (rest := []) (wc := cModel cI cZ za z1 z2 z3 z4 z5 z6 z7 z8 z9 q14.2) (wr := []) (wd := cModel cI cZ za z1 z2 z3 z4 z5 z6 z7 z8 z9 q49) (wn := cModel cI cZ za z1 z2 z3 z4 z5 z6 z7 z8 z9 q49) hx hb hml hown hts hk hP hD hS hA hl.1 s_yX7_brings v_yX7_brings (c_m_brings l D cI cZ cR za z1 z2 z3 z4 z5 z6 z7 z8 z9 q14.2 x ((q14.2 6) (Int32.toNatClampNeg q31)) ((q14.2 6) (Int32.toNatClampNeg (10 + q44))) H.size _ h49) mT_675 rfl rfl ⟨Nat.le_of_ble_eq_true rfl, Nat.le_of_ble_eq_true rfl⟩ [0, 1, 2, 3, 4, 5, 6, 7, 8, 9] [] [0, 1, 2, 3, 4, 5, 6, 7, 8, 9] rfl rfl (by decide) (by decide) (by decide) (by decide) rfl (ci := 7) (q0 := 0) rfl rfl rfl (Nat.le_of_ble_eq_true rfl) ⟨Nat.zero_le _, Nat.zero_le _⟩ dX7_broughtBy_49 (fun H locs hP hD hS => ?_)
      refine lv_iload_n hx hb dX7_broughtBy_52 rfl (lv_at hl 2 rfl) ?_
      refine lv_bipush (v := 7) hx hb dX7_broughtBy_53 (by decide) ?_
      refine lv_icmp_ne (tgt := 65) hx hb dX7_broughtBy_55 (by decide) (fun c55 => ?_) (fun c55 => ?_)
      · have hf := ite_f c55 hf
        refine lv_aload_n hx hb dX7_broughtBy_65 rfl (lv_at hl 0 rfl) ?_
        refine va_get (D := D) (ci := 7) (v := .int (q49 0 12)) (C := RX7) (T := TX7) (N := 17) hx hb hts inT7 hown hK hP 0 rfl rfl 12 (by decide) (hts _ mT_578) (fun _ h9 => h9) rfl dX7_broughtBy_66 ?_
        exact hret _ _ _ q49 _ _ hf dX7_broughtBy_69 hP hD hS
      · have hf := ite_t c55 hf
        refine lv_aload_n hx hb dX7_broughtBy_58 rfl (lv_at hl 0 rfl) ?_
        refine va_get (D := D) (ci := 7) (v := .int (q49 0 11)) (C := RX7) (T := TX7) (N := 17) hx hb hts inT7 hown hK hP 0 rfl rfl 11 (by decide) (hts _ mT_577) (fun _ h9 => h9) rfl dX7_broughtBy_59 ?_
        refine lv_goto (tgt := 69) hx hb dX7_broughtBy_62 (by decide) ?_
        exact hret _ _ _ q49 _ _ hf dX7_broughtBy_69 hP hD hS
    · have hf := ite_f c17 hf
      refine lv_iconst (v := (-1)) hx hb dX7_broughtBy_20 (by decide) ?_
      exact hret _ _ _ q14.2 _ _ hf dX7_broughtBy_21 hP hD hS
theorem s_yX7_wayAt : kMS yX7_wayAt cX7_wayAt 3 (some .int) 2 := ⟨mT_751, mT_59, by decide +kernel⟩
theorem v_yX7_wayAt : kMV yX7_wayAt := ⟨mT_749, mT_750⟩
def f_m_wayAt (z : Ob) (x : Int32) (y : Int32) : Option (Int32 × Ob) := bd (f_m_isWay z x) (fun q2 => if q2 = 0 then (some ((-1000000001), z)) else (bd (f_m_in y 0 8) (fun q15 => if q15 = 0 then (some ((-1000000002), z)) else (if 5 ≤ y then (if y = 5 then (bd (f_m_keepsOrder z x) (fun q43 => if q43 = 0 then (some (0, z)) else (some (1, z)))) else (if y ≤ 6 then (bd (f_m_isWell z) (fun q71 => if q71 = 0 then (some ((-1), z)) else (bd (f_m_without z x) (fun q79 => some (q79.1, q79.2))))) else (bd (f_m_broughtBy z x y) (fun q64 => some (q64.1, q64.2))))) else (bd (f_m_of z x y) (fun q32 => some (q32, z)))))))
set_option maxHeartbeats 4000000 in
set_option maxRecDepth 100000 in
theorem c_m_wayAt (l : Launch) (D : va_G) (cI cZ cR : ClassId) (za z1 z2 z3 z4 z5 z6 z7 z8 z9 : Nat) (z : Ob) (x : Int32) (y : Int32) (sz : Nat) (r : Int32) (u : Ob) (hf : f_m_wayAt z x y = some (r, u)) : kCi l yX7_wayAt cX7_wayAt 3 (some .int) { frames := 6, cells := 0, slots := 0, locals := 143 } [.ref za, .int x, .int y] D cI cZ cR (cModel cI cZ za z1 z2 z3 z4 z5 z6 z7 z8 z9 z) sz (cModel cI cZ za z1 z2 z3 z4 z5 z6 z7 z8 z9 u) r := by
  refine kMwi (wf := (fun u : Ob => cModel cI cZ za z1 z2 z3 z4 z5 z6 z7 z8 z9 u)) (u := u) (by decide) (Nat.le_of_ble_eq_true rfl) ?_
  intro p e s m below meth c Q A hx hb hml hown hts hk hP hD hA hS hret ls hl
  have hS0 := hS
  have hK := hk.1
  have hl : lv_has ls 3 [(0, .ref za), (1, .int x), (2, .int y)] := hl
  rw [f_m_wayAt] at hf
  refine lv_aload_n hx hb dX7_wayAt_0 rfl (lv_at hl 0 rfl) ?_
  refine lv_iload_n hx hb dX7_wayAt_1 rfl (lv_at hl 1 rfl) ?_
  obtain ⟨q2, h2, hf⟩ := bd_some hf
  refine kx_rv (As := [.int x]) (rest := []) hx hb hml hown hts hk hP hl.1 s_yX7_isWay v_yX7_isWay (c_m_isWay l D cI cZ cR za z1 z2 z3 z4 z5 z6 z7 z8 z9 z x _ h2) mT_752 rfl rfl ⟨Nat.le_of_ble_eq_true rfl, Nat.le_of_ble_eq_true rfl⟩ (ci := 7) (q0 := 0) rfl rfl rfl (Nat.le_of_ble_eq_true rfl) ⟨Nat.zero_le _, Nat.zero_le _⟩ dX7_wayAt_2 ?_
  refine lv_if_ne (tgt := 11) hx hb dX7_wayAt_5 (by decide) (fun c5 => ?_) (fun c5 => ?_)
  · have hf := ite_f c5 hf
    refine lv_iload_n hx hb dX7_wayAt_11 rfl (lv_at hl 2 rfl) ?_
    refine lv_iconst (v := 0) hx hb dX7_wayAt_12 (by decide) ?_
    refine lv_bipush (v := 8) hx hb dX7_wayAt_13 (by decide) ?_
    obtain ⟨q15, h15, hf⟩ := bd_some hf
    refine kx_rs (As := [.int y, .int 0, .int 8]) (rest := []) hx hb hml hown hts hk hl.1 s_yX7_in mT_720 (c_m_in l D cI cZ cR y 0 8 _ h15) mT_719 rfl rfl ⟨Nat.le_of_ble_eq_true rfl, Nat.le_of_ble_eq_true rfl⟩ rfl (Nat.le_of_ble_eq_true rfl) ⟨Nat.zero_le _, Nat.zero_le _⟩ dX7_wayAt_15 ?_
    refine lv_if_ne (tgt := 24) hx hb dX7_wayAt_18 (by decide) (fun c18 => ?_) (fun c18 => ?_)
    · have hf := ite_f c18 hf
      refine lv_iload_n hx hb dX7_wayAt_24 rfl (lv_at hl 2 rfl) ?_
      refine lv_iconst (v := 5) hx hb dX7_wayAt_25 (by decide) ?_
      refine lv_icmp_ge (tgt := 36) hx hb dX7_wayAt_26 (by decide) (fun c26 => ?_) (fun c26 => ?_)
      · have hf := ite_t c26 hf
        refine lv_iload_n hx hb dX7_wayAt_36 rfl (lv_at hl 2 rfl) ?_
        refine lv_iconst (v := 5) hx hb dX7_wayAt_37 (by decide) ?_
        refine lv_icmp_ne (tgt := 55) hx hb dX7_wayAt_38 (by decide) (fun c38 => ?_) (fun c38 => ?_)
        · have hf := ite_f c38 hf
          refine lv_iload_n hx hb dX7_wayAt_55 rfl (lv_at hl 2 rfl) ?_
          refine lv_bipush (v := 6) hx hb dX7_wayAt_56 (by decide) ?_
          refine lv_icmp_le (tgt := 70) hx hb dX7_wayAt_58 (by decide) (fun c58 => ?_) (fun c58 => ?_)
          · have hf := ite_t c58 hf
            refine lv_aload_n hx hb dX7_wayAt_70 rfl (lv_at hl 0 rfl) ?_
            obtain ⟨q71, h71, hf⟩ := bd_some hf
            refine kx_rv (As := []) (rest := []) hx hb hml hown hts hk hP hl.1 s_yX7_isWell v_yX7_isWell (c_m_isWell l D cI cZ cR za z1 z2 z3 z4 z5 z6 z7 z8 z9 z _ h71) mT_651 rfl rfl ⟨Nat.le_of_ble_eq_true rfl, Nat.le_of_ble_eq_true rfl⟩ (ci := 7) (q0 := 0) rfl rfl rfl (Nat.le_of_ble_eq_true rfl) ⟨Nat.zero_le _, Nat.zero_le _⟩ dX7_wayAt_71 ?_
            refine lv_if_eq (tgt := 85) hx hb dX7_wayAt_74 (by decide) (fun c74 => ?_) (fun c74 => ?_)
            · have hf := ite_t c74 hf
              refine lv_iconst (v := (-1)) hx hb dX7_wayAt_85 (by decide) ?_
              exact hret _ _ _ z _ _ hf dX7_wayAt_86 hP hD hS
            · have hf := ite_f c74 hf
              refine lv_aload_n hx hb dX7_wayAt_77 rfl (lv_at hl 0 rfl) ?_
              refine lv_iload_n hx hb dX7_wayAt_78 rfl (lv_at hl 1 rfl) ?_
              obtain ⟨q79, h79, hf⟩ := bd_some hf
              refine kx_wi (As := [.int x]) (rest := []) (wc := cModel cI cZ za z1 z2 z3 z4 z5 z6 z7 z8 z9 z) (wr := []) (wd := cModel cI cZ za z1 z2 z3 z4 z5 z6 z7 z8 z9 q79.2) (wn := cModel cI cZ za z1 z2 z3 z4 z5 z6 z7 z8 z9 q79.2) hx hb hml hown hts hk hP hD hS hA hl.1 s_yX7_without v_yX7_without (c_m_without l D cI cZ cR za z1 z2 z3 z4 z5 z6 z7 z8 z9 z x s.heap.size _ _ h79) mT_707 rfl rfl ⟨Nat.le_of_ble_eq_true rfl, Nat.le_of_ble_eq_true rfl⟩ [0, 1, 2, 3, 4, 5, 6, 7, 8, 9] [] [0, 1, 2, 3, 4, 5, 6, 7, 8, 9] rfl rfl (by decide) (by decide) (by decide) (by decide) rfl (ci := 7) (q0 := 0) rfl rfl rfl (Nat.le_of_ble_eq_true rfl) ⟨Nat.zero_le _, Nat.zero_le _⟩ dX7_wayAt_79 (fun H locs hP hD hS => ?_)
              refine lv_goto (tgt := 86) hx hb dX7_wayAt_82 (by decide) ?_
              exact hret _ _ _ q79.2 _ _ hf dX7_wayAt_86 hP hD hS
          · have hf := ite_f c58 hf
            refine lv_aload_n hx hb dX7_wayAt_61 rfl (lv_at hl 0 rfl) ?_
            refine lv_iload_n hx hb dX7_wayAt_62 rfl (lv_at hl 1 rfl) ?_
            refine lv_iload_n hx hb dX7_wayAt_63 rfl (lv_at hl 2 rfl) ?_
            obtain ⟨q64, h64, hf⟩ := bd_some hf
            refine kx_wi (As := [.int x, .int y]) (rest := []) (wc := cModel cI cZ za z1 z2 z3 z4 z5 z6 z7 z8 z9 z) (wr := []) (wd := cModel cI cZ za z1 z2 z3 z4 z5 z6 z7 z8 z9 q64.2) (wn := cModel cI cZ za z1 z2 z3 z4 z5 z6 z7 z8 z9 q64.2) hx hb hml hown hts hk hP hD hS hA hl.1 s_yX7_broughtBy v_yX7_broughtBy (c_m_broughtBy l D cI cZ cR za z1 z2 z3 z4 z5 z6 z7 z8 z9 z x y s.heap.size _ _ h64) mT_756 rfl rfl ⟨Nat.le_of_ble_eq_true rfl, Nat.le_of_ble_eq_true rfl⟩ [0, 1, 2, 3, 4, 5, 6, 7, 8, 9] [] [0, 1, 2, 3, 4, 5, 6, 7, 8, 9] rfl rfl (by decide) (by decide) (by decide) (by decide) rfl (ci := 7) (q0 := 0) rfl rfl rfl (Nat.le_of_ble_eq_true rfl) ⟨Nat.zero_le _, Nat.zero_le _⟩ dX7_wayAt_64 (fun H locs hP hD hS => ?_)
            refine lv_goto (tgt := 86) hx hb dX7_wayAt_67 (by decide) ?_
            exact hret _ _ _ q64.2 _ _ hf dX7_wayAt_86 hP hD hS
        · have hf := ite_t c38 hf
          refine lv_aload_n hx hb dX7_wayAt_41 rfl (lv_at hl 0 rfl) ?_
          refine lv_iload_n hx hb dX7_wayAt_42 rfl (lv_at hl 1 rfl) ?_
          obtain ⟨q43, h43, hf⟩ := bd_some hf
          refine kx_rv (As := [.int x]) (rest := []) hx hb hml hown hts hk hP hl.1 s_yX7_keepsOrder v_yX7_keepsOrder (c_m_keepsOrder l D cI cZ cR za z1 z2 z3 z4 z5 z6 z7 z8 z9 z x _ h43) mT_639 rfl rfl ⟨Nat.le_of_ble_eq_true rfl, Nat.le_of_ble_eq_true rfl⟩ (ci := 7) (q0 := 0) rfl rfl rfl (Nat.le_of_ble_eq_true rfl) ⟨Nat.zero_le _, Nat.zero_le _⟩ dX7_wayAt_43 ?_
          refine lv_if_eq (tgt := 53) hx hb dX7_wayAt_46 (by decide) (fun c46 => ?_) (fun c46 => ?_)
          · have hf := ite_t c46 hf
            refine lv_iconst (v := 0) hx hb dX7_wayAt_53 (by decide) ?_
            exact hret _ _ _ z _ _ hf dX7_wayAt_54 hP hD hS
          · have hf := ite_f c46 hf
            refine lv_iconst (v := 1) hx hb dX7_wayAt_49 (by decide) ?_
            refine lv_goto (tgt := 54) hx hb dX7_wayAt_50 (by decide) ?_
            exact hret _ _ _ z _ _ hf dX7_wayAt_54 hP hD hS
      · have hf := ite_f c26 hf
        refine lv_aload_n hx hb dX7_wayAt_29 rfl (lv_at hl 0 rfl) ?_
        refine lv_iload_n hx hb dX7_wayAt_30 rfl (lv_at hl 1 rfl) ?_
        refine lv_iload_n hx hb dX7_wayAt_31 rfl (lv_at hl 2 rfl) ?_
        obtain ⟨q32, h32, hf⟩ := bd_some hf
        refine kx_rv (As := [.int x, .int y]) (rest := []) hx hb hml hown hts hk hP hl.1 s_yX7_of v_yX7_of (c_m_of l D cI cZ cR za z1 z2 z3 z4 z5 z6 z7 z8 z9 z x y _ h32) mT_647 rfl rfl ⟨Nat.le_of_ble_eq_true rfl, Nat.le_of_ble_eq_true rfl⟩ (ci := 7) (q0 := 0) rfl rfl rfl (Nat.le_of_ble_eq_true rfl) ⟨Nat.zero_le _, Nat.zero_le _⟩ dX7_wayAt_32 ?_
        exact hret _ _ _ z _ _ hf dX7_wayAt_35 hP hD hS
    · have hf := ite_t c18 hf
      refine lv_ldc (v := (-1000000002)) hx hb hown (hts _ mT_722) dX7_wayAt_21 ?_
      exact hret _ _ _ z _ _ hf dX7_wayAt_23 hP hD hS
  · have hf := ite_t c5 hf
    refine lv_ldc (v := (-1000000001)) hx hb hown (hts _ mT_731) dX7_wayAt_8 ?_
    exact hret _ _ _ z _ _ hf dX7_wayAt_10 hP hD hS
theorem s_yX7_steps : kMS yX7_steps cX7_steps 2 (some .int) 1 := ⟨mT_767, mT_59, by decide +kernel⟩
theorem v_yX7_steps : kMV yX7_steps := ⟨mT_765, mT_766⟩
def f_m_steps (z : Ob) (x : Int32) : Option (Int32 × Ob) := bd (f_m_in x 0 2) (fun q3 => if q3 = 0 then (some ((-1000000002), z)) else (bd (f_m_works 7 z x (-1)) (fun q16 => some (q16.1, q16.2))))
set_option maxHeartbeats 4000000 in
set_option maxRecDepth 100000 in
theorem c_m_steps (l : Launch) (D : va_G) (cI cZ cR : ClassId) (za z1 z2 z3 z4 z5 z6 z7 z8 z9 : Nat) (z : Ob) (x : Int32) (sz : Nat) (r : Int32) (u : Ob) (hf : f_m_steps z x = some (r, u)) : kCi l yX7_steps cX7_steps 2 (some .int) { frames := 5, cells := 0, slots := 0, locals := 118 } [.ref za, .int x] D cI cZ cR (cModel cI cZ za z1 z2 z3 z4 z5 z6 z7 z8 z9 z) sz (cModel cI cZ za z1 z2 z3 z4 z5 z6 z7 z8 z9 u) r := by
  refine kMwi (wf := (fun u : Ob => cModel cI cZ za z1 z2 z3 z4 z5 z6 z7 z8 z9 u)) (u := u) (by decide) (Nat.le_of_ble_eq_true rfl) ?_
  intro p e s m below meth c Q A hx hb hml hown hts hk hP hD hA hS hret ls hl
  have hS0 := hS
  have hK := hk.1
  have hl : lv_has ls 2 [(0, .ref za), (1, .int x)] := hl
  rw [f_m_steps] at hf
  refine lv_iload_n hx hb dX7_steps_0 rfl (lv_at hl 1 rfl) ?_
  refine lv_iconst (v := 0) hx hb dX7_steps_1 (by decide) ?_
  refine lv_iconst (v := 2) hx hb dX7_steps_2 (by decide) ?_
  obtain ⟨q3, h3, hf⟩ := bd_some hf
  refine kx_rs (As := [.int x, .int 0, .int 2]) (rest := []) hx hb hml hown hts hk hl.1 s_yX7_in mT_720 (c_m_in l D cI cZ cR x 0 2 _ h3) mT_719 rfl rfl ⟨Nat.le_of_ble_eq_true rfl, Nat.le_of_ble_eq_true rfl⟩ rfl (Nat.le_of_ble_eq_true rfl) ⟨Nat.zero_le _, Nat.zero_le _⟩ dX7_steps_3 ?_
  refine lv_if_eq (tgt := 22) hx hb dX7_steps_6 (by decide) (fun c6 => ?_) (fun c6 => ?_)
  · have hf := ite_t c6 hf
    refine lv_ldc (v := (-1000000002)) hx hb hown (hts _ mT_722) dX7_steps_22 ?_
    exact hret _ _ _ z _ _ hf dX7_steps_24 hP hD hS
  · have hf := ite_f c6 hf
    refine lv_aload_n hx hb dX7_steps_9 rfl (lv_at hl 0 rfl) ?_
    refine lv_aload_n hx hb dX7_steps_10 rfl (lv_at hl 0 rfl) ?_
    refine va_get (D := D) (ci := 7) (v := .ref z7) (C := RX7) (T := TX7) (N := 17) hx hb hts inT7 hown hK hP 0 rfl rfl 9 (by decide) (hts _ mT_575) (fun _ h9 => h9) rfl dX7_steps_11 ?_
    refine lv_iload_n hx hb dX7_steps_14 rfl (lv_at hl 1 rfl) ?_
    refine lv_iconst (v := (-1)) hx hb dX7_steps_15 (by decide) ?_
    obtain ⟨q16, h16, hf⟩ := bd_some hf
    refine kx_wi (As := [.ref z7, .int x, .int (-1)]) (rest := []) (wc := cModel cI cZ za z1 z2 z3 z4 z5 z6 z7 z8 z9 z) (wr := []) (wd := cModel cI cZ za z1 z2 z3 z4 z5 z6 z7 z8 z9 q16.2) (wn := cModel cI cZ za z1 z2 z3 z4 z5 z6 z7 z8 z9 q16.2) hx hb hml hown hts hk hP hD hS hA hl.1 s_yX7_works v_yX7_works (c_m_works7 l D cI cZ cR za z1 z2 z3 z4 z5 z6 z7 z8 z9 z x (-1) s.heap.size _ _ h16) mT_691 rfl rfl ⟨Nat.le_of_ble_eq_true rfl, Nat.le_of_ble_eq_true rfl⟩ [0, 1, 2, 3, 4, 5, 6, 7, 8, 9] [] [0, 1, 2, 3, 4, 5, 6, 7, 8, 9] rfl rfl (by decide) (by decide) (by decide) (by decide) rfl (ci := 7) (q0 := 0) rfl rfl rfl (Nat.le_of_ble_eq_true rfl) ⟨Nat.zero_le _, Nat.zero_le _⟩ dX7_steps_16 (fun H locs hP hD hS => ?_)
    refine lv_goto (tgt := 24) hx hb dX7_steps_19 (by decide) ?_
    exact hret _ _ _ q16.2 _ _ hf dX7_steps_24 hP hD hS
theorem s_yX7_worked : kMS yX7_worked cX7_worked 3 (some .int) 2 := ⟨mT_771, mT_59, by decide +kernel⟩
theorem v_yX7_worked : kMV yX7_worked := ⟨mT_769, mT_770⟩
def f_m_worked (z : Ob) (x : Int32) (y : Int32) : Option (Int32 × Ob) := bd (f_m_isPlace z y) (fun q2 => if q2 = 0 then (some ((-1000000001), z)) else (bd (f_m_in x 0 2) (fun q14 => if q14 = 0 then (some ((-1000000002), z)) else (bd (f_m_works 7 z x (-1)) (fun q30 => if 0 ≤ q30.1 then (gd (ck y 20) (gd (ck (10 + y) 20) (some ((256 * ((q30.2 7) (Int32.toNatClampNeg y))) + ((q30.2 7) (Int32.toNatClampNeg (10 + y))), q30.2)))) else (some ((-1), q30.2)))))))
set_option maxHeartbeats 4000000 in
set_option maxRecDepth 100000 in
theorem c_m_worked (l : Launch) (D : va_G) (cI cZ cR : ClassId) (za z1 z2 z3 z4 z5 z6 z7 z8 z9 : Nat) (z : Ob) (x : Int32) (y : Int32) (sz : Nat) (r : Int32) (u : Ob) (hf : f_m_worked z x y = some (r, u)) : kCi l yX7_worked cX7_worked 3 (some .int) { frames := 5, cells := 0, slots := 0, locals := 118 } [.ref za, .int x, .int y] D cI cZ cR (cModel cI cZ za z1 z2 z3 z4 z5 z6 z7 z8 z9 z) sz (cModel cI cZ za z1 z2 z3 z4 z5 z6 z7 z8 z9 u) r := by
  refine kMwi (wf := (fun u : Ob => cModel cI cZ za z1 z2 z3 z4 z5 z6 z7 z8 z9 u)) (u := u) (by decide) (Nat.le_of_ble_eq_true rfl) ?_
  intro p e s m below meth c Q A hx hb hml hown hts hk hP hD hA hS hret ls hl
  have hS0 := hS
  have hK := hk.1
  have hl : lv_has ls 3 [(0, .ref za), (1, .int x), (2, .int y)] := hl
  rw [f_m_worked] at hf
  refine lv_aload_n hx hb dX7_worked_0 rfl (lv_at hl 0 rfl) ?_
  refine lv_iload_n hx hb dX7_worked_1 rfl (lv_at hl 2 rfl) ?_
  obtain ⟨q2, h2, hf⟩ := bd_some hf
  refine kx_rv (As := [.int y]) (rest := []) hx hb hml hown hts hk hP hl.1 s_yX7_isPlace v_yX7_isPlace (c_m_isPlace l D cI cZ cR za z1 z2 z3 z4 z5 z6 z7 z8 z9 z y _ h2) mT_715 rfl rfl ⟨Nat.le_of_ble_eq_true rfl, Nat.le_of_ble_eq_true rfl⟩ (ci := 7) (q0 := 0) rfl rfl rfl (Nat.le_of_ble_eq_true rfl) ⟨Nat.zero_le _, Nat.zero_le _⟩ dX7_worked_2 ?_
  refine lv_if_ne (tgt := 11) hx hb dX7_worked_5 (by decide) (fun c5 => ?_) (fun c5 => ?_)
  · have hf := ite_f c5 hf
    refine lv_iload_n hx hb dX7_worked_11 rfl (lv_at hl 1 rfl) ?_
    refine lv_iconst (v := 0) hx hb dX7_worked_12 (by decide) ?_
    refine lv_iconst (v := 2) hx hb dX7_worked_13 (by decide) ?_
    obtain ⟨q14, h14, hf⟩ := bd_some hf
    refine kx_rs (As := [.int x, .int 0, .int 2]) (rest := []) hx hb hml hown hts hk hl.1 s_yX7_in mT_720 (c_m_in l D cI cZ cR x 0 2 _ h14) mT_719 rfl rfl ⟨Nat.le_of_ble_eq_true rfl, Nat.le_of_ble_eq_true rfl⟩ rfl (Nat.le_of_ble_eq_true rfl) ⟨Nat.zero_le _, Nat.zero_le _⟩ dX7_worked_14 ?_
    refine lv_if_ne (tgt := 23) hx hb dX7_worked_17 (by decide) (fun c17 => ?_) (fun c17 => ?_)
    · have hf := ite_f c17 hf
      refine lv_aload_n hx hb dX7_worked_23 rfl (lv_at hl 0 rfl) ?_
      refine lv_aload_n hx hb dX7_worked_24 rfl (lv_at hl 0 rfl) ?_
      refine va_get (D := D) (ci := 7) (v := .ref z7) (C := RX7) (T := TX7) (N := 17) hx hb hts inT7 hown hK hP 0 rfl rfl 9 (by decide) (hts _ mT_575) (fun _ h9 => h9) rfl dX7_worked_25 ?_
      refine lv_iload_n hx hb dX7_worked_28 rfl (lv_at hl 1 rfl) ?_
      refine lv_iconst (v := (-1)) hx hb dX7_worked_29 (by decide) ?_
      obtain ⟨q30, h30, hf⟩ := bd_some hf
      refine kx_wi (As := [.ref z7, .int x, .int (-1)]) (rest := []) (wc := cModel cI cZ za z1 z2 z3 z4 z5 z6 z7 z8 z9 z) (wr := []) (wd := cModel cI cZ za z1 z2 z3 z4 z5 z6 z7 z8 z9 q30.2) (wn := cModel cI cZ za z1 z2 z3 z4 z5 z6 z7 z8 z9 q30.2) hx hb hml hown hts hk hP hD hS hA hl.1 s_yX7_works v_yX7_works (c_m_works7 l D cI cZ cR za z1 z2 z3 z4 z5 z6 z7 z8 z9 z x (-1) s.heap.size _ _ h30) mT_691 rfl rfl ⟨Nat.le_of_ble_eq_true rfl, Nat.le_of_ble_eq_true rfl⟩ [0, 1, 2, 3, 4, 5, 6, 7, 8, 9] [] [0, 1, 2, 3, 4, 5, 6, 7, 8, 9] rfl rfl (by decide) (by decide) (by decide) (by decide) rfl (ci := 7) (q0 := 0) rfl rfl rfl (Nat.le_of_ble_eq_true rfl) ⟨Nat.zero_le _, Nat.zero_le _⟩ dX7_worked_30 (fun H locs hP hD hS => ?_)
      refine lv_if_ge (tgt := 40) hx hb dX7_worked_33 (by decide) (fun c33 => ?_) (fun c33 => ?_)
      · have hf := ite_t c33 hf
        refine lv_sipush (v := 256) hx hb dX7_worked_40 (by decide) ?_
        refine lv_aload_n hx hb dX7_worked_43 rfl (lv_at hl 0 rfl) ?_
        refine va_get (D := D) (ci := 7) (v := .ref z7) (C := RX7) (T := TX7) (N := 17) hx hb hts inT7 hown hK hP 0 rfl rfl 9 (by decide) (hts _ mT_575) (fun _ h9 => h9) rfl dX7_worked_44 ?_
        refine lv_iload_n hx hb dX7_worked_47 rfl (lv_at hl 2 rfl) ?_
        obtain ⟨b48, hf⟩ := gd_some hf
        refine va_iald (n := 20) (f := q30.2 7) hx hb hK hP 7 0 rfl rfl (ck_in b48) dX7_worked_48 ?_
        refine lv_imul hx hb dX7_worked_49 ?_
        refine lv_aload_n hx hb dX7_worked_50 rfl (lv_at hl 0 rfl) ?_
        refine va_get (D := D) (ci := 7) (v := .ref z7) (C := RX7) (T := TX7) (N := 17) hx hb hts inT7 hown hK hP 0 rfl rfl 9 (by decide) (hts _ mT_575) (fun _ h9 => h9) rfl dX7_worked_51 ?_
        refine lv_bipush (v := 10) hx hb dX7_worked_54 (by decide) ?_
        refine lv_iload_n hx hb dX7_worked_56 rfl (lv_at hl 2 rfl) ?_
        refine lv_iadd hx hb dX7_worked_57 ?_
        obtain ⟨b58, hf⟩ := gd_some hf
        refine va_iald (n := 20) (f := q30.2 7) hx hb hK hP 7 0 rfl rfl (ck_in b58) dX7_worked_58 ?_
        refine lv_iadd hx hb dX7_worked_59 ?_
        exact hret _ _ _ q30.2 _ _ hf dX7_worked_60 hP hD hS
      · have hf := ite_f c33 hf
        refine lv_iconst (v := (-1)) hx hb dX7_worked_36 (by decide) ?_
        refine lv_goto (tgt := 60) hx hb dX7_worked_37 (by decide) ?_
        exact hret _ _ _ q30.2 _ _ hf dX7_worked_60 hP hD hS
    · have hf := ite_t c17 hf
      refine lv_ldc (v := (-1000000002)) hx hb hown (hts _ mT_722) dX7_worked_20 ?_
      exact hret _ _ _ z _ _ hf dX7_worked_22 hP hD hS
  · have hf := ite_t c5 hf
    refine lv_ldc (v := (-1000000001)) hx hb hown (hts _ mT_731) dX7_worked_8 ?_
    exact hret _ _ _ z _ _ hf dX7_worked_10 hP hD hS
