theorem s_yX6_valueOf : kMS yX6_valueOf cX6_valueOf 1 (some .int) 1 := ⟨mT_322, mT_51, by decide +kernel⟩
def f_valueOf (x : Int32) : Option Int32 := some (x / 256)
set_option maxHeartbeats 4000000 in
set_option maxRecDepth 100000 in
theorem c_valueOf (l : Launch) (D : va_G) (cI cZ cR : ClassId) (x : Int32) (r : Int32) (hf : f_valueOf x = some r) : kCr l yX6_valueOf cX6_valueOf 1 (some .int) { frames := 0, cells := 0, slots := 0, locals := 0 } [.int x] D cI cZ cR ([]) r := by
  refine kMri (by decide) (Nat.le_of_ble_eq_true rfl) ?_
  intro p e s m below meth c Q hx hb hml hown hts hk hP hret ls hl
  have hK := hk.1
  have hl : lv_has ls 1 [(0, .int x)] := hl
  rw [f_valueOf] at hf
  refine lv_iload_n hx hb dX6_valueOf_0 rfl (lv_at hl 0 rfl) ?_
  refine lv_sipush (v := 256) hx hb dX6_valueOf_1 (by decide) ?_
  refine lv_idiv hx hb dX6_valueOf_4 (by decide) ?_
  exact hret _ _ _ hf dX6_valueOf_5
theorem s_yX6_setOf : kMS yX6_setOf cX6_setOf 1 (some .int) 1 := ⟨mT_325, mT_51, by decide +kernel⟩
def f_setOf (x : Int32) : Option Int32 := some (x &&& 255)
set_option maxHeartbeats 4000000 in
set_option maxRecDepth 100000 in
theorem c_setOf (l : Launch) (D : va_G) (cI cZ cR : ClassId) (x : Int32) (r : Int32) (hf : f_setOf x = some r) : kCr l yX6_setOf cX6_setOf 1 (some .int) { frames := 0, cells := 0, slots := 0, locals := 0 } [.int x] D cI cZ cR ([]) r := by
  refine kMri (by decide) (Nat.le_of_ble_eq_true rfl) ?_
  intro p e s m below meth c Q hx hb hml hown hts hk hP hret ls hl
  have hK := hk.1
  have hl : lv_has ls 1 [(0, .int x)] := hl
  rw [f_setOf] at hf
  refine lv_iload_n hx hb dX6_setOf_0 rfl (lv_at hl 0 rfl) ?_
  refine lv_sipush (v := 255) hx hb dX6_setOf_1 (by decide) ?_
  refine lv_iand hx hb dX6_setOf_4 ?_
  exact hret _ _ _ hf dX6_setOf_5
theorem s_yX4_hasValue : kMS yX4_hasValue cX4_hasValue 2 (some .boolean) 1 := ⟨mT_387, mT_52, by decide +kernel⟩
theorem v_yX4_hasValue : kMV yX4_hasValue := ⟨mT_385, mT_386⟩
def f_hasValue (w : Ob) (x : Int32) : Option Int32 := if x < 0 then (some 0) else (if (w 0 0) ≤ x then (some 0) else (some 1))
set_option maxHeartbeats 4000000 in
set_option maxRecDepth 100000 in
theorem c_hasValue (l : Launch) (D : va_G) (cI cZ cR : ClassId) (wa w1 w2 w3 w4 w5 w6 w7 w8 w9 : Nat) (w : Ob) (x : Int32) (r : Int32) (hf : f_hasValue w x = some r) : kCr l yX4_hasValue cX4_hasValue 2 (some .boolean) { frames := 0, cells := 0, slots := 0, locals := 0 } [.ref wa, .int x] D cI cZ cR (cWeb cI wa w1 w2 w3 w4 w5 w6 w7 w8 w9 w) r := by
  refine kMrz (by decide) (Nat.le_of_ble_eq_true rfl) ?_
  intro p e s m below meth c Q hx hb hml hown hts hk hP hret ls hl
  have hK := hk.1
  have hl : lv_has ls 2 [(0, .ref wa), (1, .int x)] := hl
  rw [f_hasValue] at hf
  refine lv_iload_n hx hb dX4_hasValue_0 rfl (lv_at hl 1 rfl) ?_
  refine lv_if_lt (tgt := 16) hx hb dX4_hasValue_1 (by decide) (fun c1 => ?_) (fun c1 => ?_)
  · have hf := ite_t c1 hf
    refine lv_iconst (v := 0) hx hb dX4_hasValue_16 (by decide) ?_
    exact hret _ _ _ hf (Or.inl rfl) dX4_hasValue_17
  · have hf := ite_f c1 hf
    refine lv_iload_n hx hb dX4_hasValue_4 rfl (lv_at hl 1 rfl) ?_
    refine lv_aload_n hx hb dX4_hasValue_5 rfl (lv_at hl 0 rfl) ?_
    refine va_get (D := D) (ci := 4) (v := .int (w 0 0)) (C := RX4) (T := TX4) (N := 12) hx hb hts inT4 hown hK hP 0 rfl rfl 0 (by decide) (hts _ mT_75) (fun _ h9 => h9) rfl dX4_hasValue_6 ?_
    refine lv_icmp_ge (tgt := 16) hx hb dX4_hasValue_9 (by decide) (fun c9 => ?_) (fun c9 => ?_)
    · have hf := ite_t c9 hf
      refine lv_iconst (v := 0) hx hb dX4_hasValue_16 (by decide) ?_
      exact hret _ _ _ hf (Or.inl rfl) dX4_hasValue_17
    · have hf := ite_f c9 hf
      refine lv_iconst (v := 1) hx hb dX4_hasValue_12 (by decide) ?_
      refine lv_goto (tgt := 17) hx hb dX4_hasValue_13 (by decide) ?_
      exact hret _ _ _ hf (Or.inr rfl) dX4_hasValue_17
theorem s_yX4_hasPlace : kMS yX4_hasPlace cX4_hasPlace 2 (some .boolean) 1 := ⟨mT_402, mT_52, by decide +kernel⟩
theorem v_yX4_hasPlace : kMV yX4_hasPlace := ⟨mT_400, mT_401⟩
def f_hasPlace (w : Ob) (x : Int32) : Option Int32 := if x < 0 then (some 0) else (if (w 0 1) ≤ x then (some 0) else (some 1))
set_option maxHeartbeats 4000000 in
set_option maxRecDepth 100000 in
theorem c_hasPlace (l : Launch) (D : va_G) (cI cZ cR : ClassId) (wa w1 w2 w3 w4 w5 w6 w7 w8 w9 : Nat) (w : Ob) (x : Int32) (r : Int32) (hf : f_hasPlace w x = some r) : kCr l yX4_hasPlace cX4_hasPlace 2 (some .boolean) { frames := 0, cells := 0, slots := 0, locals := 0 } [.ref wa, .int x] D cI cZ cR (cWeb cI wa w1 w2 w3 w4 w5 w6 w7 w8 w9 w) r := by
  refine kMrz (by decide) (Nat.le_of_ble_eq_true rfl) ?_
  intro p e s m below meth c Q hx hb hml hown hts hk hP hret ls hl
  have hK := hk.1
  have hl : lv_has ls 2 [(0, .ref wa), (1, .int x)] := hl
  rw [f_hasPlace] at hf
  refine lv_iload_n hx hb dX4_hasPlace_0 rfl (lv_at hl 1 rfl) ?_
  refine lv_if_lt (tgt := 16) hx hb dX4_hasPlace_1 (by decide) (fun c1 => ?_) (fun c1 => ?_)
  · have hf := ite_t c1 hf
    refine lv_iconst (v := 0) hx hb dX4_hasPlace_16 (by decide) ?_
    exact hret _ _ _ hf (Or.inl rfl) dX4_hasPlace_17
  · have hf := ite_f c1 hf
    refine lv_iload_n hx hb dX4_hasPlace_4 rfl (lv_at hl 1 rfl) ?_
    refine lv_aload_n hx hb dX4_hasPlace_5 rfl (lv_at hl 0 rfl) ?_
    refine va_get (D := D) (ci := 4) (v := .int (w 0 1)) (C := RX4) (T := TX4) (N := 12) hx hb hts inT4 hown hK hP 0 rfl rfl 1 (by decide) (hts _ mT_79) (fun _ h9 => h9) rfl dX4_hasPlace_6 ?_
    refine lv_icmp_ge (tgt := 16) hx hb dX4_hasPlace_9 (by decide) (fun c9 => ?_) (fun c9 => ?_)
    · have hf := ite_t c9 hf
      refine lv_iconst (v := 0) hx hb dX4_hasPlace_16 (by decide) ?_
      exact hret _ _ _ hf (Or.inl rfl) dX4_hasPlace_17
    · have hf := ite_f c9 hf
      refine lv_iconst (v := 1) hx hb dX4_hasPlace_12 (by decide) ?_
      refine lv_goto (tgt := 17) hx hb dX4_hasPlace_13 (by decide) ?_
      exact hret _ _ _ hf (Or.inr rfl) dX4_hasPlace_17
theorem s_yX4_hasWay : kMS yX4_hasWay cX4_hasWay 2 (some .boolean) 1 := ⟨mT_418, mT_52, by decide +kernel⟩
theorem v_yX4_hasWay : kMV yX4_hasWay := ⟨mT_416, mT_417⟩
def f_hasWay (w : Ob) (x : Int32) : Option Int32 := if x < 0 then (some 0) else (if (w 0 2) ≤ x then (some 0) else (some 1))
set_option maxHeartbeats 4000000 in
set_option maxRecDepth 100000 in
theorem c_hasWay (l : Launch) (D : va_G) (cI cZ cR : ClassId) (wa w1 w2 w3 w4 w5 w6 w7 w8 w9 : Nat) (w : Ob) (x : Int32) (r : Int32) (hf : f_hasWay w x = some r) : kCr l yX4_hasWay cX4_hasWay 2 (some .boolean) { frames := 0, cells := 0, slots := 0, locals := 0 } [.ref wa, .int x] D cI cZ cR (cWeb cI wa w1 w2 w3 w4 w5 w6 w7 w8 w9 w) r := by
  refine kMrz (by decide) (Nat.le_of_ble_eq_true rfl) ?_
  intro p e s m below meth c Q hx hb hml hown hts hk hP hret ls hl
  have hK := hk.1
  have hl : lv_has ls 2 [(0, .ref wa), (1, .int x)] := hl
  rw [f_hasWay] at hf
  refine lv_iload_n hx hb dX4_hasWay_0 rfl (lv_at hl 1 rfl) ?_
  refine lv_if_lt (tgt := 16) hx hb dX4_hasWay_1 (by decide) (fun c1 => ?_) (fun c1 => ?_)
  · have hf := ite_t c1 hf
    refine lv_iconst (v := 0) hx hb dX4_hasWay_16 (by decide) ?_
    exact hret _ _ _ hf (Or.inl rfl) dX4_hasWay_17
  · have hf := ite_f c1 hf
    refine lv_iload_n hx hb dX4_hasWay_4 rfl (lv_at hl 1 rfl) ?_
    refine lv_aload_n hx hb dX4_hasWay_5 rfl (lv_at hl 0 rfl) ?_
    refine va_get (D := D) (ci := 4) (v := .int (w 0 2)) (C := RX4) (T := TX4) (N := 12) hx hb hts inT4 hown hK hP 0 rfl rfl 2 (by decide) (hts _ mT_81) (fun _ h9 => h9) rfl dX4_hasWay_6 ?_
    refine lv_icmp_ge (tgt := 16) hx hb dX4_hasWay_9 (by decide) (fun c9 => ?_) (fun c9 => ?_)
    · have hf := ite_t c9 hf
      refine lv_iconst (v := 0) hx hb dX4_hasWay_16 (by decide) ?_
      exact hret _ _ _ hf (Or.inl rfl) dX4_hasWay_17
    · have hf := ite_f c9 hf
      refine lv_iconst (v := 1) hx hb dX4_hasWay_12 (by decide) ?_
      refine lv_goto (tgt := 17) hx hb dX4_hasWay_13 (by decide) ?_
      exact hret _ _ _ hf (Or.inr rfl) dX4_hasWay_17
theorem s_yX4_join : kMS yX4_join cX4_join 3 (some .int) 2 := ⟨mT_269, mT_52, by decide +kernel⟩
theorem v_yX4_join : kMV yX4_join := ⟨mT_267, mT_268⟩
def f_join (w : Ob) (x : Int32) (y : Int32) : Option Int32 := gd (ck ((x * 8) + y) 64) (some ((w 1) (Int32.toNatClampNeg ((x * 8) + y))))
set_option maxHeartbeats 4000000 in
set_option maxRecDepth 100000 in
theorem c_join (l : Launch) (D : va_G) (cI cZ cR : ClassId) (wa w1 w2 w3 w4 w5 w6 w7 w8 w9 : Nat) (w : Ob) (x : Int32) (y : Int32) (r : Int32) (hf : f_join w x y = some r) : kCr l yX4_join cX4_join 3 (some .int) { frames := 0, cells := 0, slots := 0, locals := 0 } [.ref wa, .int x, .int y] D cI cZ cR (cWeb cI wa w1 w2 w3 w4 w5 w6 w7 w8 w9 w) r := by
  refine kMri (by decide) (Nat.le_of_ble_eq_true rfl) ?_
  intro p e s m below meth c Q hx hb hml hown hts hk hP hret ls hl
  have hK := hk.1
  have hl : lv_has ls 3 [(0, .ref wa), (1, .int x), (2, .int y)] := hl
  rw [f_join] at hf
  refine lv_aload_n hx hb dX4_join_0 rfl (lv_at hl 0 rfl) ?_
  refine va_get (D := D) (ci := 4) (v := .ref w1) (C := RX4) (T := TX4) (N := 12) hx hb hts inT4 hown hK hP 0 rfl rfl 3 (by decide) (hts _ mT_84) (fun _ h9 => h9) rfl dX4_join_1 ?_
  refine lv_iload_n hx hb dX4_join_4 rfl (lv_at hl 1 rfl) ?_
  refine lv_bipush (v := 8) hx hb dX4_join_5 (by decide) ?_
  refine lv_imul hx hb dX4_join_7 ?_
  refine lv_iload_n hx hb dX4_join_8 rfl (lv_at hl 2 rfl) ?_
  refine lv_iadd hx hb dX4_join_9 ?_
  obtain ⟨b10, hf⟩ := gd_some hf
  refine va_iald (n := 64) (f := w 1) hx hb hK hP 1 0 rfl rfl (ck_in b10) dX4_join_10 ?_
  exact hret _ _ _ hf dX4_join_11
theorem s_yX4_isBelow : kMS yX4_isBelow cX4_isBelow 3 (some .boolean) 2 := ⟨mT_293, mT_52, by decide +kernel⟩
theorem v_yX4_isBelow : kMV yX4_isBelow := ⟨mT_291, mT_292⟩
def f_isBelow (w : Ob) (x : Int32) (y : Int32) : Option Int32 := gd (ck ((x * 8) + y) 64) (if ((w 1) (Int32.toNatClampNeg ((x * 8) + y))) = y then (some 1) else (some 0))
set_option maxHeartbeats 4000000 in
set_option maxRecDepth 100000 in
theorem c_isBelow (l : Launch) (D : va_G) (cI cZ cR : ClassId) (wa w1 w2 w3 w4 w5 w6 w7 w8 w9 : Nat) (w : Ob) (x : Int32) (y : Int32) (r : Int32) (hf : f_isBelow w x y = some r) : kCr l yX4_isBelow cX4_isBelow 3 (some .boolean) { frames := 0, cells := 0, slots := 0, locals := 0 } [.ref wa, .int x, .int y] D cI cZ cR (cWeb cI wa w1 w2 w3 w4 w5 w6 w7 w8 w9 w) r := by
  refine kMrz (by decide) (Nat.le_of_ble_eq_true rfl) ?_
  intro p e s m below meth c Q hx hb hml hown hts hk hP hret ls hl
  have hK := hk.1
  have hl : lv_has ls 3 [(0, .ref wa), (1, .int x), (2, .int y)] := hl
  rw [f_isBelow] at hf
  refine lv_aload_n hx hb dX4_isBelow_0 rfl (lv_at hl 0 rfl) ?_
  refine va_get (D := D) (ci := 4) (v := .ref w1) (C := RX4) (T := TX4) (N := 12) hx hb hts inT4 hown hK hP 0 rfl rfl 3 (by decide) (hts _ mT_84) (fun _ h9 => h9) rfl dX4_isBelow_1 ?_
  refine lv_iload_n hx hb dX4_isBelow_4 rfl (lv_at hl 1 rfl) ?_
  refine lv_bipush (v := 8) hx hb dX4_isBelow_5 (by decide) ?_
  refine lv_imul hx hb dX4_isBelow_7 ?_
  refine lv_iload_n hx hb dX4_isBelow_8 rfl (lv_at hl 2 rfl) ?_
  refine lv_iadd hx hb dX4_isBelow_9 ?_
  obtain ⟨b10, hf⟩ := gd_some hf
  refine va_iald (n := 64) (f := w 1) hx hb hK hP 1 0 rfl rfl (ck_in b10) dX4_isBelow_10 ?_
  refine lv_iload_n hx hb dX4_isBelow_11 rfl (lv_at hl 2 rfl) ?_
  refine lv_icmp_ne (tgt := 19) hx hb dX4_isBelow_12 (by decide) (fun c12 => ?_) (fun c12 => ?_)
  · have hf := ite_f c12 hf
    refine lv_iconst (v := 0) hx hb dX4_isBelow_19 (by decide) ?_
    exact hret _ _ _ hf (Or.inl rfl) dX4_isBelow_20
  · have hf := ite_t c12 hf
    refine lv_iconst (v := 1) hx hb dX4_isBelow_15 (by decide) ?_
    refine lv_goto (tgt := 20) hx hb dX4_isBelow_16 (by decide) ?_
    exact hret _ _ _ hf (Or.inr rfl) dX4_isBelow_20
theorem s_yX4_isKept : kMS yX4_isKept cX4_isKept 3 (some .boolean) 1 := ⟨mT_315, mT_52, by decide +kernel⟩
theorem v_yX4_isKept : kMV yX4_isKept := ⟨mT_313, mT_314⟩
def k_isKept_2 (x2_2 : Int32) : Option Int32 := some 0
def lp_isKept_2 (w : Ob) (x : Int32) (kk0 : Int32 → Option Int32) : Nat → Int32 → Option Int32
  | 0, _ => none
  | fu2 + 1, x2_2 => if (w 0 2) ≤ x2_2 then (kk0 x2_2) else (gd (ck x2_2 20) (if ((w 5) (Int32.toNatClampNeg x2_2)) = x then (gd (ck x2_2 20) (if ((w 4) (Int32.toNatClampNeg x2_2)) < x then ((lp_isKept_2 w x kk0 fu2) (x2_2 + 1)) else (some 1))) else ((lp_isKept_2 w x kk0 fu2) (x2_2 + 1))))
def f_isKept (w : Ob) (x : Int32) : Option Int32 := lp_isKept_2 w x k_isKept_2 10000 0
set_option maxHeartbeats 4000000 in
set_option maxRecDepth 100000 in
theorem c_isKept (l : Launch) (D : va_G) (cI cZ cR : ClassId) (wa w1 w2 w3 w4 w5 w6 w7 w8 w9 : Nat) (w : Ob) (x : Int32) (r : Int32) (hf : f_isKept w x = some r) : kCr l yX4_isKept cX4_isKept 3 (some .boolean) { frames := 0, cells := 0, slots := 0, locals := 0 } [.ref wa, .int x] D cI cZ cR (cWeb cI wa w1 w2 w3 w4 w5 w6 w7 w8 w9 w) r := by
  refine kMrz (by decide) (Nat.le_of_ble_eq_true rfl) ?_
  intro p e s m below meth c Q hx hb hml hown hts hk hP hret ls hl
  have hK := hk.1
  have hl : lv_has ls 3 [(0, .ref wa), (1, .int x)] := hl
  rw [f_isKept] at hf
  refine lv_iconst (v := 0) hx hb dX4_isKept_0 (by decide) ?_
  refine lv_istore_n (lv' := [(2, .int 0), (0, .ref wa), (1, .int x)]) hx hb dX4_isKept_1 rfl hl (by decide) rfl (fun ls hl => ?_)
  have kx2 : ∀ (x2_2 : Int32) (ls : Array Slot), k_isKept_2 x2_2 = some r → lv_has ls 3 [(0, .ref wa), (1, .int x), (2, .int x2_2)] → W p l e ({ frames := 0, cells := 0, slots := 0, locals := 0 } : Room) s m ([.ref wa, .int x] : List Value).toArray below meth c s.heap [] 0 0 Q (F0 m 38 ls []) := by
    intro x2_2 ls hf hl
    rw [k_isKept_2] at hf
    refine lv_iconst (v := 0) hx hb dX4_isKept_38 (by decide) ?_
    exact hret _ _ _ hf (Or.inl rfl) dX4_isKept_39
  have lh2 : ∀ (fu2 : Nat) (x2_2 : Int32) (ls : Array Slot), lp_isKept_2 w x k_isKept_2 fu2 x2_2 = some r → lv_has ls 3 [(0, .ref wa), (1, .int x), (2, .int x2_2)] → W p l e ({ frames := 0, cells := 0, slots := 0, locals := 0 } : Room) s m ([.ref wa, .int x] : List Value).toArray below meth c s.heap [] 0 0 Q (F0 m 2 ls []) := by
    intro fu2
    induction fu2 with
    | zero => intro x2_2 ls hf hl; exact no_none hf
    | succ fu2 ih2 =>
      intro x2_2 ls hf hl
      rw [lp_isKept_2] at hf
      refine lv_iload_n hx hb dX4_isKept_2 rfl (lv_at hl 2 rfl) ?_
      refine lv_aload_n hx hb dX4_isKept_3 rfl (lv_at hl 0 rfl) ?_
      refine va_get (D := D) (ci := 4) (v := .int (w 0 2)) (C := RX4) (T := TX4) (N := 12) hx hb hts inT4 hown hK hP 0 rfl rfl 2 (by decide) (hts _ mT_81) (fun _ h9 => h9) rfl dX4_isKept_4 ?_
      refine lv_icmp_ge (tgt := 38) hx hb dX4_isKept_7 (by decide) (fun c7 => ?_) (fun c7 => ?_)
      · have hf := ite_t c7 hf
        exact kx2 x2_2 _ hf (lv_sub hl [0, 1, 2] rfl)
      · have hf := ite_f c7 hf
        refine lv_aload_n hx hb dX4_isKept_10 rfl (lv_at hl 0 rfl) ?_
        refine va_get (D := D) (ci := 4) (v := .ref w5) (C := RX4) (T := TX4) (N := 12) hx hb hts inT4 hown hK hP 0 rfl rfl 7 (by decide) (hts _ mT_94) (fun _ h9 => h9) rfl dX4_isKept_11 ?_
        refine lv_iload_n hx hb dX4_isKept_14 rfl (lv_at hl 2 rfl) ?_
        obtain ⟨b15, hf⟩ := gd_some hf
        refine va_iald (n := 20) (f := w 5) hx hb hK hP 5 0 rfl rfl (ck_in b15) dX4_isKept_15 ?_
        refine lv_iload_n hx hb dX4_isKept_16 rfl (lv_at hl 1 rfl) ?_
        refine lv_icmp_ne (tgt := 32) hx hb dX4_isKept_17 (by decide) (fun c17 => ?_) (fun c17 => ?_)
        · have hf := ite_f c17 hf
          refine lv_iinc (v := x2_2 + 1) (lv' := [(2, .int (x2_2 + 1)), (0, .ref wa), (1, .int x)]) hx hb dX4_isKept_32 hl (k := 2) rfl rfl (by decide) rfl (fun ls hl => ?_)
          refine lv_goto (tgt := 2) hx hb dX4_isKept_35 (by decide) ?_
          exact ih2 (x2_2 + 1) _ hf (lv_sub hl [1, 2, 0] rfl)
        · have hf := ite_t c17 hf
          refine lv_aload_n hx hb dX4_isKept_20 rfl (lv_at hl 0 rfl) ?_
          refine va_get (D := D) (ci := 4) (v := .ref w4) (C := RX4) (T := TX4) (N := 12) hx hb hts inT4 hown hK hP 0 rfl rfl 6 (by decide) (hts _ mT_91) (fun _ h9 => h9) rfl dX4_isKept_21 ?_
          refine lv_iload_n hx hb dX4_isKept_24 rfl (lv_at hl 2 rfl) ?_
          obtain ⟨b25, hf⟩ := gd_some hf
          refine va_iald (n := 20) (f := w 4) hx hb hK hP 4 0 rfl rfl (ck_in b25) dX4_isKept_25 ?_
          refine lv_iload_n hx hb dX4_isKept_26 rfl (lv_at hl 1 rfl) ?_
          refine lv_icmp_lt (tgt := 32) hx hb dX4_isKept_27 (by decide) (fun c27 => ?_) (fun c27 => ?_)
          · have hf := ite_t c27 hf
            refine lv_iinc (v := x2_2 + 1) (lv' := [(2, .int (x2_2 + 1)), (0, .ref wa), (1, .int x)]) hx hb dX4_isKept_32 hl (k := 2) rfl rfl (by decide) rfl (fun ls hl => ?_)
            refine lv_goto (tgt := 2) hx hb dX4_isKept_35 (by decide) ?_
            exact ih2 (x2_2 + 1) _ hf (lv_sub hl [1, 2, 0] rfl)
          · have hf := ite_f c27 hf
            refine lv_iconst (v := 1) hx hb dX4_isKept_30 (by decide) ?_
            exact hret _ _ _ hf (Or.inr rfl) dX4_isKept_31
  exact lh2 10000 0 _ hf (lv_sub hl [1, 2, 0] rfl)
theorem s_yX4_keptPlaces : kMS yX4_keptPlaces cX4_keptPlaces 3 (some .int) 0 := ⟨mT_303, mT_52, by decide +kernel⟩
theorem v_yX4_keptPlaces : kMV yX4_keptPlaces := ⟨mT_301, mT_302⟩
def k_keptPlaces_4 (x1_4 : Int32) (x2_4 : Int32) : Option Int32 := some x1_4
def lp_keptPlaces_4 (w : Ob) (kk0 : Int32 → Int32 → Option Int32) : Nat → Int32 → Int32 → Option Int32
  | 0, _, _ => none
  | fu4 + 1, x1_4, x2_4 => if (w 0 2) ≤ x2_4 then (kk0 x1_4 x2_4) else (gd (ck x2_4 20) (gd (ck x2_4 20) (if ((w 4) (Int32.toNatClampNeg x2_4)) < ((w 5) (Int32.toNatClampNeg x2_4)) then ((lp_keptPlaces_4 w kk0 fu4) x1_4 (x2_4 + 1)) else (gd (ck x2_4 20) ((lp_keptPlaces_4 w kk0 fu4) (x1_4 ||| (1 <<< (((w 5) (Int32.toNatClampNeg x2_4)) &&& 31))) (x2_4 + 1))))))
def f_keptPlaces (w : Ob) : Option Int32 := lp_keptPlaces_4 w k_keptPlaces_4 10000 0 0
set_option maxHeartbeats 4000000 in
set_option maxRecDepth 100000 in
theorem c_keptPlaces (l : Launch) (D : va_G) (cI cZ cR : ClassId) (wa w1 w2 w3 w4 w5 w6 w7 w8 w9 : Nat) (w : Ob) (r : Int32) (hf : f_keptPlaces w = some r) : kCr l yX4_keptPlaces cX4_keptPlaces 3 (some .int) { frames := 0, cells := 0, slots := 0, locals := 0 } [.ref wa] D cI cZ cR (cWeb cI wa w1 w2 w3 w4 w5 w6 w7 w8 w9 w) r := by
  refine kMri (by decide) (Nat.le_of_ble_eq_true rfl) ?_
  intro p e s m below meth c Q hx hb hml hown hts hk hP hret ls hl
  have hK := hk.1
  have hl : lv_has ls 3 [(0, .ref wa)] := hl
  rw [f_keptPlaces] at hf
  refine lv_iconst (v := 0) hx hb dX4_keptPlaces_0 (by decide) ?_
  refine lv_istore_n (lv' := [(1, .int 0), (0, .ref wa)]) hx hb dX4_keptPlaces_1 rfl hl (by decide) rfl (fun ls hl => ?_)
  refine lv_iconst (v := 0) hx hb dX4_keptPlaces_2 (by decide) ?_
  refine lv_istore_n (lv' := [(2, .int 0), (1, .int 0), (0, .ref wa)]) hx hb dX4_keptPlaces_3 rfl hl (by decide) rfl (fun ls hl => ?_)
  have kx4 : ∀ (x1_4 : Int32) (x2_4 : Int32) (ls : Array Slot), k_keptPlaces_4 x1_4 x2_4 = some r → lv_has ls 3 [(0, .ref wa), (1, .int x1_4), (2, .int x2_4)] → W p l e ({ frames := 0, cells := 0, slots := 0, locals := 0 } : Room) s m ([.ref wa] : List Value).toArray below meth c s.heap [] 0 0 Q (F0 m 44 ls []) := by
    intro x1_4 x2_4 ls hf hl
    rw [k_keptPlaces_4] at hf
    refine lv_iload_n hx hb dX4_keptPlaces_44 rfl (lv_at hl 1 rfl) ?_
    exact hret _ _ _ hf dX4_keptPlaces_45
  have lh4 : ∀ (fu4 : Nat) (x1_4 : Int32) (x2_4 : Int32) (ls : Array Slot), lp_keptPlaces_4 w k_keptPlaces_4 fu4 x1_4 x2_4 = some r → lv_has ls 3 [(0, .ref wa), (1, .int x1_4), (2, .int x2_4)] → W p l e ({ frames := 0, cells := 0, slots := 0, locals := 0 } : Room) s m ([.ref wa] : List Value).toArray below meth c s.heap [] 0 0 Q (F0 m 4 ls []) := by
    intro fu4
    induction fu4 with
    | zero => intro x1_4 x2_4 ls hf hl; exact no_none hf
    | succ fu4 ih4 =>
      intro x1_4 x2_4 ls hf hl
      rw [lp_keptPlaces_4] at hf
      refine lv_iload_n hx hb dX4_keptPlaces_4 rfl (lv_at hl 2 rfl) ?_
      refine lv_aload_n hx hb dX4_keptPlaces_5 rfl (lv_at hl 0 rfl) ?_
      refine va_get (D := D) (ci := 4) (v := .int (w 0 2)) (C := RX4) (T := TX4) (N := 12) hx hb hts inT4 hown hK hP 0 rfl rfl 2 (by decide) (hts _ mT_81) (fun _ h9 => h9) rfl dX4_keptPlaces_6 ?_
      refine lv_icmp_ge (tgt := 44) hx hb dX4_keptPlaces_9 (by decide) (fun c9 => ?_) (fun c9 => ?_)
      · have hf := ite_t c9 hf
        exact kx4 x1_4 x2_4 _ hf (lv_sub hl [0, 1, 2] rfl)
      · have hf := ite_f c9 hf
        refine lv_aload_n hx hb dX4_keptPlaces_12 rfl (lv_at hl 0 rfl) ?_
        refine va_get (D := D) (ci := 4) (v := .ref w4) (C := RX4) (T := TX4) (N := 12) hx hb hts inT4 hown hK hP 0 rfl rfl 6 (by decide) (hts _ mT_91) (fun _ h9 => h9) rfl dX4_keptPlaces_13 ?_
        refine lv_iload_n hx hb dX4_keptPlaces_16 rfl (lv_at hl 2 rfl) ?_
        obtain ⟨b17, hf⟩ := gd_some hf
        refine va_iald (n := 20) (f := w 4) hx hb hK hP 4 0 rfl rfl (ck_in b17) dX4_keptPlaces_17 ?_
        refine lv_aload_n hx hb dX4_keptPlaces_18 rfl (lv_at hl 0 rfl) ?_
        refine va_get (D := D) (ci := 4) (v := .ref w5) (C := RX4) (T := TX4) (N := 12) hx hb hts inT4 hown hK hP 0 rfl rfl 7 (by decide) (hts _ mT_94) (fun _ h9 => h9) rfl dX4_keptPlaces_19 ?_
        refine lv_iload_n hx hb dX4_keptPlaces_22 rfl (lv_at hl 2 rfl) ?_
        obtain ⟨b23, hf⟩ := gd_some hf
        refine va_iald (n := 20) (f := w 5) hx hb hK hP 5 0 rfl rfl (ck_in b23) dX4_keptPlaces_23 ?_
        refine lv_icmp_lt (tgt := 38) hx hb dX4_keptPlaces_24 (by decide) (fun c24 => ?_) (fun c24 => ?_)
        · have hf := ite_t c24 hf
          refine lv_iinc (v := x2_4 + 1) (lv' := [(2, .int (x2_4 + 1)), (0, .ref wa), (1, .int x1_4)]) hx hb dX4_keptPlaces_38 hl (k := 2) rfl rfl (by decide) rfl (fun ls hl => ?_)
          refine lv_goto (tgt := 4) hx hb dX4_keptPlaces_41 (by decide) ?_
          exact ih4 x1_4 (x2_4 + 1) _ hf (lv_sub hl [1, 2, 0] rfl)
        · have hf := ite_f c24 hf
          refine lv_iload_n hx hb dX4_keptPlaces_27 rfl (lv_at hl 1 rfl) ?_
          refine lv_iconst (v := 1) hx hb dX4_keptPlaces_28 (by decide) ?_
          refine lv_aload_n hx hb dX4_keptPlaces_29 rfl (lv_at hl 0 rfl) ?_
          refine va_get (D := D) (ci := 4) (v := .ref w5) (C := RX4) (T := TX4) (N := 12) hx hb hts inT4 hown hK hP 0 rfl rfl 7 (by decide) (hts _ mT_94) (fun _ h9 => h9) rfl dX4_keptPlaces_30 ?_
          refine lv_iload_n hx hb dX4_keptPlaces_33 rfl (lv_at hl 2 rfl) ?_
          obtain ⟨b34, hf⟩ := gd_some hf
          refine va_iald (n := 20) (f := w 5) hx hb hK hP 5 0 rfl rfl (ck_in b34) dX4_keptPlaces_34 ?_
          refine lv_ishl hx hb dX4_keptPlaces_35 ?_
          refine lv_ior hx hb dX4_keptPlaces_36 ?_
          refine lv_istore_n (lv' := [(1, .int (x1_4 ||| (1 <<< (((w 5) (Int32.toNatClampNeg x2_4)) &&& 31)))), (0, .ref wa), (2, .int x2_4)]) hx hb dX4_keptPlaces_37 rfl hl (by decide) rfl (fun ls hl => ?_)
          refine lv_iinc (v := x2_4 + 1) (lv' := [(2, .int (x2_4 + 1)), (1, .int (x1_4 ||| (1 <<< (((w 5) (Int32.toNatClampNeg x2_4)) &&& 31)))), (0, .ref wa)]) hx hb dX4_keptPlaces_38 hl (k := 2) rfl rfl (by decide) rfl (fun ls hl => ?_)
          refine lv_goto (tgt := 4) hx hb dX4_keptPlaces_41 (by decide) ?_
          exact ih4 (x1_4 ||| (1 <<< (((w 5) (Int32.toNatClampNeg x2_4)) &&& 31))) (x2_4 + 1) _ hf (lv_sub hl [2, 1, 0] rfl)
  exact lh4 10000 0 0 _ hf (lv_sub hl [2, 1, 0] rfl)
theorem s_yX4_brought : kMS yX4_brought cX4_brought 5 (some .int) 2 := ⟨mT_329, mT_52, by decide +kernel⟩
theorem v_yX4_brought : kMV yX4_brought := ⟨mT_327, mT_328⟩
def f_brought (w : Ob) (g : Nat → Int32) (x : Int32) : Option Int32 := gd (ck x 20) (gd (ck ((w 4) (Int32.toNatClampNeg x)) 10) (bd (f_valueOf (g (Int32.toNatClampNeg ((w 4) (Int32.toNatClampNeg x))))) (fun q10 => gd (ck x 20) (bd (f_isBelow w ((w 9) (Int32.toNatClampNeg x)) q10) (fun q24 => if q24 = 0 then (some 0) else (gd (ck ((x * 8) + q10) 160) (bd (f_setOf (g (Int32.toNatClampNeg ((w 4) (Int32.toNatClampNeg x))))) (fun q49 => gd (ck x 20) (gd (ck x 20) (some ((((w 6) (Int32.toNatClampNeg ((x * 8) + q10))) * 256) + ((q49 &&& (((w 8) (Int32.toNatClampNeg x)) ^^^ (-1))) ||| ((w 7) (Int32.toNatClampNeg x))))))))))))))
set_option maxHeartbeats 4000000 in
set_option maxRecDepth 100000 in
theorem c_brought (l : Launch) (D : va_G) (cI cZ cR : ClassId) (wa w1 w2 w3 w4 w5 w6 w7 w8 w9 ga : Nat) (w : Ob) (g : Nat → Int32) (x : Int32) (r : Int32) (hf : f_brought w g x = some r) : kCr l yX4_brought cX4_brought 5 (some .int) { frames := 1, cells := 0, slots := 0, locals := 22 } [.ref wa, .int x, .ref ga] D cI cZ cR (cWeb cI wa w1 w2 w3 w4 w5 w6 w7 w8 w9 w ++ (cArr cI 10 ga g)) r := by
  refine kMri (by decide) (Nat.le_of_ble_eq_true rfl) ?_
  intro p e s m below meth c Q hx hb hml hown hts hk hP hret ls hl
  have hK := hk.1
  have hl : lv_has ls 5 [(0, .ref wa), (1, .int x), (2, .ref ga)] := hl
  rw [f_brought] at hf
  refine lv_aload_n hx hb dX4_brought_0 rfl (lv_at hl 2 rfl) ?_
  refine lv_aload_n hx hb dX4_brought_1 rfl (lv_at hl 0 rfl) ?_
  refine va_get (D := D) (ci := 4) (v := .ref w4) (C := RX4) (T := TX4) (N := 12) hx hb hts inT4 hown hK hP 0 rfl rfl 6 (by decide) (hts _ mT_91) (fun _ h9 => h9) rfl dX4_brought_2 ?_
  refine lv_iload_n hx hb dX4_brought_5 rfl (lv_at hl 1 rfl) ?_
  obtain ⟨b6, hf⟩ := gd_some hf
  refine va_iald (n := 20) (f := w 4) hx hb hK hP 4 0 rfl rfl (ck_in b6) dX4_brought_6 ?_
  obtain ⟨b7, hf⟩ := gd_some hf
  refine va_iald (n := 10) (f := g) hx hb hK hP 10 0 rfl rfl (ck_in b7) dX4_brought_7 ?_
  refine lv_istore_n (lv' := [(3, .int (g (Int32.toNatClampNeg ((w 4) (Int32.toNatClampNeg x))))), (0, .ref wa), (1, .int x), (2, .ref ga)]) hx hb dX4_brought_8 rfl hl (by decide) rfl (fun ls hl => ?_)
  refine lv_iload_n hx hb dX4_brought_9 rfl (lv_at hl 0 rfl) ?_
  obtain ⟨q10, h10, hf⟩ := bd_some hf
  refine kx_rsn (As := [.int (g (Int32.toNatClampNeg ((w 4) (Int32.toNatClampNeg x))))]) (rest := []) hx hb hml hown hts hk hl.1 s_yX6_valueOf mT_321 (c_valueOf l D cI cZ cR (g (Int32.toNatClampNeg ((w 4) (Int32.toNatClampNeg x)))) _ h10) (List.mem_of_getElem? (i := 7) rfl) rfl rfl ⟨Nat.le_of_ble_eq_true rfl, Nat.le_of_ble_eq_true rfl⟩ rfl (Nat.le_of_ble_eq_true rfl) ⟨Nat.zero_le _, Nat.zero_le _⟩ dX4_brought_10 ?_
  refine lv_istore (lv' := [(4, .int q10), (3, .int (g (Int32.toNatClampNeg ((w 4) (Int32.toNatClampNeg x))))), (0, .ref wa), (1, .int x), (2, .ref ga)]) hx hb dX4_brought_13 hl (by decide) rfl (fun ls hl => ?_)
  refine lv_aload_n hx hb dX4_brought_15 rfl (lv_at hl 2 rfl) ?_
  refine lv_aload_n hx hb dX4_brought_16 rfl (lv_at hl 2 rfl) ?_
  refine va_get (D := D) (ci := 4) (v := .ref w9) (C := RX4) (T := TX4) (N := 12) hx hb hts inT4 hown hK hP 0 rfl rfl 11 (by decide) (hts _ mT_103) (fun _ h9 => h9) rfl dX4_brought_17 ?_
  refine lv_iload_n hx hb dX4_brought_20 rfl (lv_at hl 3 rfl) ?_
  obtain ⟨b21, hf⟩ := gd_some hf
  refine va_iald (n := 20) (f := w 9) hx hb hK hP 9 0 rfl rfl (ck_in b21) dX4_brought_21 ?_
  refine lv_iload hx hb dX4_brought_22 (lv_at hl 0 rfl) ?_
  obtain ⟨q24, h24, hf⟩ := bd_some hf
  refine kx_rv (As := [.int ((w 9) (Int32.toNatClampNeg x)), .int q10]) (rest := []) hx hb hml hown hts hk (hP.sub (ws' := cWeb cI wa w1 w2 w3 w4 w5 w6 w7 w8 w9 w) [0, 1, 2, 3, 4, 5, 6, 7, 8, 9] rfl) hl.1 s_yX4_isBelow v_yX4_isBelow (c_isBelow l D cI cZ cR wa w1 w2 w3 w4 w5 w6 w7 w8 w9 w ((w 9) (Int32.toNatClampNeg x)) q10 _ h24) mT_290 rfl rfl ⟨Nat.le_of_ble_eq_true rfl, Nat.le_of_ble_eq_true rfl⟩ (ci := 4) (q0 := 0) rfl rfl rfl (Nat.le_of_ble_eq_true rfl) ⟨Nat.zero_le _, Nat.zero_le _⟩ dX4_brought_24 ?_
  refine lv_if_ne (tgt := 32) hx hb dX4_brought_27 (by decide) (fun c27 => ?_) (fun c27 => ?_)
  · have hf := ite_f c27 hf
    refine lv_aload_n hx hb dX4_brought_32 rfl (lv_at hl 2 rfl) ?_
    refine va_get (D := D) (ci := 4) (v := .ref w6) (C := RX4) (T := TX4) (N := 12) hx hb hts inT4 hown hK hP 0 rfl rfl 8 (by decide) (hts _ mT_97) (fun _ h9 => h9) rfl dX4_brought_33 ?_
    refine lv_iload_n hx hb dX4_brought_36 rfl (lv_at hl 3 rfl) ?_
    refine lv_bipush (v := 8) hx hb dX4_brought_37 (by decide) ?_
    refine lv_imul hx hb dX4_brought_39 ?_
    refine lv_iload hx hb dX4_brought_40 (lv_at hl 0 rfl) ?_
    refine lv_iadd hx hb dX4_brought_42 ?_
    obtain ⟨b43, hf⟩ := gd_some hf
    refine va_iald (n := 160) (f := w 6) hx hb hK hP 6 0 rfl rfl (ck_in b43) dX4_brought_43 ?_
    refine lv_sipush (v := 256) hx hb dX4_brought_44 (by decide) ?_
    refine lv_imul hx hb dX4_brought_47 ?_
    refine lv_iload_n hx hb dX4_brought_48 rfl (lv_at hl 1 rfl) ?_
    obtain ⟨q49, h49, hf⟩ := bd_some hf
    refine kx_rsn (As := [.int (g (Int32.toNatClampNeg ((w 4) (Int32.toNatClampNeg x))))]) (rest := [.int (((w 6) (Int32.toNatClampNeg ((x * 8) + q10))) * 256)]) hx hb hml hown hts hk hl.1 s_yX6_setOf mT_324 (c_setOf l D cI cZ cR (g (Int32.toNatClampNeg ((w 4) (Int32.toNatClampNeg x)))) _ h49) (List.mem_of_getElem? (i := 8) rfl) rfl rfl ⟨Nat.le_of_ble_eq_true rfl, Nat.le_of_ble_eq_true rfl⟩ rfl (Nat.le_of_ble_eq_true rfl) ⟨Nat.zero_le _, Nat.zero_le _⟩ dX4_brought_49 ?_
    refine lv_aload_n hx hb dX4_brought_52 rfl (lv_at hl 2 rfl) ?_
    refine va_get (D := D) (ci := 4) (v := .ref w8) (C := RX4) (T := TX4) (N := 12) hx hb hts inT4 hown hK hP 0 rfl rfl 10 (by decide) (hts _ mT_101) (fun _ h9 => h9) rfl dX4_brought_53 ?_
    refine lv_iload_n hx hb dX4_brought_56 rfl (lv_at hl 3 rfl) ?_
    obtain ⟨b57, hf⟩ := gd_some hf
    refine va_iald (n := 20) (f := w 8) hx hb hK hP 8 0 rfl rfl (ck_in b57) dX4_brought_57 ?_
    refine lv_iconst (v := (-1)) hx hb dX4_brought_58 (by decide) ?_
    refine lv_ixor hx hb dX4_brought_59 ?_
    refine lv_iand hx hb dX4_brought_60 ?_
    refine lv_aload_n hx hb dX4_brought_61 rfl (lv_at hl 2 rfl) ?_
    refine va_get (D := D) (ci := 4) (v := .ref w7) (C := RX4) (T := TX4) (N := 12) hx hb hts inT4 hown hK hP 0 rfl rfl 9 (by decide) (hts _ mT_99) (fun _ h9 => h9) rfl dX4_brought_62 ?_
    refine lv_iload_n hx hb dX4_brought_65 rfl (lv_at hl 3 rfl) ?_
    obtain ⟨b66, hf⟩ := gd_some hf
    refine va_iald (n := 20) (f := w 7) hx hb hK hP 7 0 rfl rfl (ck_in b66) dX4_brought_66 ?_
    refine lv_ior hx hb dX4_brought_67 ?_
    refine lv_iadd hx hb dX4_brought_68 ?_
    exact hret _ _ _ hf dX4_brought_69
  · have hf := ite_t c27 hf
    refine lv_iconst (v := 0) hx hb dX4_brought_30 (by decide) ?_
    exact hret _ _ _ hf dX4_brought_31
theorem s_yX4_together : kMS yX4_together cX4_together 8 (some .int) 3 := ⟨mT_319, mT_52, by decide +kernel⟩
theorem v_yX4_together : kMV yX4_together := ⟨mT_317, mT_318⟩
def k_together_25 (x4_25 : Int32) (x5_25 : Int32) (x6_25 : Int32) : Option Int32 := some ((x4_25 * 256) + x5_25)
def lp_together_25 (w : Ob) (g : Nat → Int32) (x : Int32) (y : Int32) (kk0 : Int32 → Int32 → Int32 → Option Int32) : Nat → Int32 → Int32 → Int32 → Option Int32
  | 0, _, _, _ => none
  | fu25 + 1, x4_25, x5_25, x6_25 => if (w 0 2) ≤ x6_25 then (kk0 x4_25 x5_25 x6_25) else (gd (ck x6_25 20) (if ((w 5) (Int32.toNatClampNeg x6_25)) = x then (if x6_25 = y then ((lp_together_25 w g x y kk0 fu25) x4_25 x5_25 (x6_25 + 1)) else (bd (f_brought w g x6_25) (fun q55 => bd (f_valueOf q55) (fun q65 => bd (f_join w x4_25 q65) (fun q68 => bd (f_setOf q55) (fun q77 => (lp_together_25 w g x y kk0 fu25) q68 (x5_25 ||| q77) (x6_25 + 1))))))) else ((lp_together_25 w g x y kk0 fu25) x4_25 x5_25 (x6_25 + 1))))
def f_together (w : Ob) (g : Nat → Int32) (x : Int32) (y : Int32) : Option Int32 := gd (ck x 10) (bd (f_valueOf ((w 2) (Int32.toNatClampNeg x))) (fun q6 => gd (ck x 10) (bd (f_setOf ((w 2) (Int32.toNatClampNeg x))) (fun q17 => lp_together_25 w g x y k_together_25 10000 q6 q17 0))))
set_option maxHeartbeats 4000000 in
set_option maxRecDepth 100000 in
theorem c_together (l : Launch) (D : va_G) (cI cZ cR : ClassId) (wa w1 w2 w3 w4 w5 w6 w7 w8 w9 ga : Nat) (w : Ob) (g : Nat → Int32) (x : Int32) (y : Int32) (r : Int32) (hf : f_together w g x y = some r) : kCr l yX4_together cX4_together 8 (some .int) { frames := 2, cells := 0, slots := 0, locals := 46 } [.ref wa, .int x, .ref ga, .int y] D cI cZ cR (cWeb cI wa w1 w2 w3 w4 w5 w6 w7 w8 w9 w ++ (cArr cI 10 ga g)) r := by
  refine kMri (by decide) (Nat.le_of_ble_eq_true rfl) ?_
  intro p e s m below meth c Q hx hb hml hown hts hk hP hret ls hl
  have hK := hk.1
  have hl : lv_has ls 8 [(0, .ref wa), (1, .int x), (2, .ref ga), (3, .int y)] := hl
  rw [f_together] at hf
  refine lv_aload_n hx hb dX4_together_0 rfl (lv_at hl 0 rfl) ?_
  refine va_get (D := D) (ci := 4) (v := .ref w2) (C := RX4) (T := TX4) (N := 12) hx hb hts inT4 hown hK hP 0 rfl rfl 4 (by decide) (hts _ mT_86) (fun _ h9 => h9) rfl dX4_together_1 ?_
  refine lv_iload_n hx hb dX4_together_4 rfl (lv_at hl 1 rfl) ?_
  obtain ⟨b5, hf⟩ := gd_some hf
  refine va_iald (n := 10) (f := w 2) hx hb hK hP 2 0 rfl rfl (ck_in b5) dX4_together_5 ?_
  obtain ⟨q6, h6, hf⟩ := bd_some hf
  refine kx_rsn (As := [.int ((w 2) (Int32.toNatClampNeg x))]) (rest := []) hx hb hml hown hts hk hl.1 s_yX6_valueOf mT_321 (c_valueOf l D cI cZ cR ((w 2) (Int32.toNatClampNeg x)) _ h6) (List.mem_of_getElem? (i := 7) rfl) rfl rfl ⟨Nat.le_of_ble_eq_true rfl, Nat.le_of_ble_eq_true rfl⟩ rfl (Nat.le_of_ble_eq_true rfl) ⟨Nat.zero_le _, Nat.zero_le _⟩ dX4_together_6 ?_
  refine lv_istore (lv' := [(4, .int q6), (0, .ref wa), (1, .int x), (2, .ref ga), (3, .int y)]) hx hb dX4_together_9 hl (by decide) rfl (fun ls hl => ?_)
  refine lv_aload_n hx hb dX4_together_11 rfl (lv_at hl 1 rfl) ?_
  refine va_get (D := D) (ci := 4) (v := .ref w2) (C := RX4) (T := TX4) (N := 12) hx hb hts inT4 hown hK hP 0 rfl rfl 4 (by decide) (hts _ mT_86) (fun _ h9 => h9) rfl dX4_together_12 ?_
  refine lv_iload_n hx hb dX4_together_15 rfl (lv_at hl 2 rfl) ?_
  obtain ⟨b16, hf⟩ := gd_some hf
  refine va_iald (n := 10) (f := w 2) hx hb hK hP 2 0 rfl rfl (ck_in b16) dX4_together_16 ?_
  obtain ⟨q17, h17, hf⟩ := bd_some hf
  refine kx_rsn (As := [.int ((w 2) (Int32.toNatClampNeg x))]) (rest := []) hx hb hml hown hts hk hl.1 s_yX6_setOf mT_324 (c_setOf l D cI cZ cR ((w 2) (Int32.toNatClampNeg x)) _ h17) (List.mem_of_getElem? (i := 8) rfl) rfl rfl ⟨Nat.le_of_ble_eq_true rfl, Nat.le_of_ble_eq_true rfl⟩ rfl (Nat.le_of_ble_eq_true rfl) ⟨Nat.zero_le _, Nat.zero_le _⟩ dX4_together_17 ?_
  refine lv_istore (lv' := [(5, .int q17), (4, .int q6), (0, .ref wa), (1, .int x), (2, .ref ga), (3, .int y)]) hx hb dX4_together_20 hl (by decide) rfl (fun ls hl => ?_)
  refine lv_iconst (v := 0) hx hb dX4_together_22 (by decide) ?_
  refine lv_istore (lv' := [(6, .int 0), (5, .int q17), (4, .int q6), (0, .ref wa), (1, .int x), (2, .ref ga), (3, .int y)]) hx hb dX4_together_23 hl (by decide) rfl (fun ls hl => ?_)
  have kx25 : ∀ (x4_25 : Int32) (x5_25 : Int32) (x6_25 : Int32) (ls : Array Slot), k_together_25 x4_25 x5_25 x6_25 = some r → lv_has ls 8 [(0, .ref wa), (1, .int x), (2, .ref ga), (3, .int y), (4, .int x4_25), (5, .int x5_25), (6, .int x6_25)] → W p l e ({ frames := 2, cells := 0, slots := 0, locals := 46 } : Room) s m ([.ref wa, .int x, .ref ga, .int y] : List Value).toArray below meth c s.heap [] 0 0 Q (F0 m 89 ls []) := by
    intro x4_25 x5_25 x6_25 ls hf hl
    rw [k_together_25] at hf
    refine lv_iload hx hb dX4_together_89 (lv_at hl 4 rfl) ?_
    refine lv_sipush (v := 256) hx hb dX4_together_91 (by decide) ?_
    refine lv_imul hx hb dX4_together_94 ?_
    refine lv_iload hx hb dX4_together_95 (lv_at hl 5 rfl) ?_
    refine lv_iadd hx hb dX4_together_97 ?_
    exact hret _ _ _ hf dX4_together_98
  have lh25 : ∀ (fu25 : Nat) (x4_25 : Int32) (x5_25 : Int32) (x6_25 : Int32) (ls : Array Slot), lp_together_25 w g x y k_together_25 fu25 x4_25 x5_25 x6_25 = some r → lv_has ls 8 [(0, .ref wa), (1, .int x), (2, .ref ga), (3, .int y), (4, .int x4_25), (5, .int x5_25), (6, .int x6_25)] → W p l e ({ frames := 2, cells := 0, slots := 0, locals := 46 } : Room) s m ([.ref wa, .int x, .ref ga, .int y] : List Value).toArray below meth c s.heap [] 0 0 Q (F0 m 25 ls []) := by
    intro fu25
    induction fu25 with
    | zero => intro x4_25 x5_25 x6_25 ls hf hl; exact no_none hf
    | succ fu25 ih25 =>
      intro x4_25 x5_25 x6_25 ls hf hl
      rw [lp_together_25] at hf
      refine lv_iload hx hb dX4_together_25 (lv_at hl 6 rfl) ?_
      refine lv_aload_n hx hb dX4_together_27 rfl (lv_at hl 0 rfl) ?_
      refine va_get (D := D) (ci := 4) (v := .int (w 0 2)) (C := RX4) (T := TX4) (N := 12) hx hb hts inT4 hown hK hP 0 rfl rfl 2 (by decide) (hts _ mT_81) (fun _ h9 => h9) rfl dX4_together_28 ?_
      refine lv_icmp_ge (tgt := 89) hx hb dX4_together_31 (by decide) (fun c31 => ?_) (fun c31 => ?_)
      · have hf := ite_t c31 hf
        exact kx25 x4_25 x5_25 x6_25 _ hf (lv_sub hl [0, 1, 2, 3, 4, 5, 6] rfl)
      · have hf := ite_f c31 hf
        refine lv_aload_n hx hb dX4_together_34 rfl (lv_at hl 0 rfl) ?_
        refine va_get (D := D) (ci := 4) (v := .ref w5) (C := RX4) (T := TX4) (N := 12) hx hb hts inT4 hown hK hP 0 rfl rfl 7 (by decide) (hts _ mT_94) (fun _ h9 => h9) rfl dX4_together_35 ?_
        refine lv_iload hx hb dX4_together_38 (lv_at hl 6 rfl) ?_
        obtain ⟨b40, hf⟩ := gd_some hf
        refine va_iald (n := 20) (f := w 5) hx hb hK hP 5 0 rfl rfl (ck_in b40) dX4_together_40 ?_
        refine lv_iload_n hx hb dX4_together_41 rfl (lv_at hl 1 rfl) ?_
        refine lv_icmp_ne (tgt := 83) hx hb dX4_together_42 (by decide) (fun c42 => ?_) (fun c42 => ?_)
        · have hf := ite_f c42 hf
          refine lv_iinc (v := x6_25 + 1) (lv' := [(6, .int (x6_25 + 1)), (0, .ref wa), (1, .int x), (2, .ref ga), (3, .int y), (4, .int x4_25), (5, .int x5_25)]) hx hb dX4_together_83 hl (k := 6) rfl rfl (by decide) rfl (fun ls hl => ?_)
          refine lv_goto (tgt := 25) hx hb dX4_together_86 (by decide) ?_
          exact ih25 x4_25 x5_25 (x6_25 + 1) _ hf (lv_sub hl [1, 2, 3, 4, 5, 6, 0] rfl)
        · have hf := ite_t c42 hf
          refine lv_iload hx hb dX4_together_45 (lv_at hl 6 rfl) ?_
          refine lv_iload_n hx hb dX4_together_47 rfl (lv_at hl 3 rfl) ?_
          refine lv_icmp_eq (tgt := 83) hx hb dX4_together_48 (by decide) (fun c48 => ?_) (fun c48 => ?_)
          · have hf := ite_t c48 hf
            refine lv_iinc (v := x6_25 + 1) (lv' := [(6, .int (x6_25 + 1)), (0, .ref wa), (1, .int x), (2, .ref ga), (3, .int y), (4, .int x4_25), (5, .int x5_25)]) hx hb dX4_together_83 hl (k := 6) rfl rfl (by decide) rfl (fun ls hl => ?_)
            refine lv_goto (tgt := 25) hx hb dX4_together_86 (by decide) ?_
            exact ih25 x4_25 x5_25 (x6_25 + 1) _ hf (lv_sub hl [1, 2, 3, 4, 5, 6, 0] rfl)
          · have hf := ite_f c48 hf
            refine lv_aload_n hx hb dX4_together_51 rfl (lv_at hl 0 rfl) ?_
            refine lv_iload hx hb dX4_together_52 (lv_at hl 6 rfl) ?_
            refine lv_aload_n hx hb dX4_together_54 rfl (lv_at hl 2 rfl) ?_
            obtain ⟨q55, h55, hf⟩ := bd_some hf
            refine kx_rv (As := [.int x6_25, .ref ga]) (rest := []) hx hb hml hown hts hk hP hl.1 s_yX4_brought v_yX4_brought (c_brought l D cI cZ cR wa w1 w2 w3 w4 w5 w6 w7 w8 w9 ga w g x6_25 _ h55) mT_326 rfl rfl ⟨Nat.le_of_ble_eq_true rfl, Nat.le_of_ble_eq_true rfl⟩ (ci := 4) (q0 := 0) rfl rfl rfl (Nat.le_of_ble_eq_true rfl) ⟨Nat.zero_le _, Nat.zero_le _⟩ dX4_together_55 ?_
            refine lv_istore (lv' := [(7, .int q55), (0, .ref wa), (1, .int x), (2, .ref ga), (3, .int y), (4, .int x4_25), (5, .int x5_25), (6, .int x6_25)]) hx hb dX4_together_58 hl (by decide) rfl (fun ls hl => ?_)
            refine lv_aload_n hx hb dX4_together_60 rfl (lv_at hl 1 rfl) ?_
            refine lv_iload hx hb dX4_together_61 (lv_at hl 5 rfl) ?_
            refine lv_iload hx hb dX4_together_63 (lv_at hl 0 rfl) ?_
            obtain ⟨q65, h65, hf⟩ := bd_some hf
            refine kx_rsn (As := [.int q55]) (rest := [.int x4_25, .ref wa]) hx hb hml hown hts hk hl.1 s_yX6_valueOf mT_321 (c_valueOf l D cI cZ cR q55 _ h65) (List.mem_of_getElem? (i := 7) rfl) rfl rfl ⟨Nat.le_of_ble_eq_true rfl, Nat.le_of_ble_eq_true rfl⟩ rfl (Nat.le_of_ble_eq_true rfl) ⟨Nat.zero_le _, Nat.zero_le _⟩ dX4_together_65 ?_
            obtain ⟨q68, h68, hf⟩ := bd_some hf
            refine kx_rv (As := [.int x4_25, .int q65]) (rest := []) hx hb hml hown hts hk (hP.sub (ws' := cWeb cI wa w1 w2 w3 w4 w5 w6 w7 w8 w9 w) [0, 1, 2, 3, 4, 5, 6, 7, 8, 9] rfl) hl.1 s_yX4_join v_yX4_join (c_join l D cI cZ cR wa w1 w2 w3 w4 w5 w6 w7 w8 w9 w x4_25 q65 _ h68) mT_266 rfl rfl ⟨Nat.le_of_ble_eq_true rfl, Nat.le_of_ble_eq_true rfl⟩ (ci := 4) (q0 := 0) rfl rfl rfl (Nat.le_of_ble_eq_true rfl) ⟨Nat.zero_le _, Nat.zero_le _⟩ dX4_together_68 ?_
            refine lv_istore (lv' := [(4, .int q68), (7, .int q55), (0, .ref wa), (1, .int x), (2, .ref ga), (3, .int y), (5, .int x5_25), (6, .int x6_25)]) hx hb dX4_together_71 hl (by decide) rfl (fun ls hl => ?_)
            refine lv_iload hx hb dX4_together_73 (lv_at hl 6 rfl) ?_
            refine lv_iload hx hb dX4_together_75 (lv_at hl 1 rfl) ?_
            obtain ⟨q77, h77, hf⟩ := bd_some hf
            refine kx_rsn (As := [.int q55]) (rest := [.int x5_25]) hx hb hml hown hts hk hl.1 s_yX6_setOf mT_324 (c_setOf l D cI cZ cR q55 _ h77) (List.mem_of_getElem? (i := 8) rfl) rfl rfl ⟨Nat.le_of_ble_eq_true rfl, Nat.le_of_ble_eq_true rfl⟩ rfl (Nat.le_of_ble_eq_true rfl) ⟨Nat.zero_le _, Nat.zero_le _⟩ dX4_together_77 ?_
            refine lv_ior hx hb dX4_together_80 ?_
            refine lv_istore (lv' := [(5, .int (x5_25 ||| q77)), (4, .int q68), (7, .int q55), (0, .ref wa), (1, .int x), (2, .ref ga), (3, .int y), (6, .int x6_25)]) hx hb dX4_together_81 hl (by decide) rfl (fun ls hl => ?_)
            refine lv_iinc (v := x6_25 + 1) (lv' := [(6, .int (x6_25 + 1)), (5, .int (x5_25 ||| q77)), (4, .int q68), (7, .int q55), (0, .ref wa), (1, .int x), (2, .ref ga), (3, .int y)]) hx hb dX4_together_83 hl (k := 7) rfl rfl (by decide) rfl (fun ls hl => ?_)
            refine lv_goto (tgt := 25) hx hb dX4_together_86 (by decide) ?_
            exact ih25 q68 (x5_25 ||| q77) (x6_25 + 1) _ hf (lv_sub hl [4, 5, 6, 7, 2, 1, 0] rfl)
  exact lh25 10000 q6 q17 0 _ hf (lv_sub hl [3, 4, 5, 6, 2, 1, 0] rfl)
theorem s_yX4_isNoMore : kMS yX4_isNoMore cX4_isNoMore 3 (some .boolean) 2 := ⟨mT_333, mT_52, by decide +kernel⟩
theorem v_yX4_isNoMore : kMV yX4_isNoMore := ⟨mT_331, mT_332⟩
def f_isNoMore (w : Ob) (x : Int32) (y : Int32) : Option Int32 := bd (f_valueOf x) (fun q2 => bd (f_valueOf y) (fun q6 => bd (f_isBelow w q2 q6) (fun q9 => if q9 = 0 then (some 0) else (bd (f_setOf x) (fun q16 => bd (f_setOf y) (fun q20 => if (q16 &&& (q20 ^^^ (-1))) = 0 then (some 1) else (some 0)))))))
set_option maxHeartbeats 4000000 in
set_option maxRecDepth 100000 in
theorem c_isNoMore (l : Launch) (D : va_G) (cI cZ cR : ClassId) (wa w1 w2 w3 w4 w5 w6 w7 w8 w9 : Nat) (w : Ob) (x : Int32) (y : Int32) (r : Int32) (hf : f_isNoMore w x y = some r) : kCr l yX4_isNoMore cX4_isNoMore 3 (some .boolean) { frames := 1, cells := 0, slots := 0, locals := 22 } [.ref wa, .int x, .int y] D cI cZ cR (cWeb cI wa w1 w2 w3 w4 w5 w6 w7 w8 w9 w) r := by
  refine kMrz (by decide) (Nat.le_of_ble_eq_true rfl) ?_
  intro p e s m below meth c Q hx hb hml hown hts hk hP hret ls hl
  have hK := hk.1
  have hl : lv_has ls 3 [(0, .ref wa), (1, .int x), (2, .int y)] := hl
  rw [f_isNoMore] at hf
  refine lv_aload_n hx hb dX4_isNoMore_0 rfl (lv_at hl 0 rfl) ?_
  refine lv_iload_n hx hb dX4_isNoMore_1 rfl (lv_at hl 1 rfl) ?_
  obtain ⟨q2, h2, hf⟩ := bd_some hf
  refine kx_rsn (As := [.int x]) (rest := [.ref wa]) hx hb hml hown hts hk hl.1 s_yX6_valueOf mT_321 (c_valueOf l D cI cZ cR x _ h2) (List.mem_of_getElem? (i := 7) rfl) rfl rfl ⟨Nat.le_of_ble_eq_true rfl, Nat.le_of_ble_eq_true rfl⟩ rfl (Nat.le_of_ble_eq_true rfl) ⟨Nat.zero_le _, Nat.zero_le _⟩ dX4_isNoMore_2 ?_
  refine lv_iload_n hx hb dX4_isNoMore_5 rfl (lv_at hl 2 rfl) ?_
  obtain ⟨q6, h6, hf⟩ := bd_some hf
  refine kx_rsn (As := [.int y]) (rest := [.int q2, .ref wa]) hx hb hml hown hts hk hl.1 s_yX6_valueOf mT_321 (c_valueOf l D cI cZ cR y _ h6) (List.mem_of_getElem? (i := 7) rfl) rfl rfl ⟨Nat.le_of_ble_eq_true rfl, Nat.le_of_ble_eq_true rfl⟩ rfl (Nat.le_of_ble_eq_true rfl) ⟨Nat.zero_le _, Nat.zero_le _⟩ dX4_isNoMore_6 ?_
  obtain ⟨q9, h9, hf⟩ := bd_some hf
  refine kx_rv (As := [.int q2, .int q6]) (rest := []) hx hb hml hown hts hk hP hl.1 s_yX4_isBelow v_yX4_isBelow (c_isBelow l D cI cZ cR wa w1 w2 w3 w4 w5 w6 w7 w8 w9 w q2 q6 _ h9) mT_290 rfl rfl ⟨Nat.le_of_ble_eq_true rfl, Nat.le_of_ble_eq_true rfl⟩ (ci := 4) (q0 := 0) rfl rfl rfl (Nat.le_of_ble_eq_true rfl) ⟨Nat.zero_le _, Nat.zero_le _⟩ dX4_isNoMore_9 ?_
  refine lv_if_eq (tgt := 33) hx hb dX4_isNoMore_12 (by decide) (fun c12 => ?_) (fun c12 => ?_)
  · have hf := ite_t c12 hf
    refine lv_iconst (v := 0) hx hb dX4_isNoMore_33 (by decide) ?_
    exact hret _ _ _ hf (Or.inl rfl) dX4_isNoMore_34
  · have hf := ite_f c12 hf
    refine lv_iload_n hx hb dX4_isNoMore_15 rfl (lv_at hl 1 rfl) ?_
    obtain ⟨q16, h16, hf⟩ := bd_some hf
    refine kx_rsn (As := [.int x]) (rest := []) hx hb hml hown hts hk hl.1 s_yX6_setOf mT_324 (c_setOf l D cI cZ cR x _ h16) (List.mem_of_getElem? (i := 8) rfl) rfl rfl ⟨Nat.le_of_ble_eq_true rfl, Nat.le_of_ble_eq_true rfl⟩ rfl (Nat.le_of_ble_eq_true rfl) ⟨Nat.zero_le _, Nat.zero_le _⟩ dX4_isNoMore_16 ?_
    refine lv_iload_n hx hb dX4_isNoMore_19 rfl (lv_at hl 2 rfl) ?_
    obtain ⟨q20, h20, hf⟩ := bd_some hf
    refine kx_rsn (As := [.int y]) (rest := [.int q16]) hx hb hml hown hts hk hl.1 s_yX6_setOf mT_324 (c_setOf l D cI cZ cR y _ h20) (List.mem_of_getElem? (i := 8) rfl) rfl rfl ⟨Nat.le_of_ble_eq_true rfl, Nat.le_of_ble_eq_true rfl⟩ rfl (Nat.le_of_ble_eq_true rfl) ⟨Nat.zero_le _, Nat.zero_le _⟩ dX4_isNoMore_20 ?_
    refine lv_iconst (v := (-1)) hx hb dX4_isNoMore_23 (by decide) ?_
    refine lv_ixor hx hb dX4_isNoMore_24 ?_
    refine lv_iand hx hb dX4_isNoMore_25 ?_
    refine lv_if_ne (tgt := 33) hx hb dX4_isNoMore_26 (by decide) (fun c26 => ?_) (fun c26 => ?_)
    · have hf := ite_f c26 hf
      refine lv_iconst (v := 0) hx hb dX4_isNoMore_33 (by decide) ?_
      exact hret _ _ _ hf (Or.inl rfl) dX4_isNoMore_34
    · have hf := ite_t c26 hf
      refine lv_iconst (v := 1) hx hb dX4_isNoMore_29 (by decide) ?_
      refine lv_goto (tgt := 34) hx hb dX4_isNoMore_30 (by decide) ?_
      exact hret _ _ _ hf (Or.inr rfl) dX4_isNoMore_34
theorem s_yX4_joinsWithItself : kMS yX4_joinsWithItself cX4_joinsWithItself 2 (some .boolean) 0 := ⟨mT_265, mT_52, by decide +kernel⟩
theorem v_yX4_joinsWithItself : kMV yX4_joinsWithItself := ⟨mT_264, mT_1⟩
def k_joinsWithItself_2 (x1_2 : Int32) : Option Int32 := some 1
def lp_joinsWithItself_2 (w : Ob) (kk0 : Int32 → Option Int32) : Nat → Int32 → Option Int32
  | 0, _ => none
  | fu2 + 1, x1_2 => if (w 0 0) ≤ x1_2 then (kk0 x1_2) else (bd (f_join w x1_2 x1_2) (fun q13 => if q13 = x1_2 then ((lp_joinsWithItself_2 w kk0 fu2) (x1_2 + 1)) else (some 0)))
def f_joinsWithItself (w : Ob) : Option Int32 := lp_joinsWithItself_2 w k_joinsWithItself_2 10000 0
set_option maxHeartbeats 4000000 in
set_option maxRecDepth 100000 in
theorem c_joinsWithItself (l : Launch) (D : va_G) (cI cZ cR : ClassId) (wa w1 w2 w3 w4 w5 w6 w7 w8 w9 : Nat) (w : Ob) (r : Int32) (hf : f_joinsWithItself w = some r) : kCr l yX4_joinsWithItself cX4_joinsWithItself 2 (some .boolean) { frames := 1, cells := 0, slots := 0, locals := 22 } [.ref wa] D cI cZ cR (cWeb cI wa w1 w2 w3 w4 w5 w6 w7 w8 w9 w) r := by
  refine kMrz (by decide) (Nat.le_of_ble_eq_true rfl) ?_
  intro p e s m below meth c Q hx hb hml hown hts hk hP hret ls hl
  have hK := hk.1
  have hl : lv_has ls 2 [(0, .ref wa)] := hl
  rw [f_joinsWithItself] at hf
  refine lv_iconst (v := 0) hx hb dX4_joinsWithItself_0 (by decide) ?_
  refine lv_istore_n (lv' := [(1, .int 0), (0, .ref wa)]) hx hb dX4_joinsWithItself_1 rfl hl (by decide) rfl (fun ls hl => ?_)
  have kx2 : ∀ (x1_2 : Int32) (ls : Array Slot), k_joinsWithItself_2 x1_2 = some r → lv_has ls 2 [(0, .ref wa), (1, .int x1_2)] → W p l e ({ frames := 1, cells := 0, slots := 0, locals := 22 } : Room) s m ([.ref wa] : List Value).toArray below meth c s.heap [] 0 0 Q (F0 m 28 ls []) := by
    intro x1_2 ls hf hl
    rw [k_joinsWithItself_2] at hf
    refine lv_iconst (v := 1) hx hb dX4_joinsWithItself_28 (by decide) ?_
    exact hret _ _ _ hf (Or.inr rfl) dX4_joinsWithItself_29
  have lh2 : ∀ (fu2 : Nat) (x1_2 : Int32) (ls : Array Slot), lp_joinsWithItself_2 w k_joinsWithItself_2 fu2 x1_2 = some r → lv_has ls 2 [(0, .ref wa), (1, .int x1_2)] → W p l e ({ frames := 1, cells := 0, slots := 0, locals := 22 } : Room) s m ([.ref wa] : List Value).toArray below meth c s.heap [] 0 0 Q (F0 m 2 ls []) := by
    intro fu2
    induction fu2 with
    | zero => intro x1_2 ls hf hl; exact no_none hf
    | succ fu2 ih2 =>
      intro x1_2 ls hf hl
      rw [lp_joinsWithItself_2] at hf
      refine lv_iload_n hx hb dX4_joinsWithItself_2 rfl (lv_at hl 1 rfl) ?_
      refine lv_aload_n hx hb dX4_joinsWithItself_3 rfl (lv_at hl 0 rfl) ?_
      refine va_get (D := D) (ci := 4) (v := .int (w 0 0)) (C := RX4) (T := TX4) (N := 12) hx hb hts inT4 hown hK hP 0 rfl rfl 0 (by decide) (hts _ mT_75) (fun _ h9 => h9) rfl dX4_joinsWithItself_4 ?_
      refine lv_icmp_ge (tgt := 28) hx hb dX4_joinsWithItself_7 (by decide) (fun c7 => ?_) (fun c7 => ?_)
      · have hf := ite_t c7 hf
        exact kx2 x1_2 _ hf (lv_sub hl [0, 1] rfl)
      · have hf := ite_f c7 hf
        refine lv_aload_n hx hb dX4_joinsWithItself_10 rfl (lv_at hl 0 rfl) ?_
        refine lv_iload_n hx hb dX4_joinsWithItself_11 rfl (lv_at hl 1 rfl) ?_
        refine lv_iload_n hx hb dX4_joinsWithItself_12 rfl (lv_at hl 1 rfl) ?_
        obtain ⟨q13, h13, hf⟩ := bd_some hf
        refine kx_rv (As := [.int x1_2, .int x1_2]) (rest := []) hx hb hml hown hts hk hP hl.1 s_yX4_join v_yX4_join (c_join l D cI cZ cR wa w1 w2 w3 w4 w5 w6 w7 w8 w9 w x1_2 x1_2 _ h13) mT_266 rfl rfl ⟨Nat.le_of_ble_eq_true rfl, Nat.le_of_ble_eq_true rfl⟩ (ci := 4) (q0 := 0) rfl rfl rfl (Nat.le_of_ble_eq_true rfl) ⟨Nat.zero_le _, Nat.zero_le _⟩ dX4_joinsWithItself_13 ?_
        refine lv_iload_n hx hb dX4_joinsWithItself_16 rfl (lv_at hl 1 rfl) ?_
        refine lv_icmp_eq (tgt := 22) hx hb dX4_joinsWithItself_17 (by decide) (fun c17 => ?_) (fun c17 => ?_)
        · have hf := ite_t c17 hf
          refine lv_iinc (v := x1_2 + 1) (lv' := [(1, .int (x1_2 + 1)), (0, .ref wa)]) hx hb dX4_joinsWithItself_22 hl (k := 1) rfl rfl (by decide) rfl (fun ls hl => ?_)
          refine lv_goto (tgt := 2) hx hb dX4_joinsWithItself_25 (by decide) ?_
          exact ih2 (x1_2 + 1) _ hf (lv_sub hl [1, 0] rfl)
        · have hf := ite_f c17 hf
          refine lv_iconst (v := 0) hx hb dX4_joinsWithItself_20 (by decide) ?_
          exact hret _ _ _ hf (Or.inl rfl) dX4_joinsWithItself_21
  exact lh2 10000 0 _ hf (lv_sub hl [1, 0] rfl)
theorem s_yX4_joinsBothWaysAlike : kMS yX4_joinsBothWaysAlike cX4_joinsBothWaysAlike 3 (some .boolean) 0 := ⟨mT_273, mT_52, by decide +kernel⟩
theorem v_yX4_joinsBothWaysAlike : kMV yX4_joinsBothWaysAlike := ⟨mT_272, mT_2⟩
def k_joinsBothWaysAlike_2 (x1_2 : Int32) : Option Int32 := some 1
def k_joinsBothWaysAlike_12 (x1_2 : Int32) (go_L2 : Int32 → Option Int32) (x2_12 : Int32) : Option Int32 := go_L2 (x1_2 + 1)
def lp_joinsBothWaysAlike_12 (w : Ob) (x1_2 : Int32) (kk0 : Int32 → Option Int32) : Nat → Int32 → Option Int32
  | 0, _ => none
  | fu12 + 1, x2_12 => if x1_2 ≤ x2_12 then (kk0 x2_12) else (bd (f_join w x1_2 x2_12) (fun q20 => bd (f_join w x2_12 x1_2) (fun q26 => if q20 = q26 then ((lp_joinsBothWaysAlike_12 w x1_2 kk0 fu12) (x2_12 + 1)) else (some 0))))
def lp_joinsBothWaysAlike_2 (w : Ob) (kk0 : Int32 → Option Int32) : Nat → Int32 → Option Int32
  | 0, _ => none
  | fu2 + 1, x1_2 => if (w 0 0) ≤ x1_2 then (kk0 x1_2) else (lp_joinsBothWaysAlike_12 w x1_2 (k_joinsBothWaysAlike_12 x1_2 ((lp_joinsBothWaysAlike_2 w kk0 fu2))) 10000 0)
def f_joinsBothWaysAlike (w : Ob) : Option Int32 := lp_joinsBothWaysAlike_2 w k_joinsBothWaysAlike_2 10000 0
set_option maxHeartbeats 4000000 in
set_option maxRecDepth 100000 in
theorem c_joinsBothWaysAlike (l : Launch) (D : va_G) (cI cZ cR : ClassId) (wa w1 w2 w3 w4 w5 w6 w7 w8 w9 : Nat) (w : Ob) (r : Int32) (hf : f_joinsBothWaysAlike w = some r) : kCr l yX4_joinsBothWaysAlike cX4_joinsBothWaysAlike 3 (some .boolean) { frames := 1, cells := 0, slots := 0, locals := 22 } [.ref wa] D cI cZ cR (cWeb cI wa w1 w2 w3 w4 w5 w6 w7 w8 w9 w) r := by
  refine kMrz (by decide) (Nat.le_of_ble_eq_true rfl) ?_
  intro p e s m below meth c Q hx hb hml hown hts hk hP hret ls hl
  have hK := hk.1
  have hl : lv_has ls 3 [(0, .ref wa)] := hl
  rw [f_joinsBothWaysAlike] at hf
  refine lv_iconst (v := 0) hx hb dX4_joinsBothWaysAlike_0 (by decide) ?_
  refine lv_istore_n (lv' := [(1, .int 0), (0, .ref wa)]) hx hb dX4_joinsBothWaysAlike_1 rfl hl (by decide) rfl (fun ls hl => ?_)
  have kx2 : ∀ (x1_2 : Int32) (ls : Array Slot), k_joinsBothWaysAlike_2 x1_2 = some r → lv_has ls 3 [(0, .ref wa), (1, .int x1_2)] → W p l e ({ frames := 1, cells := 0, slots := 0, locals := 22 } : Room) s m ([.ref wa] : List Value).toArray below meth c s.heap [] 0 0 Q (F0 m 46 ls []) := by
    intro x1_2 ls hf hl
    rw [k_joinsBothWaysAlike_2] at hf
    refine lv_iconst (v := 1) hx hb dX4_joinsBothWaysAlike_46 (by decide) ?_
    exact hret _ _ _ hf (Or.inr rfl) dX4_joinsBothWaysAlike_47
  have lh2 : ∀ (fu2 : Nat) (x1_2 : Int32) (ls : Array Slot), lp_joinsBothWaysAlike_2 w k_joinsBothWaysAlike_2 fu2 x1_2 = some r → lv_has ls 3 [(0, .ref wa), (1, .int x1_2)] → W p l e ({ frames := 1, cells := 0, slots := 0, locals := 22 } : Room) s m ([.ref wa] : List Value).toArray below meth c s.heap [] 0 0 Q (F0 m 2 ls []) := by
    intro fu2
    induction fu2 with
    | zero => intro x1_2 ls hf hl; exact no_none hf
    | succ fu2 ih2 =>
      intro x1_2 ls hf hl
      rw [lp_joinsBothWaysAlike_2] at hf
      refine lv_iload_n hx hb dX4_joinsBothWaysAlike_2 rfl (lv_at hl 1 rfl) ?_
      refine lv_aload_n hx hb dX4_joinsBothWaysAlike_3 rfl (lv_at hl 0 rfl) ?_
      refine va_get (D := D) (ci := 4) (v := .int (w 0 0)) (C := RX4) (T := TX4) (N := 12) hx hb hts inT4 hown hK hP 0 rfl rfl 0 (by decide) (hts _ mT_75) (fun _ h9 => h9) rfl dX4_joinsBothWaysAlike_4 ?_
      refine lv_icmp_ge (tgt := 46) hx hb dX4_joinsBothWaysAlike_7 (by decide) (fun c7 => ?_) (fun c7 => ?_)
      · have hf := ite_t c7 hf
        exact kx2 x1_2 _ hf (lv_sub hl [0, 1] rfl)
      · have hf := ite_f c7 hf
        refine lv_iconst (v := 0) hx hb dX4_joinsBothWaysAlike_10 (by decide) ?_
        refine lv_istore_n (lv' := [(2, .int 0), (0, .ref wa), (1, .int x1_2)]) hx hb dX4_joinsBothWaysAlike_11 rfl hl (by decide) rfl (fun ls hl => ?_)
        have kx12 : ∀ (x2_12 : Int32) (ls : Array Slot), (k_joinsBothWaysAlike_12 x1_2 ((lp_joinsBothWaysAlike_2 w k_joinsBothWaysAlike_2 fu2))) x2_12 = some r → lv_has ls 3 [(0, .ref wa), (1, .int x1_2), (2, .int x2_12)] → W p l e ({ frames := 1, cells := 0, slots := 0, locals := 22 } : Room) s m ([.ref wa] : List Value).toArray below meth c s.heap [] 0 0 Q (F0 m 40 ls []) := by
          intro x2_12 ls hf hl
          rw [k_joinsBothWaysAlike_12] at hf
          refine lv_iinc (v := x1_2 + 1) (lv' := [(1, .int (x1_2 + 1)), (0, .ref wa), (2, .int x2_12)]) hx hb dX4_joinsBothWaysAlike_40 hl (k := 1) rfl rfl (by decide) rfl (fun ls hl => ?_)
          refine lv_goto (tgt := 2) hx hb dX4_joinsBothWaysAlike_43 (by decide) ?_
          exact ih2 (x1_2 + 1) _ hf (lv_sub hl [1, 0] rfl)
        have lh12 : ∀ (fu12 : Nat) (x2_12 : Int32) (ls : Array Slot), lp_joinsBothWaysAlike_12 w x1_2 (k_joinsBothWaysAlike_12 x1_2 ((lp_joinsBothWaysAlike_2 w k_joinsBothWaysAlike_2 fu2))) fu12 x2_12 = some r → lv_has ls 3 [(0, .ref wa), (1, .int x1_2), (2, .int x2_12)] → W p l e ({ frames := 1, cells := 0, slots := 0, locals := 22 } : Room) s m ([.ref wa] : List Value).toArray below meth c s.heap [] 0 0 Q (F0 m 12 ls []) := by
          intro fu12
          induction fu12 with
          | zero => intro x2_12 ls hf hl; exact no_none hf
          | succ fu12 ih12 =>
            intro x2_12 ls hf hl
            rw [lp_joinsBothWaysAlike_12] at hf
            refine lv_iload_n hx hb dX4_joinsBothWaysAlike_12 rfl (lv_at hl 2 rfl) ?_
            refine lv_iload_n hx hb dX4_joinsBothWaysAlike_13 rfl (lv_at hl 1 rfl) ?_
            refine lv_icmp_ge (tgt := 40) hx hb dX4_joinsBothWaysAlike_14 (by decide) (fun c14 => ?_) (fun c14 => ?_)
            · have hf := ite_t c14 hf
              exact kx12 x2_12 _ hf (lv_sub hl [0, 1, 2] rfl)
            · have hf := ite_f c14 hf
              refine lv_aload_n hx hb dX4_joinsBothWaysAlike_17 rfl (lv_at hl 0 rfl) ?_
              refine lv_iload_n hx hb dX4_joinsBothWaysAlike_18 rfl (lv_at hl 1 rfl) ?_
              refine lv_iload_n hx hb dX4_joinsBothWaysAlike_19 rfl (lv_at hl 2 rfl) ?_
              obtain ⟨q20, h20, hf⟩ := bd_some hf
              refine kx_rv (As := [.int x1_2, .int x2_12]) (rest := []) hx hb hml hown hts hk hP hl.1 s_yX4_join v_yX4_join (c_join l D cI cZ cR wa w1 w2 w3 w4 w5 w6 w7 w8 w9 w x1_2 x2_12 _ h20) mT_266 rfl rfl ⟨Nat.le_of_ble_eq_true rfl, Nat.le_of_ble_eq_true rfl⟩ (ci := 4) (q0 := 0) rfl rfl rfl (Nat.le_of_ble_eq_true rfl) ⟨Nat.zero_le _, Nat.zero_le _⟩ dX4_joinsBothWaysAlike_20 ?_
              refine lv_aload_n hx hb dX4_joinsBothWaysAlike_23 rfl (lv_at hl 0 rfl) ?_
              refine lv_iload_n hx hb dX4_joinsBothWaysAlike_24 rfl (lv_at hl 2 rfl) ?_
              refine lv_iload_n hx hb dX4_joinsBothWaysAlike_25 rfl (lv_at hl 1 rfl) ?_
              obtain ⟨q26, h26, hf⟩ := bd_some hf
              refine kx_rv (As := [.int x2_12, .int x1_2]) (rest := [.int q20]) hx hb hml hown hts hk hP hl.1 s_yX4_join v_yX4_join (c_join l D cI cZ cR wa w1 w2 w3 w4 w5 w6 w7 w8 w9 w x2_12 x1_2 _ h26) mT_266 rfl rfl ⟨Nat.le_of_ble_eq_true rfl, Nat.le_of_ble_eq_true rfl⟩ (ci := 4) (q0 := 0) rfl rfl rfl (Nat.le_of_ble_eq_true rfl) ⟨Nat.zero_le _, Nat.zero_le _⟩ dX4_joinsBothWaysAlike_26 ?_
              refine lv_icmp_eq (tgt := 34) hx hb dX4_joinsBothWaysAlike_29 (by decide) (fun c29 => ?_) (fun c29 => ?_)
              · have hf := ite_t c29 hf
                refine lv_iinc (v := x2_12 + 1) (lv' := [(2, .int (x2_12 + 1)), (0, .ref wa), (1, .int x1_2)]) hx hb dX4_joinsBothWaysAlike_34 hl (k := 2) rfl rfl (by decide) rfl (fun ls hl => ?_)
                refine lv_goto (tgt := 12) hx hb dX4_joinsBothWaysAlike_37 (by decide) ?_
                exact ih12 (x2_12 + 1) _ hf (lv_sub hl [1, 2, 0] rfl)
              · have hf := ite_f c29 hf
                refine lv_iconst (v := 0) hx hb dX4_joinsBothWaysAlike_32 (by decide) ?_
                exact hret _ _ _ hf (Or.inl rfl) dX4_joinsBothWaysAlike_33
        exact lh12 10000 0 _ hf (lv_sub hl [1, 2, 0] rfl)
  exact lh2 10000 0 _ hf (lv_sub hl [1, 0] rfl)
theorem s_yX4_joinsInAnyGroupsAlike : kMS yX4_joinsInAnyGroupsAlike cX4_joinsInAnyGroupsAlike 5 (some .boolean) 0 := ⟨mT_277, mT_52, by decide +kernel⟩
theorem v_yX4_joinsInAnyGroupsAlike : kMV yX4_joinsInAnyGroupsAlike := ⟨mT_276, mT_3⟩
def k_joinsInAnyGroupsAlike_2 (x1_2 : Int32) : Option Int32 := some 1
def k_joinsInAnyGroupsAlike_12 (x1_2 : Int32) (go_L2 : Int32 → Option Int32) (x2_12 : Int32) : Option Int32 := go_L2 (x1_2 + 1)
def k_joinsInAnyGroupsAlike_30 (x2_12 : Int32) (go_L12 : Int32 → Option Int32) (x4_30 : Int32) : Option Int32 := go_L12 (x2_12 + 1)
def lp_joinsInAnyGroupsAlike_30 (w : Ob) (x1_2 : Int32) (x2_12 : Int32) (q23 : Int32) (kk0 : Int32 → Option Int32) : Nat → Int32 → Option Int32
  | 0, _ => none
  | fu30 + 1, x4_30 => if (w 0 0) ≤ x4_30 then (kk0 x4_30) else (bd (f_join w q23 x4_30) (fun q43 => bd (f_join w x2_12 x4_30) (fun q52 => bd (f_join w x1_2 q52) (fun q55 => if q43 = q55 then ((lp_joinsInAnyGroupsAlike_30 w x1_2 x2_12 q23 kk0 fu30) (x4_30 + 1)) else (some 0)))))
def lp_joinsInAnyGroupsAlike_12 (w : Ob) (x1_2 : Int32) (kk0 : Int32 → Option Int32) : Nat → Int32 → Option Int32
  | 0, _ => none
  | fu12 + 1, x2_12 => if (w 0 0) ≤ x2_12 then (kk0 x2_12) else (bd (f_join w x1_2 x2_12) (fun q23 => lp_joinsInAnyGroupsAlike_30 w x1_2 x2_12 q23 (k_joinsInAnyGroupsAlike_30 x2_12 ((lp_joinsInAnyGroupsAlike_12 w x1_2 kk0 fu12))) 10000 0))
def lp_joinsInAnyGroupsAlike_2 (w : Ob) (kk0 : Int32 → Option Int32) : Nat → Int32 → Option Int32
  | 0, _ => none
  | fu2 + 1, x1_2 => if (w 0 0) ≤ x1_2 then (kk0 x1_2) else (lp_joinsInAnyGroupsAlike_12 w x1_2 (k_joinsInAnyGroupsAlike_12 x1_2 ((lp_joinsInAnyGroupsAlike_2 w kk0 fu2))) 10000 0)
def f_joinsInAnyGroupsAlike (w : Ob) : Option Int32 := lp_joinsInAnyGroupsAlike_2 w k_joinsInAnyGroupsAlike_2 10000 0
set_option maxHeartbeats 4000000 in
set_option maxRecDepth 100000 in
theorem c_joinsInAnyGroupsAlike (l : Launch) (D : va_G) (cI cZ cR : ClassId) (wa w1 w2 w3 w4 w5 w6 w7 w8 w9 : Nat) (w : Ob) (r : Int32) (hf : f_joinsInAnyGroupsAlike w = some r) : kCr l yX4_joinsInAnyGroupsAlike cX4_joinsInAnyGroupsAlike 5 (some .boolean) { frames := 1, cells := 0, slots := 0, locals := 22 } [.ref wa] D cI cZ cR (cWeb cI wa w1 w2 w3 w4 w5 w6 w7 w8 w9 w) r := by
  refine kMrz (by decide) (Nat.le_of_ble_eq_true rfl) ?_
  intro p e s m below meth c Q hx hb hml hown hts hk hP hret ls hl
  have hK := hk.1
  have hl : lv_has ls 5 [(0, .ref wa)] := hl
  rw [f_joinsInAnyGroupsAlike] at hf
  refine lv_iconst (v := 0) hx hb dX4_joinsInAnyGroupsAlike_0 (by decide) ?_
  refine lv_istore_n (lv' := [(1, .int 0), (0, .ref wa)]) hx hb dX4_joinsInAnyGroupsAlike_1 rfl hl (by decide) rfl (fun ls hl => ?_)
  have kx2 : ∀ (x1_2 : Int32) (ls : Array Slot), k_joinsInAnyGroupsAlike_2 x1_2 = some r → lv_has ls 5 [(0, .ref wa), (1, .int x1_2)] → W p l e ({ frames := 1, cells := 0, slots := 0, locals := 22 } : Room) s m ([.ref wa] : List Value).toArray below meth c s.heap [] 0 0 Q (F0 m 81 ls []) := by
    intro x1_2 ls hf hl
    rw [k_joinsInAnyGroupsAlike_2] at hf
    refine lv_iconst (v := 1) hx hb dX4_joinsInAnyGroupsAlike_81 (by decide) ?_
    exact hret _ _ _ hf (Or.inr rfl) dX4_joinsInAnyGroupsAlike_82
  have lh2 : ∀ (fu2 : Nat) (x1_2 : Int32) (ls : Array Slot), lp_joinsInAnyGroupsAlike_2 w k_joinsInAnyGroupsAlike_2 fu2 x1_2 = some r → lv_has ls 5 [(0, .ref wa), (1, .int x1_2)] → W p l e ({ frames := 1, cells := 0, slots := 0, locals := 22 } : Room) s m ([.ref wa] : List Value).toArray below meth c s.heap [] 0 0 Q (F0 m 2 ls []) := by
    intro fu2
    induction fu2 with
    | zero => intro x1_2 ls hf hl; exact no_none hf
    | succ fu2 ih2 =>
      intro x1_2 ls hf hl
      rw [lp_joinsInAnyGroupsAlike_2] at hf
      refine lv_iload_n hx hb dX4_joinsInAnyGroupsAlike_2 rfl (lv_at hl 1 rfl) ?_
      refine lv_aload_n hx hb dX4_joinsInAnyGroupsAlike_3 rfl (lv_at hl 0 rfl) ?_
      refine va_get (D := D) (ci := 4) (v := .int (w 0 0)) (C := RX4) (T := TX4) (N := 12) hx hb hts inT4 hown hK hP 0 rfl rfl 0 (by decide) (hts _ mT_75) (fun _ h9 => h9) rfl dX4_joinsInAnyGroupsAlike_4 ?_
      refine lv_icmp_ge (tgt := 81) hx hb dX4_joinsInAnyGroupsAlike_7 (by decide) (fun c7 => ?_) (fun c7 => ?_)
      · have hf := ite_t c7 hf
        exact kx2 x1_2 _ hf (lv_sub hl [0, 1] rfl)
      · have hf := ite_f c7 hf
        refine lv_iconst (v := 0) hx hb dX4_joinsInAnyGroupsAlike_10 (by decide) ?_
        refine lv_istore_n (lv' := [(2, .int 0), (0, .ref wa), (1, .int x1_2)]) hx hb dX4_joinsInAnyGroupsAlike_11 rfl hl (by decide) rfl (fun ls hl => ?_)
        have kx12 : ∀ (x2_12 : Int32) (ls : Array Slot), (k_joinsInAnyGroupsAlike_12 x1_2 ((lp_joinsInAnyGroupsAlike_2 w k_joinsInAnyGroupsAlike_2 fu2))) x2_12 = some r → lv_has ls 5 [(0, .ref wa), (1, .int x1_2), (2, .int x2_12)] → W p l e ({ frames := 1, cells := 0, slots := 0, locals := 22 } : Room) s m ([.ref wa] : List Value).toArray below meth c s.heap [] 0 0 Q (F0 m 75 ls []) := by
          intro x2_12 ls hf hl
          rw [k_joinsInAnyGroupsAlike_12] at hf
          refine lv_iinc (v := x1_2 + 1) (lv' := [(1, .int (x1_2 + 1)), (0, .ref wa), (2, .int x2_12)]) hx hb dX4_joinsInAnyGroupsAlike_75 hl (k := 1) rfl rfl (by decide) rfl (fun ls hl => ?_)
          refine lv_goto (tgt := 2) hx hb dX4_joinsInAnyGroupsAlike_78 (by decide) ?_
          exact ih2 (x1_2 + 1) _ hf (lv_sub hl [1, 0] rfl)
        have lh12 : ∀ (fu12 : Nat) (x2_12 : Int32) (ls : Array Slot), lp_joinsInAnyGroupsAlike_12 w x1_2 (k_joinsInAnyGroupsAlike_12 x1_2 ((lp_joinsInAnyGroupsAlike_2 w k_joinsInAnyGroupsAlike_2 fu2))) fu12 x2_12 = some r → lv_has ls 5 [(0, .ref wa), (1, .int x1_2), (2, .int x2_12)] → W p l e ({ frames := 1, cells := 0, slots := 0, locals := 22 } : Room) s m ([.ref wa] : List Value).toArray below meth c s.heap [] 0 0 Q (F0 m 12 ls []) := by
          intro fu12
          induction fu12 with
          | zero => intro x2_12 ls hf hl; exact no_none hf
          | succ fu12 ih12 =>
            intro x2_12 ls hf hl
            rw [lp_joinsInAnyGroupsAlike_12] at hf
            refine lv_iload_n hx hb dX4_joinsInAnyGroupsAlike_12 rfl (lv_at hl 2 rfl) ?_
            refine lv_aload_n hx hb dX4_joinsInAnyGroupsAlike_13 rfl (lv_at hl 0 rfl) ?_
            refine va_get (D := D) (ci := 4) (v := .int (w 0 0)) (C := RX4) (T := TX4) (N := 12) hx hb hts inT4 hown hK hP 0 rfl rfl 0 (by decide) (hts _ mT_75) (fun _ h9 => h9) rfl dX4_joinsInAnyGroupsAlike_14 ?_
            refine lv_icmp_ge (tgt := 75) hx hb dX4_joinsInAnyGroupsAlike_17 (by decide) (fun c17 => ?_) (fun c17 => ?_)
            · have hf := ite_t c17 hf
              exact kx12 x2_12 _ hf (lv_sub hl [0, 1, 2] rfl)
            · have hf := ite_f c17 hf
              refine lv_aload_n hx hb dX4_joinsInAnyGroupsAlike_20 rfl (lv_at hl 0 rfl) ?_
              refine lv_iload_n hx hb dX4_joinsInAnyGroupsAlike_21 rfl (lv_at hl 1 rfl) ?_
              refine lv_iload_n hx hb dX4_joinsInAnyGroupsAlike_22 rfl (lv_at hl 2 rfl) ?_
              obtain ⟨q23, h23, hf⟩ := bd_some hf
              refine kx_rv (As := [.int x1_2, .int x2_12]) (rest := []) hx hb hml hown hts hk hP hl.1 s_yX4_join v_yX4_join (c_join l D cI cZ cR wa w1 w2 w3 w4 w5 w6 w7 w8 w9 w x1_2 x2_12 _ h23) mT_266 rfl rfl ⟨Nat.le_of_ble_eq_true rfl, Nat.le_of_ble_eq_true rfl⟩ (ci := 4) (q0 := 0) rfl rfl rfl (Nat.le_of_ble_eq_true rfl) ⟨Nat.zero_le _, Nat.zero_le _⟩ dX4_joinsInAnyGroupsAlike_23 ?_
              refine lv_istore_n (lv' := [(3, .int q23), (0, .ref wa), (1, .int x1_2), (2, .int x2_12)]) hx hb dX4_joinsInAnyGroupsAlike_26 rfl hl (by decide) rfl (fun ls hl => ?_)
              refine lv_iconst (v := 0) hx hb dX4_joinsInAnyGroupsAlike_27 (by decide) ?_
              refine lv_istore (lv' := [(4, .int 0), (3, .int q23), (0, .ref wa), (1, .int x1_2), (2, .int x2_12)]) hx hb dX4_joinsInAnyGroupsAlike_28 hl (by decide) rfl (fun ls hl => ?_)
              have kx30 : ∀ (x4_30 : Int32) (ls : Array Slot), (k_joinsInAnyGroupsAlike_30 x2_12 ((lp_joinsInAnyGroupsAlike_12 w x1_2 (k_joinsInAnyGroupsAlike_12 x1_2 ((lp_joinsInAnyGroupsAlike_2 w k_joinsInAnyGroupsAlike_2 fu2))) fu12))) x4_30 = some r → lv_has ls 5 [(0, .ref wa), (1, .int x1_2), (2, .int x2_12), (3, .int q23), (4, .int x4_30)] → W p l e ({ frames := 1, cells := 0, slots := 0, locals := 22 } : Room) s m ([.ref wa] : List Value).toArray below meth c s.heap [] 0 0 Q (F0 m 69 ls []) := by
                intro x4_30 ls hf hl
                rw [k_joinsInAnyGroupsAlike_30] at hf
                refine lv_iinc (v := x2_12 + 1) (lv' := [(2, .int (x2_12 + 1)), (0, .ref wa), (1, .int x1_2), (3, .int q23), (4, .int x4_30)]) hx hb dX4_joinsInAnyGroupsAlike_69 hl (k := 2) rfl rfl (by decide) rfl (fun ls hl => ?_)
                refine lv_goto (tgt := 12) hx hb dX4_joinsInAnyGroupsAlike_72 (by decide) ?_
                exact ih12 (x2_12 + 1) _ hf (lv_sub hl [1, 2, 0] rfl)
              have lh30 : ∀ (fu30 : Nat) (x4_30 : Int32) (ls : Array Slot), lp_joinsInAnyGroupsAlike_30 w x1_2 x2_12 q23 (k_joinsInAnyGroupsAlike_30 x2_12 ((lp_joinsInAnyGroupsAlike_12 w x1_2 (k_joinsInAnyGroupsAlike_12 x1_2 ((lp_joinsInAnyGroupsAlike_2 w k_joinsInAnyGroupsAlike_2 fu2))) fu12))) fu30 x4_30 = some r → lv_has ls 5 [(0, .ref wa), (1, .int x1_2), (2, .int x2_12), (3, .int q23), (4, .int x4_30)] → W p l e ({ frames := 1, cells := 0, slots := 0, locals := 22 } : Room) s m ([.ref wa] : List Value).toArray below meth c s.heap [] 0 0 Q (F0 m 30 ls []) := by
                intro fu30
                induction fu30 with
                | zero => intro x4_30 ls hf hl; exact no_none hf
                | succ fu30 ih30 =>
                  intro x4_30 ls hf hl
                  rw [lp_joinsInAnyGroupsAlike_30] at hf
                  refine lv_iload hx hb dX4_joinsInAnyGroupsAlike_30 (lv_at hl 4 rfl) ?_
                  refine lv_aload_n hx hb dX4_joinsInAnyGroupsAlike_32 rfl (lv_at hl 0 rfl) ?_
                  refine va_get (D := D) (ci := 4) (v := .int (w 0 0)) (C := RX4) (T := TX4) (N := 12) hx hb hts inT4 hown hK hP 0 rfl rfl 0 (by decide) (hts _ mT_75) (fun _ h9 => h9) rfl dX4_joinsInAnyGroupsAlike_33 ?_
                  refine lv_icmp_ge (tgt := 69) hx hb dX4_joinsInAnyGroupsAlike_36 (by decide) (fun c36 => ?_) (fun c36 => ?_)
                  · have hf := ite_t c36 hf
                    exact kx30 x4_30 _ hf (lv_sub hl [0, 1, 2, 3, 4] rfl)
                  · have hf := ite_f c36 hf
                    refine lv_aload_n hx hb dX4_joinsInAnyGroupsAlike_39 rfl (lv_at hl 0 rfl) ?_
                    refine lv_iload_n hx hb dX4_joinsInAnyGroupsAlike_40 rfl (lv_at hl 3 rfl) ?_
                    refine lv_iload hx hb dX4_joinsInAnyGroupsAlike_41 (lv_at hl 4 rfl) ?_
                    obtain ⟨q43, h43, hf⟩ := bd_some hf
                    refine kx_rv (As := [.int q23, .int x4_30]) (rest := []) hx hb hml hown hts hk hP hl.1 s_yX4_join v_yX4_join (c_join l D cI cZ cR wa w1 w2 w3 w4 w5 w6 w7 w8 w9 w q23 x4_30 _ h43) mT_266 rfl rfl ⟨Nat.le_of_ble_eq_true rfl, Nat.le_of_ble_eq_true rfl⟩ (ci := 4) (q0 := 0) rfl rfl rfl (Nat.le_of_ble_eq_true rfl) ⟨Nat.zero_le _, Nat.zero_le _⟩ dX4_joinsInAnyGroupsAlike_43 ?_
                    refine lv_aload_n hx hb dX4_joinsInAnyGroupsAlike_46 rfl (lv_at hl 0 rfl) ?_
                    refine lv_iload_n hx hb dX4_joinsInAnyGroupsAlike_47 rfl (lv_at hl 1 rfl) ?_
                    refine lv_aload_n hx hb dX4_joinsInAnyGroupsAlike_48 rfl (lv_at hl 0 rfl) ?_
                    refine lv_iload_n hx hb dX4_joinsInAnyGroupsAlike_49 rfl (lv_at hl 2 rfl) ?_
                    refine lv_iload hx hb dX4_joinsInAnyGroupsAlike_50 (lv_at hl 4 rfl) ?_
                    obtain ⟨q52, h52, hf⟩ := bd_some hf
                    refine kx_rv (As := [.int x2_12, .int x4_30]) (rest := [.int x1_2, .ref wa, .int q43]) hx hb hml hown hts hk hP hl.1 s_yX4_join v_yX4_join (c_join l D cI cZ cR wa w1 w2 w3 w4 w5 w6 w7 w8 w9 w x2_12 x4_30 _ h52) mT_266 rfl rfl ⟨Nat.le_of_ble_eq_true rfl, Nat.le_of_ble_eq_true rfl⟩ (ci := 4) (q0 := 0) rfl rfl rfl (Nat.le_of_ble_eq_true rfl) ⟨Nat.zero_le _, Nat.zero_le _⟩ dX4_joinsInAnyGroupsAlike_52 ?_
                    obtain ⟨q55, h55, hf⟩ := bd_some hf
                    refine kx_rv (As := [.int x1_2, .int q52]) (rest := [.int q43]) hx hb hml hown hts hk hP hl.1 s_yX4_join v_yX4_join (c_join l D cI cZ cR wa w1 w2 w3 w4 w5 w6 w7 w8 w9 w x1_2 q52 _ h55) mT_266 rfl rfl ⟨Nat.le_of_ble_eq_true rfl, Nat.le_of_ble_eq_true rfl⟩ (ci := 4) (q0 := 0) rfl rfl rfl (Nat.le_of_ble_eq_true rfl) ⟨Nat.zero_le _, Nat.zero_le _⟩ dX4_joinsInAnyGroupsAlike_55 ?_
                    refine lv_icmp_eq (tgt := 63) hx hb dX4_joinsInAnyGroupsAlike_58 (by decide) (fun c58 => ?_) (fun c58 => ?_)
                    · have hf := ite_t c58 hf
                      refine lv_iinc (v := x4_30 + 1) (lv' := [(4, .int (x4_30 + 1)), (0, .ref wa), (1, .int x1_2), (2, .int x2_12), (3, .int q23)]) hx hb dX4_joinsInAnyGroupsAlike_63 hl (k := 4) rfl rfl (by decide) rfl (fun ls hl => ?_)
                      refine lv_goto (tgt := 30) hx hb dX4_joinsInAnyGroupsAlike_66 (by decide) ?_
                      exact ih30 (x4_30 + 1) _ hf (lv_sub hl [1, 2, 3, 4, 0] rfl)
                    · have hf := ite_f c58 hf
                      refine lv_iconst (v := 0) hx hb dX4_joinsInAnyGroupsAlike_61 (by decide) ?_
                      exact hret _ _ _ hf (Or.inl rfl) dX4_joinsInAnyGroupsAlike_62
              exact lh30 10000 0 _ hf (lv_sub hl [2, 3, 4, 1, 0] rfl)
        exact lh12 10000 0 _ hf (lv_sub hl [1, 2, 0] rfl)
  exact lh2 10000 0 _ hf (lv_sub hl [1, 0] rfl)
theorem s_yX4_joinsZeroAsNothing : kMS yX4_joinsZeroAsNothing cX4_joinsZeroAsNothing 2 (some .boolean) 0 := ⟨mT_281, mT_52, by decide +kernel⟩
theorem v_yX4_joinsZeroAsNothing : kMV yX4_joinsZeroAsNothing := ⟨mT_280, mT_4⟩
def k_joinsZeroAsNothing_2 (x1_2 : Int32) : Option Int32 := some 1
def lp_joinsZeroAsNothing_2 (w : Ob) (kk0 : Int32 → Option Int32) : Nat → Int32 → Option Int32
  | 0, _ => none
  | fu2 + 1, x1_2 => if (w 0 0) ≤ x1_2 then (kk0 x1_2) else (bd (f_join w 0 x1_2) (fun q13 => if q13 = x1_2 then ((lp_joinsZeroAsNothing_2 w kk0 fu2) (x1_2 + 1)) else (some 0)))
def f_joinsZeroAsNothing (w : Ob) : Option Int32 := lp_joinsZeroAsNothing_2 w k_joinsZeroAsNothing_2 10000 0
set_option maxHeartbeats 4000000 in
set_option maxRecDepth 100000 in
theorem c_joinsZeroAsNothing (l : Launch) (D : va_G) (cI cZ cR : ClassId) (wa w1 w2 w3 w4 w5 w6 w7 w8 w9 : Nat) (w : Ob) (r : Int32) (hf : f_joinsZeroAsNothing w = some r) : kCr l yX4_joinsZeroAsNothing cX4_joinsZeroAsNothing 2 (some .boolean) { frames := 1, cells := 0, slots := 0, locals := 22 } [.ref wa] D cI cZ cR (cWeb cI wa w1 w2 w3 w4 w5 w6 w7 w8 w9 w) r := by
  refine kMrz (by decide) (Nat.le_of_ble_eq_true rfl) ?_
  intro p e s m below meth c Q hx hb hml hown hts hk hP hret ls hl
  have hK := hk.1
  have hl : lv_has ls 2 [(0, .ref wa)] := hl
  rw [f_joinsZeroAsNothing] at hf
  refine lv_iconst (v := 0) hx hb dX4_joinsZeroAsNothing_0 (by decide) ?_
  refine lv_istore_n (lv' := [(1, .int 0), (0, .ref wa)]) hx hb dX4_joinsZeroAsNothing_1 rfl hl (by decide) rfl (fun ls hl => ?_)
  have kx2 : ∀ (x1_2 : Int32) (ls : Array Slot), k_joinsZeroAsNothing_2 x1_2 = some r → lv_has ls 2 [(0, .ref wa), (1, .int x1_2)] → W p l e ({ frames := 1, cells := 0, slots := 0, locals := 22 } : Room) s m ([.ref wa] : List Value).toArray below meth c s.heap [] 0 0 Q (F0 m 28 ls []) := by
    intro x1_2 ls hf hl
    rw [k_joinsZeroAsNothing_2] at hf
    refine lv_iconst (v := 1) hx hb dX4_joinsZeroAsNothing_28 (by decide) ?_
    exact hret _ _ _ hf (Or.inr rfl) dX4_joinsZeroAsNothing_29
  have lh2 : ∀ (fu2 : Nat) (x1_2 : Int32) (ls : Array Slot), lp_joinsZeroAsNothing_2 w k_joinsZeroAsNothing_2 fu2 x1_2 = some r → lv_has ls 2 [(0, .ref wa), (1, .int x1_2)] → W p l e ({ frames := 1, cells := 0, slots := 0, locals := 22 } : Room) s m ([.ref wa] : List Value).toArray below meth c s.heap [] 0 0 Q (F0 m 2 ls []) := by
    intro fu2
    induction fu2 with
    | zero => intro x1_2 ls hf hl; exact no_none hf
    | succ fu2 ih2 =>
      intro x1_2 ls hf hl
      rw [lp_joinsZeroAsNothing_2] at hf
      refine lv_iload_n hx hb dX4_joinsZeroAsNothing_2 rfl (lv_at hl 1 rfl) ?_
      refine lv_aload_n hx hb dX4_joinsZeroAsNothing_3 rfl (lv_at hl 0 rfl) ?_
      refine va_get (D := D) (ci := 4) (v := .int (w 0 0)) (C := RX4) (T := TX4) (N := 12) hx hb hts inT4 hown hK hP 0 rfl rfl 0 (by decide) (hts _ mT_75) (fun _ h9 => h9) rfl dX4_joinsZeroAsNothing_4 ?_
      refine lv_icmp_ge (tgt := 28) hx hb dX4_joinsZeroAsNothing_7 (by decide) (fun c7 => ?_) (fun c7 => ?_)
      · have hf := ite_t c7 hf
        exact kx2 x1_2 _ hf (lv_sub hl [0, 1] rfl)
      · have hf := ite_f c7 hf
        refine lv_aload_n hx hb dX4_joinsZeroAsNothing_10 rfl (lv_at hl 0 rfl) ?_
        refine lv_iconst (v := 0) hx hb dX4_joinsZeroAsNothing_11 (by decide) ?_
        refine lv_iload_n hx hb dX4_joinsZeroAsNothing_12 rfl (lv_at hl 1 rfl) ?_
        obtain ⟨q13, h13, hf⟩ := bd_some hf
        refine kx_rv (As := [.int 0, .int x1_2]) (rest := []) hx hb hml hown hts hk hP hl.1 s_yX4_join v_yX4_join (c_join l D cI cZ cR wa w1 w2 w3 w4 w5 w6 w7 w8 w9 w 0 x1_2 _ h13) mT_266 rfl rfl ⟨Nat.le_of_ble_eq_true rfl, Nat.le_of_ble_eq_true rfl⟩ (ci := 4) (q0 := 0) rfl rfl rfl (Nat.le_of_ble_eq_true rfl) ⟨Nat.zero_le _, Nat.zero_le _⟩ dX4_joinsZeroAsNothing_13 ?_
        refine lv_iload_n hx hb dX4_joinsZeroAsNothing_16 rfl (lv_at hl 1 rfl) ?_
        refine lv_icmp_eq (tgt := 22) hx hb dX4_joinsZeroAsNothing_17 (by decide) (fun c17 => ?_) (fun c17 => ?_)
        · have hf := ite_t c17 hf
          refine lv_iinc (v := x1_2 + 1) (lv' := [(1, .int (x1_2 + 1)), (0, .ref wa)]) hx hb dX4_joinsZeroAsNothing_22 hl (k := 1) rfl rfl (by decide) rfl (fun ls hl => ?_)
          refine lv_goto (tgt := 2) hx hb dX4_joinsZeroAsNothing_25 (by decide) ?_
          exact ih2 (x1_2 + 1) _ hf (lv_sub hl [1, 0] rfl)
        · have hf := ite_f c17 hf
          refine lv_iconst (v := 0) hx hb dX4_joinsZeroAsNothing_20 (by decide) ?_
          exact hret _ _ _ hf (Or.inl rfl) dX4_joinsZeroAsNothing_21
  exact lh2 10000 0 _ hf (lv_sub hl [1, 0] rfl)
theorem s_yX4_brokenLaw : kMS yX4_brokenLaw cX4_brokenLaw 1 (some .int) 0 := ⟨mT_261, mT_52, by decide +kernel⟩
theorem v_yX4_brokenLaw : kMV yX4_brokenLaw := ⟨mT_259, mT_260⟩
def f_brokenLaw (w : Ob) : Option Int32 := bd (f_joinsWithItself w) (fun q1 => if q1 = 0 then (some 1) else (bd (f_joinsBothWaysAlike w) (fun q10 => if q10 = 0 then (some 2) else (bd (f_joinsInAnyGroupsAlike w) (fun q19 => if q19 = 0 then (some 3) else (bd (f_joinsZeroAsNothing w) (fun q28 => if q28 = 0 then (some 4) else (some 0))))))))
set_option maxHeartbeats 4000000 in
set_option maxRecDepth 100000 in
theorem c_brokenLaw (l : Launch) (D : va_G) (cI cZ cR : ClassId) (wa w1 w2 w3 w4 w5 w6 w7 w8 w9 : Nat) (w : Ob) (r : Int32) (hf : f_brokenLaw w = some r) : kCr l yX4_brokenLaw cX4_brokenLaw 1 (some .int) { frames := 2, cells := 0, slots := 0, locals := 46 } [.ref wa] D cI cZ cR (cWeb cI wa w1 w2 w3 w4 w5 w6 w7 w8 w9 w) r := by
  refine kMri (by decide) (Nat.le_of_ble_eq_true rfl) ?_
  intro p e s m below meth c Q hx hb hml hown hts hk hP hret ls hl
  have hK := hk.1
  have hl : lv_has ls 1 [(0, .ref wa)] := hl
  rw [f_brokenLaw] at hf
  refine lv_aload_n hx hb dX4_brokenLaw_0 rfl (lv_at hl 0 rfl) ?_
  obtain ⟨q1, h1, hf⟩ := bd_some hf
  refine kx_rv (As := []) (rest := []) hx hb hml hown hts hk hP hl.1 s_yX4_joinsWithItself v_yX4_joinsWithItself (c_joinsWithItself l D cI cZ cR wa w1 w2 w3 w4 w5 w6 w7 w8 w9 w _ h1) mT_262 rfl rfl ⟨Nat.le_of_ble_eq_true rfl, Nat.le_of_ble_eq_true rfl⟩ (ci := 4) (q0 := 0) rfl rfl rfl (Nat.le_of_ble_eq_true rfl) ⟨Nat.zero_le _, Nat.zero_le _⟩ dX4_brokenLaw_1 ?_
  refine lv_if_ne (tgt := 9) hx hb dX4_brokenLaw_4 (by decide) (fun c4 => ?_) (fun c4 => ?_)
  · have hf := ite_f c4 hf
    refine lv_aload_n hx hb dX4_brokenLaw_9 rfl (lv_at hl 0 rfl) ?_
    obtain ⟨q10, h10, hf⟩ := bd_some hf
    refine kx_rv (As := []) (rest := []) hx hb hml hown hts hk hP hl.1 s_yX4_joinsBothWaysAlike v_yX4_joinsBothWaysAlike (c_joinsBothWaysAlike l D cI cZ cR wa w1 w2 w3 w4 w5 w6 w7 w8 w9 w _ h10) mT_270 rfl rfl ⟨Nat.le_of_ble_eq_true rfl, Nat.le_of_ble_eq_true rfl⟩ (ci := 4) (q0 := 0) rfl rfl rfl (Nat.le_of_ble_eq_true rfl) ⟨Nat.zero_le _, Nat.zero_le _⟩ dX4_brokenLaw_10 ?_
    refine lv_if_ne (tgt := 18) hx hb dX4_brokenLaw_13 (by decide) (fun c13 => ?_) (fun c13 => ?_)
    · have hf := ite_f c13 hf
      refine lv_aload_n hx hb dX4_brokenLaw_18 rfl (lv_at hl 0 rfl) ?_
      obtain ⟨q19, h19, hf⟩ := bd_some hf
      refine kx_rv (As := []) (rest := []) hx hb hml hown hts hk hP hl.1 s_yX4_joinsInAnyGroupsAlike v_yX4_joinsInAnyGroupsAlike (c_joinsInAnyGroupsAlike l D cI cZ cR wa w1 w2 w3 w4 w5 w6 w7 w8 w9 w _ h19) mT_274 rfl rfl ⟨Nat.le_of_ble_eq_true rfl, Nat.le_of_ble_eq_true rfl⟩ (ci := 4) (q0 := 0) rfl rfl rfl (Nat.le_of_ble_eq_true rfl) ⟨Nat.zero_le _, Nat.zero_le _⟩ dX4_brokenLaw_19 ?_
      refine lv_if_ne (tgt := 27) hx hb dX4_brokenLaw_22 (by decide) (fun c22 => ?_) (fun c22 => ?_)
      · have hf := ite_f c22 hf
        refine lv_aload_n hx hb dX4_brokenLaw_27 rfl (lv_at hl 0 rfl) ?_
        obtain ⟨q28, h28, hf⟩ := bd_some hf
        refine kx_rv (As := []) (rest := []) hx hb hml hown hts hk hP hl.1 s_yX4_joinsZeroAsNothing v_yX4_joinsZeroAsNothing (c_joinsZeroAsNothing l D cI cZ cR wa w1 w2 w3 w4 w5 w6 w7 w8 w9 w _ h28) mT_278 rfl rfl ⟨Nat.le_of_ble_eq_true rfl, Nat.le_of_ble_eq_true rfl⟩ (ci := 4) (q0 := 0) rfl rfl rfl (Nat.le_of_ble_eq_true rfl) ⟨Nat.zero_le _, Nat.zero_le _⟩ dX4_brokenLaw_28 ?_
        refine lv_if_eq (tgt := 38) hx hb dX4_brokenLaw_31 (by decide) (fun c31 => ?_) (fun c31 => ?_)
        · have hf := ite_t c31 hf
          refine lv_iconst (v := 4) hx hb dX4_brokenLaw_38 (by decide) ?_
          exact hret _ _ _ hf dX4_brokenLaw_39
        · have hf := ite_f c31 hf
          refine lv_iconst (v := 0) hx hb dX4_brokenLaw_34 (by decide) ?_
          refine lv_goto (tgt := 39) hx hb dX4_brokenLaw_35 (by decide) ?_
          exact hret _ _ _ hf dX4_brokenLaw_39
      · have hf := ite_t c22 hf
        refine lv_iconst (v := 3) hx hb dX4_brokenLaw_25 (by decide) ?_
        exact hret _ _ _ hf dX4_brokenLaw_26
    · have hf := ite_t c13 hf
      refine lv_iconst (v := 2) hx hb dX4_brokenLaw_16 (by decide) ?_
      exact hret _ _ _ hf dX4_brokenLaw_17
  · have hf := ite_t c4 hf
    refine lv_iconst (v := 1) hx hb dX4_brokenLaw_7 (by decide) ?_
    exact hret _ _ _ hf dX4_brokenLaw_8
theorem s_yX4_keepsOrder : kMS yX4_keepsOrder cX4_keepsOrder 5 (some .boolean) 1 := ⟨mT_289, mT_52, by decide +kernel⟩
theorem v_yX4_keepsOrder : kMV yX4_keepsOrder := ⟨mT_287, mT_288⟩
def k_keepsOrder_7 (x3_7 : Int32) : Option Int32 := some 1
def k_keepsOrder_18 (x3_7 : Int32) (go_L7 : Int32 → Option Int32) (x4_18 : Int32) : Option Int32 := go_L7 (x3_7 + 1)
def lp_keepsOrder_18 (w : Ob) (x : Int32) (x3_7 : Int32) (kk0 : Int32 → Option Int32) : Nat → Int32 → Option Int32
  | 0, _ => none
  | fu18 + 1, x4_18 => if (w 0 0) ≤ x4_18 then (kk0 x4_18) else (bd (f_isBelow w x3_7 x4_18) (fun q31 => if q31 = 0 then ((lp_keepsOrder_18 w x x3_7 kk0 fu18) (x4_18 + 1)) else (gd (ck ((x * 8) + x3_7) 160) (gd (ck ((x * 8) + x4_18) 160) (bd (f_isBelow w ((w 6) (Int32.toNatClampNeg ((x * 8) + x3_7))) ((w 6) (Int32.toNatClampNeg ((x * 8) + x4_18)))) (fun q55 => if q55 = 0 then (some 0) else ((lp_keepsOrder_18 w x x3_7 kk0 fu18) (x4_18 + 1))))))))
def lp_keepsOrder_7 (w : Ob) (x : Int32) (kk0 : Int32 → Option Int32) : Nat → Int32 → Option Int32
  | 0, _ => none
  | fu7 + 1, x3_7 => if (w 0 0) ≤ x3_7 then (kk0 x3_7) else (lp_keepsOrder_18 w x x3_7 (k_keepsOrder_18 x3_7 ((lp_keepsOrder_7 w x kk0 fu7))) 10000 0)
def f_keepsOrder (w : Ob) (x : Int32) : Option Int32 := lp_keepsOrder_7 w x k_keepsOrder_7 10000 0
set_option maxHeartbeats 4000000 in
set_option maxRecDepth 100000 in
theorem c_keepsOrder (l : Launch) (D : va_G) (cI cZ cR : ClassId) (wa w1 w2 w3 w4 w5 w6 w7 w8 w9 : Nat) (w : Ob) (x : Int32) (r : Int32) (hf : f_keepsOrder w x = some r) : kCr l yX4_keepsOrder cX4_keepsOrder 5 (some .boolean) { frames := 1, cells := 0, slots := 0, locals := 22 } [.ref wa, .int x] D cI cZ cR (cWeb cI wa w1 w2 w3 w4 w5 w6 w7 w8 w9 w) r := by
  refine kMrz (by decide) (Nat.le_of_ble_eq_true rfl) ?_
  intro p e s m below meth c Q hx hb hml hown hts hk hP hret ls hl
  have hK := hk.1
  have hl : lv_has ls 5 [(0, .ref wa), (1, .int x)] := hl
  rw [f_keepsOrder] at hf
  refine lv_iload_n hx hb dX4_keepsOrder_0 rfl (lv_at hl 1 rfl) ?_
  refine lv_bipush (v := 8) hx hb dX4_keepsOrder_1 (by decide) ?_
  refine lv_imul hx hb dX4_keepsOrder_3 ?_
  refine lv_istore_n (lv' := [(2, .int (x * 8)), (0, .ref wa), (1, .int x)]) hx hb dX4_keepsOrder_4 rfl hl (by decide) rfl (fun ls hl => ?_)
  refine lv_iconst (v := 0) hx hb dX4_keepsOrder_5 (by decide) ?_
  refine lv_istore_n (lv' := [(3, .int 0), (2, .int (x * 8)), (0, .ref wa), (1, .int x)]) hx hb dX4_keepsOrder_6 rfl hl (by decide) rfl (fun ls hl => ?_)
  have kx7 : ∀ (x3_7 : Int32) (ls : Array Slot), k_keepsOrder_7 x3_7 = some r → lv_has ls 5 [(0, .ref wa), (1, .int x), (2, .int (x * 8)), (3, .int x3_7)] → W p l e ({ frames := 1, cells := 0, slots := 0, locals := 22 } : Room) s m ([.ref wa, .int x] : List Value).toArray below meth c s.heap [] 0 0 Q (F0 m 75 ls []) := by
    intro x3_7 ls hf hl
    rw [k_keepsOrder_7] at hf
    refine lv_iconst (v := 1) hx hb dX4_keepsOrder_75 (by decide) ?_
    exact hret _ _ _ hf (Or.inr rfl) dX4_keepsOrder_76
  have lh7 : ∀ (fu7 : Nat) (x3_7 : Int32) (ls : Array Slot), lp_keepsOrder_7 w x k_keepsOrder_7 fu7 x3_7 = some r → lv_has ls 5 [(0, .ref wa), (1, .int x), (2, .int (x * 8)), (3, .int x3_7)] → W p l e ({ frames := 1, cells := 0, slots := 0, locals := 22 } : Room) s m ([.ref wa, .int x] : List Value).toArray below meth c s.heap [] 0 0 Q (F0 m 7 ls []) := by
    intro fu7
    induction fu7 with
    | zero => intro x3_7 ls hf hl; exact no_none hf
    | succ fu7 ih7 =>
      intro x3_7 ls hf hl
      rw [lp_keepsOrder_7] at hf
      refine lv_iload_n hx hb dX4_keepsOrder_7 rfl (lv_at hl 3 rfl) ?_
      refine lv_aload_n hx hb dX4_keepsOrder_8 rfl (lv_at hl 0 rfl) ?_
      refine va_get (D := D) (ci := 4) (v := .int (w 0 0)) (C := RX4) (T := TX4) (N := 12) hx hb hts inT4 hown hK hP 0 rfl rfl 0 (by decide) (hts _ mT_75) (fun _ h9 => h9) rfl dX4_keepsOrder_9 ?_
      refine lv_icmp_ge (tgt := 75) hx hb dX4_keepsOrder_12 (by decide) (fun c12 => ?_) (fun c12 => ?_)
      · have hf := ite_t c12 hf
        exact kx7 x3_7 _ hf (lv_sub hl [0, 1, 2, 3] rfl)
      · have hf := ite_f c12 hf
        refine lv_iconst (v := 0) hx hb dX4_keepsOrder_15 (by decide) ?_
        refine lv_istore (lv' := [(4, .int 0), (0, .ref wa), (1, .int x), (2, .int (x * 8)), (3, .int x3_7)]) hx hb dX4_keepsOrder_16 hl (by decide) rfl (fun ls hl => ?_)
        have kx18 : ∀ (x4_18 : Int32) (ls : Array Slot), (k_keepsOrder_18 x3_7 ((lp_keepsOrder_7 w x k_keepsOrder_7 fu7))) x4_18 = some r → lv_has ls 5 [(0, .ref wa), (1, .int x), (2, .int (x * 8)), (3, .int x3_7), (4, .int x4_18)] → W p l e ({ frames := 1, cells := 0, slots := 0, locals := 22 } : Room) s m ([.ref wa, .int x] : List Value).toArray below meth c s.heap [] 0 0 Q (F0 m 69 ls []) := by
          intro x4_18 ls hf hl
          rw [k_keepsOrder_18] at hf
          refine lv_iinc (v := x3_7 + 1) (lv' := [(3, .int (x3_7 + 1)), (0, .ref wa), (1, .int x), (2, .int (x * 8)), (4, .int x4_18)]) hx hb dX4_keepsOrder_69 hl (k := 3) rfl rfl (by decide) rfl (fun ls hl => ?_)
          refine lv_goto (tgt := 7) hx hb dX4_keepsOrder_72 (by decide) ?_
          exact ih7 (x3_7 + 1) _ hf (lv_sub hl [1, 2, 3, 0] rfl)
        have lh18 : ∀ (fu18 : Nat) (x4_18 : Int32) (ls : Array Slot), lp_keepsOrder_18 w x x3_7 (k_keepsOrder_18 x3_7 ((lp_keepsOrder_7 w x k_keepsOrder_7 fu7))) fu18 x4_18 = some r → lv_has ls 5 [(0, .ref wa), (1, .int x), (2, .int (x * 8)), (3, .int x3_7), (4, .int x4_18)] → W p l e ({ frames := 1, cells := 0, slots := 0, locals := 22 } : Room) s m ([.ref wa, .int x] : List Value).toArray below meth c s.heap [] 0 0 Q (F0 m 18 ls []) := by
          intro fu18
          induction fu18 with
          | zero => intro x4_18 ls hf hl; exact no_none hf
          | succ fu18 ih18 =>
            intro x4_18 ls hf hl
            rw [lp_keepsOrder_18] at hf
            refine lv_iload hx hb dX4_keepsOrder_18 (lv_at hl 4 rfl) ?_
            refine lv_aload_n hx hb dX4_keepsOrder_20 rfl (lv_at hl 0 rfl) ?_
            refine va_get (D := D) (ci := 4) (v := .int (w 0 0)) (C := RX4) (T := TX4) (N := 12) hx hb hts inT4 hown hK hP 0 rfl rfl 0 (by decide) (hts _ mT_75) (fun _ h9 => h9) rfl dX4_keepsOrder_21 ?_
            refine lv_icmp_ge (tgt := 69) hx hb dX4_keepsOrder_24 (by decide) (fun c24 => ?_) (fun c24 => ?_)
            · have hf := ite_t c24 hf
              exact kx18 x4_18 _ hf (lv_sub hl [0, 1, 2, 3, 4] rfl)
            · have hf := ite_f c24 hf
              refine lv_aload_n hx hb dX4_keepsOrder_27 rfl (lv_at hl 0 rfl) ?_
              refine lv_iload_n hx hb dX4_keepsOrder_28 rfl (lv_at hl 3 rfl) ?_
              refine lv_iload hx hb dX4_keepsOrder_29 (lv_at hl 4 rfl) ?_
              obtain ⟨q31, h31, hf⟩ := bd_some hf
              refine kx_rv (As := [.int x3_7, .int x4_18]) (rest := []) hx hb hml hown hts hk hP hl.1 s_yX4_isBelow v_yX4_isBelow (c_isBelow l D cI cZ cR wa w1 w2 w3 w4 w5 w6 w7 w8 w9 w x3_7 x4_18 _ h31) mT_290 rfl rfl ⟨Nat.le_of_ble_eq_true rfl, Nat.le_of_ble_eq_true rfl⟩ (ci := 4) (q0 := 0) rfl rfl rfl (Nat.le_of_ble_eq_true rfl) ⟨Nat.zero_le _, Nat.zero_le _⟩ dX4_keepsOrder_31 ?_
              refine lv_if_eq (tgt := 63) hx hb dX4_keepsOrder_34 (by decide) (fun c34 => ?_) (fun c34 => ?_)
              · have hf := ite_t c34 hf
                refine lv_iinc (v := x4_18 + 1) (lv' := [(4, .int (x4_18 + 1)), (0, .ref wa), (1, .int x), (2, .int (x * 8)), (3, .int x3_7)]) hx hb dX4_keepsOrder_63 hl (k := 4) rfl rfl (by decide) rfl (fun ls hl => ?_)
                refine lv_goto (tgt := 18) hx hb dX4_keepsOrder_66 (by decide) ?_
                exact ih18 (x4_18 + 1) _ hf (lv_sub hl [1, 2, 3, 4, 0] rfl)
              · have hf := ite_f c34 hf
                refine lv_aload_n hx hb dX4_keepsOrder_37 rfl (lv_at hl 0 rfl) ?_
                refine lv_aload_n hx hb dX4_keepsOrder_38 rfl (lv_at hl 0 rfl) ?_
                refine va_get (D := D) (ci := 4) (v := .ref w6) (C := RX4) (T := TX4) (N := 12) hx hb hts inT4 hown hK hP 0 rfl rfl 8 (by decide) (hts _ mT_97) (fun _ h9 => h9) rfl dX4_keepsOrder_39 ?_
                refine lv_iload_n hx hb dX4_keepsOrder_42 rfl (lv_at hl 2 rfl) ?_
                refine lv_iload_n hx hb dX4_keepsOrder_43 rfl (lv_at hl 3 rfl) ?_
                refine lv_iadd hx hb dX4_keepsOrder_44 ?_
                obtain ⟨b45, hf⟩ := gd_some hf
                refine va_iald (n := 160) (f := w 6) hx hb hK hP 6 0 rfl rfl (ck_in b45) dX4_keepsOrder_45 ?_
                refine lv_aload_n hx hb dX4_keepsOrder_46 rfl (lv_at hl 0 rfl) ?_
                refine va_get (D := D) (ci := 4) (v := .ref w6) (C := RX4) (T := TX4) (N := 12) hx hb hts inT4 hown hK hP 0 rfl rfl 8 (by decide) (hts _ mT_97) (fun _ h9 => h9) rfl dX4_keepsOrder_47 ?_
                refine lv_iload_n hx hb dX4_keepsOrder_50 rfl (lv_at hl 2 rfl) ?_
                refine lv_iload hx hb dX4_keepsOrder_51 (lv_at hl 4 rfl) ?_
                refine lv_iadd hx hb dX4_keepsOrder_53 ?_
                obtain ⟨b54, hf⟩ := gd_some hf
                refine va_iald (n := 160) (f := w 6) hx hb hK hP 6 0 rfl rfl (ck_in b54) dX4_keepsOrder_54 ?_
                obtain ⟨q55, h55, hf⟩ := bd_some hf
                refine kx_rv (As := [.int ((w 6) (Int32.toNatClampNeg ((x * 8) + x3_7))), .int ((w 6) (Int32.toNatClampNeg ((x * 8) + x4_18)))]) (rest := []) hx hb hml hown hts hk hP hl.1 s_yX4_isBelow v_yX4_isBelow (c_isBelow l D cI cZ cR wa w1 w2 w3 w4 w5 w6 w7 w8 w9 w ((w 6) (Int32.toNatClampNeg ((x * 8) + x3_7))) ((w 6) (Int32.toNatClampNeg ((x * 8) + x4_18))) _ h55) mT_290 rfl rfl ⟨Nat.le_of_ble_eq_true rfl, Nat.le_of_ble_eq_true rfl⟩ (ci := 4) (q0 := 0) rfl rfl rfl (Nat.le_of_ble_eq_true rfl) ⟨Nat.zero_le _, Nat.zero_le _⟩ dX4_keepsOrder_55 ?_
                refine lv_if_ne (tgt := 63) hx hb dX4_keepsOrder_58 (by decide) (fun c58 => ?_) (fun c58 => ?_)
                · have hf := ite_f c58 hf
                  refine lv_iinc (v := x4_18 + 1) (lv' := [(4, .int (x4_18 + 1)), (0, .ref wa), (1, .int x), (2, .int (x * 8)), (3, .int x3_7)]) hx hb dX4_keepsOrder_63 hl (k := 4) rfl rfl (by decide) rfl (fun ls hl => ?_)
                  refine lv_goto (tgt := 18) hx hb dX4_keepsOrder_66 (by decide) ?_
                  exact ih18 (x4_18 + 1) _ hf (lv_sub hl [1, 2, 3, 4, 0] rfl)
                · have hf := ite_t c58 hf
                  refine lv_iconst (v := 0) hx hb dX4_keepsOrder_61 (by decide) ?_
                  exact hret _ _ _ hf (Or.inl rfl) dX4_keepsOrder_62
        exact lh18 10000 0 _ hf (lv_sub hl [1, 2, 3, 4, 0] rfl)
  exact lh7 10000 0 _ hf (lv_sub hl [2, 3, 1, 0] rfl)
theorem s_yX4_firstOutOfOrder : kMS yX4_firstOutOfOrder cX4_firstOutOfOrder 2 (some .int) 0 := ⟨mT_285, mT_52, by decide +kernel⟩
theorem v_yX4_firstOutOfOrder : kMV yX4_firstOutOfOrder := ⟨mT_283, mT_284⟩
def k_firstOutOfOrder_2 (x1_2 : Int32) : Option Int32 := some (-1)
def lp_firstOutOfOrder_2 (w : Ob) (kk0 : Int32 → Option Int32) : Nat → Int32 → Option Int32
  | 0, _ => none
  | fu2 + 1, x1_2 => if (w 0 2) ≤ x1_2 then (kk0 x1_2) else (bd (f_keepsOrder w x1_2) (fun q12 => if q12 = 0 then (some x1_2) else ((lp_firstOutOfOrder_2 w kk0 fu2) (x1_2 + 1))))
def f_firstOutOfOrder (w : Ob) : Option Int32 := lp_firstOutOfOrder_2 w k_firstOutOfOrder_2 10000 0
set_option maxHeartbeats 4000000 in
set_option maxRecDepth 100000 in
theorem c_firstOutOfOrder (l : Launch) (D : va_G) (cI cZ cR : ClassId) (wa w1 w2 w3 w4 w5 w6 w7 w8 w9 : Nat) (w : Ob) (r : Int32) (hf : f_firstOutOfOrder w = some r) : kCr l yX4_firstOutOfOrder cX4_firstOutOfOrder 2 (some .int) { frames := 2, cells := 0, slots := 0, locals := 46 } [.ref wa] D cI cZ cR (cWeb cI wa w1 w2 w3 w4 w5 w6 w7 w8 w9 w) r := by
  refine kMri (by decide) (Nat.le_of_ble_eq_true rfl) ?_
  intro p e s m below meth c Q hx hb hml hown hts hk hP hret ls hl
  have hK := hk.1
  have hl : lv_has ls 2 [(0, .ref wa)] := hl
  rw [f_firstOutOfOrder] at hf
  refine lv_iconst (v := 0) hx hb dX4_firstOutOfOrder_0 (by decide) ?_
  refine lv_istore_n (lv' := [(1, .int 0), (0, .ref wa)]) hx hb dX4_firstOutOfOrder_1 rfl hl (by decide) rfl (fun ls hl => ?_)
  have kx2 : ∀ (x1_2 : Int32) (ls : Array Slot), k_firstOutOfOrder_2 x1_2 = some r → lv_has ls 2 [(0, .ref wa), (1, .int x1_2)] → W p l e ({ frames := 2, cells := 0, slots := 0, locals := 46 } : Room) s m ([.ref wa] : List Value).toArray below meth c s.heap [] 0 0 Q (F0 m 26 ls []) := by
    intro x1_2 ls hf hl
    rw [k_firstOutOfOrder_2] at hf
    refine lv_iconst (v := (-1)) hx hb dX4_firstOutOfOrder_26 (by decide) ?_
    exact hret _ _ _ hf dX4_firstOutOfOrder_27
  have lh2 : ∀ (fu2 : Nat) (x1_2 : Int32) (ls : Array Slot), lp_firstOutOfOrder_2 w k_firstOutOfOrder_2 fu2 x1_2 = some r → lv_has ls 2 [(0, .ref wa), (1, .int x1_2)] → W p l e ({ frames := 2, cells := 0, slots := 0, locals := 46 } : Room) s m ([.ref wa] : List Value).toArray below meth c s.heap [] 0 0 Q (F0 m 2 ls []) := by
    intro fu2
    induction fu2 with
    | zero => intro x1_2 ls hf hl; exact no_none hf
    | succ fu2 ih2 =>
      intro x1_2 ls hf hl
      rw [lp_firstOutOfOrder_2] at hf
      refine lv_iload_n hx hb dX4_firstOutOfOrder_2 rfl (lv_at hl 1 rfl) ?_
      refine lv_aload_n hx hb dX4_firstOutOfOrder_3 rfl (lv_at hl 0 rfl) ?_
      refine va_get (D := D) (ci := 4) (v := .int (w 0 2)) (C := RX4) (T := TX4) (N := 12) hx hb hts inT4 hown hK hP 0 rfl rfl 2 (by decide) (hts _ mT_81) (fun _ h9 => h9) rfl dX4_firstOutOfOrder_4 ?_
      refine lv_icmp_ge (tgt := 26) hx hb dX4_firstOutOfOrder_7 (by decide) (fun c7 => ?_) (fun c7 => ?_)
      · have hf := ite_t c7 hf
        exact kx2 x1_2 _ hf (lv_sub hl [0, 1] rfl)
      · have hf := ite_f c7 hf
        refine lv_aload_n hx hb dX4_firstOutOfOrder_10 rfl (lv_at hl 0 rfl) ?_
        refine lv_iload_n hx hb dX4_firstOutOfOrder_11 rfl (lv_at hl 1 rfl) ?_
        obtain ⟨q12, h12, hf⟩ := bd_some hf
        refine kx_rv (As := [.int x1_2]) (rest := []) hx hb hml hown hts hk hP hl.1 s_yX4_keepsOrder v_yX4_keepsOrder (c_keepsOrder l D cI cZ cR wa w1 w2 w3 w4 w5 w6 w7 w8 w9 w x1_2 _ h12) mT_286 rfl rfl ⟨Nat.le_of_ble_eq_true rfl, Nat.le_of_ble_eq_true rfl⟩ (ci := 4) (q0 := 0) rfl rfl rfl (Nat.le_of_ble_eq_true rfl) ⟨Nat.zero_le _, Nat.zero_le _⟩ dX4_firstOutOfOrder_12 ?_
        refine lv_if_ne (tgt := 20) hx hb dX4_firstOutOfOrder_15 (by decide) (fun c15 => ?_) (fun c15 => ?_)
        · have hf := ite_f c15 hf
          refine lv_iinc (v := x1_2 + 1) (lv' := [(1, .int (x1_2 + 1)), (0, .ref wa)]) hx hb dX4_firstOutOfOrder_20 hl (k := 1) rfl rfl (by decide) rfl (fun ls hl => ?_)
          refine lv_goto (tgt := 2) hx hb dX4_firstOutOfOrder_23 (by decide) ?_
          exact ih2 (x1_2 + 1) _ hf (lv_sub hl [1, 0] rfl)
        · have hf := ite_t c15 hf
          refine lv_iload_n hx hb dX4_firstOutOfOrder_18 rfl (lv_at hl 1 rfl) ?_
          exact hret _ _ _ hf dX4_firstOutOfOrder_19
  exact lh2 10000 0 _ hf (lv_sub hl [1, 0] rfl)
theorem s_yX4_isWell : kMS yX4_isWell cX4_isWell 1 (some .boolean) 0 := ⟨mT_297, mT_52, by decide +kernel⟩
theorem v_yX4_isWell : kMV yX4_isWell := ⟨mT_295, mT_296⟩
def f_isWell (w : Ob) : Option Int32 := bd (f_brokenLaw w) (fun q1 => if q1 = 0 then (bd (f_firstOutOfOrder w) (fun q8 => if q8 = (-1) then (some 1) else (some 0))) else (some 0))
set_option maxHeartbeats 4000000 in
set_option maxRecDepth 100000 in
theorem c_isWell (l : Launch) (D : va_G) (cI cZ cR : ClassId) (wa w1 w2 w3 w4 w5 w6 w7 w8 w9 : Nat) (w : Ob) (r : Int32) (hf : f_isWell w = some r) : kCr l yX4_isWell cX4_isWell 1 (some .boolean) { frames := 3, cells := 0, slots := 0, locals := 67 } [.ref wa] D cI cZ cR (cWeb cI wa w1 w2 w3 w4 w5 w6 w7 w8 w9 w) r := by
  refine kMrz (by decide) (Nat.le_of_ble_eq_true rfl) ?_
  intro p e s m below meth c Q hx hb hml hown hts hk hP hret ls hl
  have hK := hk.1
  have hl : lv_has ls 1 [(0, .ref wa)] := hl
  rw [f_isWell] at hf
  refine lv_aload_n hx hb dX4_isWell_0 rfl (lv_at hl 0 rfl) ?_
  obtain ⟨q1, h1, hf⟩ := bd_some hf
  refine kx_rv (As := []) (rest := []) hx hb hml hown hts hk hP hl.1 s_yX4_brokenLaw v_yX4_brokenLaw (c_brokenLaw l D cI cZ cR wa w1 w2 w3 w4 w5 w6 w7 w8 w9 w _ h1) mT_298 rfl rfl ⟨Nat.le_of_ble_eq_true rfl, Nat.le_of_ble_eq_true rfl⟩ (ci := 4) (q0 := 0) rfl rfl rfl (Nat.le_of_ble_eq_true rfl) ⟨Nat.zero_le _, Nat.zero_le _⟩ dX4_isWell_1 ?_
  refine lv_if_ne (tgt := 19) hx hb dX4_isWell_4 (by decide) (fun c4 => ?_) (fun c4 => ?_)
  · have hf := ite_f c4 hf
    refine lv_iconst (v := 0) hx hb dX4_isWell_19 (by decide) ?_
    exact hret _ _ _ hf (Or.inl rfl) dX4_isWell_20
  · have hf := ite_t c4 hf
    refine lv_aload_n hx hb dX4_isWell_7 rfl (lv_at hl 0 rfl) ?_
    obtain ⟨q8, h8, hf⟩ := bd_some hf
    refine kx_rv (As := []) (rest := []) hx hb hml hown hts hk hP hl.1 s_yX4_firstOutOfOrder v_yX4_firstOutOfOrder (c_firstOutOfOrder l D cI cZ cR wa w1 w2 w3 w4 w5 w6 w7 w8 w9 w _ h8) mT_299 rfl rfl ⟨Nat.le_of_ble_eq_true rfl, Nat.le_of_ble_eq_true rfl⟩ (ci := 4) (q0 := 0) rfl rfl rfl (Nat.le_of_ble_eq_true rfl) ⟨Nat.zero_le _, Nat.zero_le _⟩ dX4_isWell_8 ?_
    refine lv_iconst (v := (-1)) hx hb dX4_isWell_11 (by decide) ?_
    refine lv_icmp_ne (tgt := 19) hx hb dX4_isWell_12 (by decide) (fun c12 => ?_) (fun c12 => ?_)
    · have hf := ite_f c12 hf
      refine lv_iconst (v := 0) hx hb dX4_isWell_19 (by decide) ?_
      exact hret _ _ _ hf (Or.inl rfl) dX4_isWell_20
    · have hf := ite_t c12 hf
      refine lv_iconst (v := 1) hx hb dX4_isWell_15 (by decide) ?_
      refine lv_goto (tgt := 20) hx hb dX4_isWell_16 (by decide) ?_
      exact hret _ _ _ hf (Or.inr rfl) dX4_isWell_20
