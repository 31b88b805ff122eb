theorem s_yX5_isWaiting : kMS yX5_isWaiting cX5_isWaiting 3 (some .boolean) 1 := ⟨mT_362, mT_56, by decide +kernel⟩
theorem v_yX5_isWaiting : kMV yX5_isWaiting := ⟨mT_361, mT_10⟩
def k_isWaiting_2 (x2_2 : Int32) : Option Int32 := some 0
def lp_isWaiting_2 (wk : Ob) (x : Int32) (kk0 : Int32 → Option Int32) : Nat → Int32 → Option Int32
  | 0, _ => none
  | fu2 + 1, x2_2 => if (wk 0 0) ≤ x2_2 then (kk0 x2_2) else (gd (ck x2_2 10) (if ((wk 2) (Int32.toNatClampNeg x2_2)) = x then (some 1) else ((lp_isWaiting_2 wk x kk0 fu2) (x2_2 + 1))))
def f_isWaiting (wk : Ob) (x : Int32) : Option Int32 := lp_isWaiting_2 wk x k_isWaiting_2 10000 0
set_option maxHeartbeats 4000000 in
set_option maxRecDepth 100000 in
theorem c_isWaiting (l : Launch) (D : va_G) (cI cZ cR : ClassId) (wka wk1 wk2 : Nat) (wk : Ob) (x : Int32) (r : Int32) (hf : f_isWaiting wk x = some r) : kCr l yX5_isWaiting cX5_isWaiting 3 (some .boolean) { frames := 0, cells := 0, slots := 0, locals := 0 } [.ref wka, .int x] D cI cZ cR (cWork cI wka wk1 wk2 wk) r := by
  refine kMrz (by decide) (Nat.le_of_ble_eq_true rfl) ?_
  intro p e s m below meth c Q hx hb hml hown hts hk hP hret ls hl
  have hK := hk.1
  have hl : lv_has ls 3 [(0, .ref wka), (1, .int x)] := hl
  rw [f_isWaiting] at hf
  refine lv_iconst (v := 0) hx hb dX5_isWaiting_0 (by decide) ?_
  refine lv_istore_n (lv' := [(2, .int 0), (0, .ref wka), (1, .int x)]) hx hb dX5_isWaiting_1 rfl hl (by decide) rfl (fun ls hl => ?_)
  have kx2 : ∀ (x2_2 : Int32) (ls : Array Slot), k_isWaiting_2 x2_2 = some r → lv_has ls 3 [(0, .ref wka), (1, .int x), (2, .int x2_2)] → W p l e ({ frames := 0, cells := 0, slots := 0, locals := 0 } : Room) s m ([.ref wka, .int x] : List Value).toArray below meth c s.heap [] 0 0 Q (F0 m 28 ls []) := by
    intro x2_2 ls hf hl
    rw [k_isWaiting_2] at hf
    refine lv_iconst (v := 0) hx hb dX5_isWaiting_28 (by decide) ?_
    exact hret _ _ _ hf (Or.inl rfl) dX5_isWaiting_29
  have lh2 : ∀ (fu2 : Nat) (x2_2 : Int32) (ls : Array Slot), lp_isWaiting_2 wk x k_isWaiting_2 fu2 x2_2 = some r → lv_has ls 3 [(0, .ref wka), (1, .int x), (2, .int x2_2)] → W p l e ({ frames := 0, cells := 0, slots := 0, locals := 0 } : Room) s m ([.ref wka, .int x] : List Value).toArray below meth c s.heap [] 0 0 Q (F0 m 2 ls []) := by
    intro fu2
    induction fu2 with
    | zero => intro x2_2 ls hf hl; exact no_none hf
    | succ fu2 ih2 =>
      intro x2_2 ls hf hl
      rw [lp_isWaiting_2] at hf
      refine lv_iload_n hx hb dX5_isWaiting_2 rfl (lv_at hl 2 rfl) ?_
      refine lv_aload_n hx hb dX5_isWaiting_3 rfl (lv_at hl 0 rfl) ?_
      refine va_get (D := D) (ci := 5) (v := .int (wk 0 0)) (C := RX5) (T := TX5) (N := 3) hx hb hts inT5 hown hK hP 0 rfl rfl 2 (by decide) (hts _ mT_196) (fun _ h9 => h9) rfl dX5_isWaiting_4 ?_
      refine lv_icmp_ge (tgt := 28) hx hb dX5_isWaiting_7 (by decide) (fun c7 => ?_) (fun c7 => ?_)
      · have hf := ite_t c7 hf
        exact kx2 x2_2 _ hf (lv_sub hl [0, 1, 2] rfl)
      · have hf := ite_f c7 hf
        refine lv_aload_n hx hb dX5_isWaiting_10 rfl (lv_at hl 0 rfl) ?_
        refine va_get (D := D) (ci := 5) (v := .ref wk2) (C := RX5) (T := TX5) (N := 3) hx hb hts inT5 hown hK hP 0 rfl rfl 1 (by decide) (hts _ mT_195) (fun _ h9 => h9) rfl dX5_isWaiting_11 ?_
        refine lv_iload_n hx hb dX5_isWaiting_14 rfl (lv_at hl 2 rfl) ?_
        obtain ⟨b15, hf⟩ := gd_some hf
        refine va_iald (n := 10) (f := wk 2) hx hb hK hP 2 0 rfl rfl (ck_in b15) dX5_isWaiting_15 ?_
        refine lv_iload_n hx hb dX5_isWaiting_16 rfl (lv_at hl 1 rfl) ?_
        refine lv_icmp_ne (tgt := 22) hx hb dX5_isWaiting_17 (by decide) (fun c17 => ?_) (fun c17 => ?_)
        · have hf := ite_f c17 hf
          refine lv_iinc (v := x2_2 + 1) (lv' := [(2, .int (x2_2 + 1)), (0, .ref wka), (1, .int x)]) hx hb dX5_isWaiting_22 hl (k := 2) rfl rfl (by decide) rfl (fun ls hl => ?_)
          refine lv_goto (tgt := 2) hx hb dX5_isWaiting_25 (by decide) ?_
          exact ih2 (x2_2 + 1) _ hf (lv_sub hl [1, 2, 0] rfl)
        · have hf := ite_t c17 hf
          refine lv_iconst (v := 1) hx hb dX5_isWaiting_20 (by decide) ?_
          exact hret _ _ _ hf (Or.inr rfl) dX5_isWaiting_21
  exact lh2 10000 0 _ hf (lv_sub hl [1, 2, 0] rfl)
theorem s_yX5_leastWaiting : kMS yX5_leastWaiting cX5_leastWaiting 3 (some .int) 0 := ⟨mT_353, mT_56, by decide +kernel⟩
theorem v_yX5_leastWaiting : kMV yX5_leastWaiting := ⟨mT_352, mT_8⟩
def k_leastWaiting_4 (x1_4 : Int32) (x2_4 : Int32) : Option Int32 := some x1_4
def lp_leastWaiting_4 (wk : Ob) (kk0 : Int32 → Int32 → Option Int32) : Nat → Int32 → Int32 → Option Int32
  | 0, _, _ => none
  | fu4 + 1, x1_4, x2_4 => if (wk 0 0) ≤ x2_4 then (kk0 x1_4 x2_4) else (gd (ck x2_4 10) (gd (ck x1_4 10) (if ((wk 2) (Int32.toNatClampNeg x1_4)) ≤ ((wk 2) (Int32.toNatClampNeg x2_4)) then ((lp_leastWaiting_4 wk kk0 fu4) x1_4 (x2_4 + 1)) else ((lp_leastWaiting_4 wk kk0 fu4) x2_4 (x2_4 + 1)))))
def f_leastWaiting (wk : Ob) : Option Int32 := lp_leastWaiting_4 wk k_leastWaiting_4 10000 0 1
set_option maxHeartbeats 4000000 in
set_option maxRecDepth 100000 in
theorem c_leastWaiting (l : Launch) (D : va_G) (cI cZ cR : ClassId) (wka wk1 wk2 : Nat) (wk : Ob) (r : Int32) (hf : f_leastWaiting wk = some r) : kCr l yX5_leastWaiting cX5_leastWaiting 3 (some .int) { frames := 0, cells := 0, slots := 0, locals := 0 } [.ref wka] D cI cZ cR (cWork cI wka wk1 wk2 wk) r := by
  refine kMri (by decide) (Nat.le_of_ble_eq_true rfl) ?_
  intro p e s m below meth c Q hx hb hml hown hts hk hP hret ls hl
  have hK := hk.1
  have hl : lv_has ls 3 [(0, .ref wka)] := hl
  rw [f_leastWaiting] at hf
  refine lv_iconst (v := 0) hx hb dX5_leastWaiting_0 (by decide) ?_
  refine lv_istore_n (lv' := [(1, .int 0), (0, .ref wka)]) hx hb dX5_leastWaiting_1 rfl hl (by decide) rfl (fun ls hl => ?_)
  refine lv_iconst (v := 1) hx hb dX5_leastWaiting_2 (by decide) ?_
  refine lv_istore_n (lv' := [(2, .int 1), (1, .int 0), (0, .ref wka)]) hx hb dX5_leastWaiting_3 rfl hl (by decide) rfl (fun ls hl => ?_)
  have kx4 : ∀ (x1_4 : Int32) (x2_4 : Int32) (ls : Array Slot), k_leastWaiting_4 x1_4 x2_4 = some r → lv_has ls 3 [(0, .ref wka), (1, .int x1_4), (2, .int x2_4)] → W p l e ({ frames := 0, cells := 0, slots := 0, locals := 0 } : Room) s m ([.ref wka] : List Value).toArray below meth c s.heap [] 0 0 Q (F0 m 35 ls []) := by
    intro x1_4 x2_4 ls hf hl
    rw [k_leastWaiting_4] at hf
    refine lv_iload_n hx hb dX5_leastWaiting_35 rfl (lv_at hl 1 rfl) ?_
    exact hret _ _ _ hf dX5_leastWaiting_36
  have lh4 : ∀ (fu4 : Nat) (x1_4 : Int32) (x2_4 : Int32) (ls : Array Slot), lp_leastWaiting_4 wk k_leastWaiting_4 fu4 x1_4 x2_4 = some r → lv_has ls 3 [(0, .ref wka), (1, .int x1_4), (2, .int x2_4)] → W p l e ({ frames := 0, cells := 0, slots := 0, locals := 0 } : Room) s m ([.ref wka] : List Value).toArray below meth c s.heap [] 0 0 Q (F0 m 4 ls []) := by
    intro fu4
    induction fu4 with
    | zero => intro x1_4 x2_4 ls hf hl; exact no_none hf
    | succ fu4 ih4 =>
      intro x1_4 x2_4 ls hf hl
      rw [lp_leastWaiting_4] at hf
      refine lv_iload_n hx hb dX5_leastWaiting_4 rfl (lv_at hl 2 rfl) ?_
      refine lv_aload_n hx hb dX5_leastWaiting_5 rfl (lv_at hl 0 rfl) ?_
      refine va_get (D := D) (ci := 5) (v := .int (wk 0 0)) (C := RX5) (T := TX5) (N := 3) hx hb hts inT5 hown hK hP 0 rfl rfl 2 (by decide) (hts _ mT_196) (fun _ h9 => h9) rfl dX5_leastWaiting_6 ?_
      refine lv_icmp_ge (tgt := 35) hx hb dX5_leastWaiting_9 (by decide) (fun c9 => ?_) (fun c9 => ?_)
      · have hf := ite_t c9 hf
        exact kx4 x1_4 x2_4 _ hf (lv_sub hl [0, 1, 2] rfl)
      · have hf := ite_f c9 hf
        refine lv_aload_n hx hb dX5_leastWaiting_12 rfl (lv_at hl 0 rfl) ?_
        refine va_get (D := D) (ci := 5) (v := .ref wk2) (C := RX5) (T := TX5) (N := 3) hx hb hts inT5 hown hK hP 0 rfl rfl 1 (by decide) (hts _ mT_195) (fun _ h9 => h9) rfl dX5_leastWaiting_13 ?_
        refine lv_iload_n hx hb dX5_leastWaiting_16 rfl (lv_at hl 2 rfl) ?_
        obtain ⟨b17, hf⟩ := gd_some hf
        refine va_iald (n := 10) (f := wk 2) hx hb hK hP 2 0 rfl rfl (ck_in b17) dX5_leastWaiting_17 ?_
        refine lv_aload_n hx hb dX5_leastWaiting_18 rfl (lv_at hl 0 rfl) ?_
        refine va_get (D := D) (ci := 5) (v := .ref wk2) (C := RX5) (T := TX5) (N := 3) hx hb hts inT5 hown hK hP 0 rfl rfl 1 (by decide) (hts _ mT_195) (fun _ h9 => h9) rfl dX5_leastWaiting_19 ?_
        refine lv_iload_n hx hb dX5_leastWaiting_22 rfl (lv_at hl 1 rfl) ?_
        obtain ⟨b23, hf⟩ := gd_some hf
        refine va_iald (n := 10) (f := wk 2) hx hb hK hP 2 0 rfl rfl (ck_in b23) dX5_leastWaiting_23 ?_
        refine lv_icmp_ge (tgt := 29) hx hb dX5_leastWaiting_24 (by decide) (fun c24 => ?_) (fun c24 => ?_)
        · have hf := ite_t c24 hf
          refine lv_iinc (v := x2_4 + 1) (lv' := [(2, .int (x2_4 + 1)), (0, .ref wka), (1, .int x1_4)]) hx hb dX5_leastWaiting_29 hl (k := 2) rfl rfl (by decide) rfl (fun ls hl => ?_)
          refine lv_goto (tgt := 4) hx hb dX5_leastWaiting_32 (by decide) ?_
          exact ih4 x1_4 (x2_4 + 1) _ hf (lv_sub hl [1, 2, 0] rfl)
        · have hf := ite_f c24 hf
          refine lv_iload_n hx hb dX5_leastWaiting_27 rfl (lv_at hl 2 rfl) ?_
          refine lv_istore_n (lv' := [(1, .int x2_4), (0, .ref wka), (2, .int x2_4)]) hx hb dX5_leastWaiting_28 rfl hl (by decide) rfl (fun ls hl => ?_)
          refine lv_iinc (v := x2_4 + 1) (lv' := [(2, .int (x2_4 + 1)), (1, .int x2_4), (0, .ref wka)]) hx hb dX5_leastWaiting_29 hl (k := 2) rfl rfl (by decide) rfl (fun ls hl => ?_)
          refine lv_goto (tgt := 4) hx hb dX5_leastWaiting_32 (by decide) ?_
          exact ih4 x2_4 (x2_4 + 1) _ hf (lv_sub hl [2, 1, 0] rfl)
  exact lh4 10000 0 1 _ hf (lv_sub hl [2, 1, 0] rfl)
theorem s_yX5_takeNext : kMS yX5_takeNext cX5_takeNext 5 (some .int) 1 := ⟨mT_349, mT_56, by decide +kernel⟩
theorem v_yX5_takeNext : kMV yX5_takeNext := ⟨mT_348, mT_7⟩
def k_takeNext_47 (wk : Ob) (x4_47 : Int32) (wk_47 : Ob) : Option (Int32 × Ob) := some ((wk 2) (Int32.toNatClampNeg ((wk 0 0) - 1)), wk_47)
def lp_takeNext_47 (kk0 : Int32 → Ob → Option (Int32 × Ob)) : Nat → Int32 → Ob → Option (Int32 × Ob)
  | 0, _, _ => none
  | fu47 + 1, x4_47, wk_47 => if (wk_47 0 0) ≤ x4_47 then (kk0 x4_47 wk_47) else (gd (ck (x4_47 + 1) 10) (gd (ck x4_47 10) ((lp_takeNext_47 kk0 fu47) (x4_47 + 1) (sA wk_47 2 (upd (wk_47 2) (Int32.toNatClampNeg x4_47) ((wk_47 2) (Int32.toNatClampNeg (x4_47 + 1))))))))
def k_takeNext_47_v1 (wk : Ob) (x4_47 : Int32) (wk_47 : Ob) : Option (Int32 × Ob) := some ((wk 2) (Int32.toNatClampNeg 0), wk_47)
def k_takeNext_47_v2 (wk : Ob) (q5 : Int32) (x4_47 : Int32) (wk_47 : Ob) : Option (Int32 × Ob) := some ((wk 2) (Int32.toNatClampNeg q5), wk_47)
def f_takeNext (wk : Ob) (x : Int32) : Option (Int32 × Ob) := if x = 0 then (bd (f_leastWaiting wk) (fun q5 => gd (ck q5 10) (lp_takeNext_47 (k_takeNext_47_v2 wk q5) 10000 q5 (sI wk 0 ((wk 0 0) - 1))))) else (if x = 1 then (lp_takeNext_47 (k_takeNext_47_v1 wk) 10000 0 (sI wk 0 ((wk 0 0) - 1))) else (gd (ck ((wk 0 0) - 1) 10) (lp_takeNext_47 (k_takeNext_47 wk) 10000 ((wk 0 0) - 1) (sI wk 0 ((wk 0 0) - 1)))))
set_option maxHeartbeats 4000000 in
set_option maxRecDepth 100000 in
theorem c_takeNext (l : Launch) (D : va_G) (cI cZ cR : ClassId) (wka wk1 wk2 : Nat) (wk : Ob) (x : Int32) (sz : Nat) (r : Int32) (u : Ob) (hf : f_takeNext wk x = some (r, u)) : kCi l yX5_takeNext cX5_takeNext 5 (some .int) { frames := 1, cells := 0, slots := 0, locals := 22 } [.ref wka, .int x] D cI cZ cR (cWork cI wka wk1 wk2 wk) sz (cWork cI wka wk1 wk2 u) r := by
  refine kMwi (wf := (fun u : Ob => cWork cI wka wk1 wk2 u)) (u := u) (by decide) (Nat.le_of_ble_eq_true rfl) ?_
  intro p e s m below meth c Q A hx hb hml hown hts hk hP hD hA hS hret ls hl
  have hS0 := hS
  have hK := hk.1
  have hl : lv_has ls 5 [(0, .ref wka), (1, .int x)] := hl
  rw [f_takeNext] at hf
  refine lv_iload_n hx hb dX5_takeNext_0 rfl (lv_at hl 1 rfl) ?_
  refine lv_if_ne (tgt := 11) hx hb dX5_takeNext_1 (by decide) (fun c1 => ?_) (fun c1 => ?_)
  · have hf := ite_f c1 hf
    refine lv_iload_n hx hb dX5_takeNext_11 rfl (lv_at hl 1 rfl) ?_
    refine lv_iconst (v := 1) hx hb dX5_takeNext_12 (by decide) ?_
    refine lv_icmp_ne (tgt := 20) hx hb dX5_takeNext_13 (by decide) (fun c13 => ?_) (fun c13 => ?_)
    · have hf := ite_f c13 hf
      refine lv_aload_n hx hb dX5_takeNext_20 rfl (lv_at hl 0 rfl) ?_
      refine va_get (D := D) (ci := 5) (v := .int (wk 0 0)) (C := RX5) (T := TX5) (N := 3) hx hb hts inT5 hown hK hP 0 rfl rfl 2 (by decide) (hts _ mT_196) (fun _ h9 => h9) rfl dX5_takeNext_21 ?_
      refine lv_iconst (v := 1) hx hb dX5_takeNext_24 (by decide) ?_
      refine lv_isub hx hb dX5_takeNext_25 ?_
      refine lv_istore_n (lv' := [(2, .int ((wk 0 0) - 1)), (0, .ref wka), (1, .int x)]) hx hb dX5_takeNext_26 rfl hl (by decide) rfl (fun ls hl => ?_)
      refine lv_aload_n hx hb dX5_takeNext_27 rfl (lv_at hl 1 rfl) ?_
      refine va_get (D := D) (ci := 5) (v := .ref wk2) (C := RX5) (T := TX5) (N := 3) hx hb hts inT5 hown hK hP 0 rfl rfl 1 (by decide) (hts _ mT_195) (fun _ h9 => h9) rfl dX5_takeNext_28 ?_
      refine lv_iload_n hx hb dX5_takeNext_31 rfl (lv_at hl 0 rfl) ?_
      obtain ⟨b32, hf⟩ := gd_some hf
      refine va_iald (n := 10) (f := wk 2) hx hb hK hP 2 0 rfl rfl (ck_in b32) dX5_takeNext_32 ?_
      refine lv_istore_n (lv' := [(3, .int ((wk 2) (Int32.toNatClampNeg ((wk 0 0) - 1)))), (2, .int ((wk 0 0) - 1)), (0, .ref wka), (1, .int x)]) hx hb dX5_takeNext_33 rfl hl (by decide) rfl (fun ls hl => ?_)
      refine lv_aload_n hx hb dX5_takeNext_34 rfl (lv_at hl 2 rfl) ?_
      refine lv_dup hx hb dX5_takeNext_35 rfl ?_
      refine va_get (D := D) (ci := 5) (v := .int (wk 0 0)) (C := RX5) (T := TX5) (N := 3) hx hb hts inT5 hown hK hP 0 rfl rfl 2 (by decide) (hts _ mT_196) (fun _ h9 => h9) rfl dX5_takeNext_36 ?_
      refine lv_iconst (v := 1) hx hb dX5_takeNext_39 (by decide) ?_
      refine lv_isub hx hb dX5_takeNext_40 ?_
      refine va_put (D := D) (ci := 5) (v := .int ((wk 0 0) - 1)) (ty := .int) (C := RX5) (T := TX5) (N := 3) hx hb hts inT5 tyX5 tyX5_ok nmX5 hown hK hP hD hS 0 rfl rfl 2 (by decide) (hts _ mT_196) (fun _ h9 => h9) rfl (by decide +kernel) rfl rfl (Nat.le_of_ble_eq_true rfl) dX5_takeNext_41 (fun H locs hP hD hS => ?_)
      have hP : va_P D vwCl ([(wka, .inr (5, [.ref wk1, .ref wk2, .int ((wk 0 0) - 1)])), (wk1, .inl (cI, 10, .inl (wk 1))), (wk2, .inl (cI, 10, .inl (wk 2)))]) H := hP
      have hD : va_D A ([(wka, .inr (5, [.ref wk1, .ref wk2, .int ((wk 0 0) - 1)])), (wk1, .inl (cI, 10, .inl (wk 1))), (wk2, .inl (cI, 10, .inl (wk 2)))]) := hD
      refine lv_iload_n hx hb dX5_takeNext_44 rfl (lv_at hl 1 rfl) ?_
      refine lv_istore (lv' := [(4, .int ((wk 0 0) - 1)), (3, .int ((wk 2) (Int32.toNatClampNeg ((wk 0 0) - 1)))), (2, .int ((wk 0 0) - 1)), (0, .ref wka), (1, .int x)]) hx hb dX5_takeNext_45 hl (by decide) rfl (fun ls hl => ?_)
      have kx47 : ∀ (x4_47 : Int32) (wk_47 : Ob) (H : Heap) (locs : List Loc) (ls : Array Slot), (k_takeNext_47 wk) x4_47 wk_47 = some (r, u) → va_P D vwCl (cWork cI wka wk1 wk2 wk_47) H → va_D A (cWork cI wka wk1 wk2 wk_47) → va_S A s.heap H locs → lv_has ls 5 [(0, .ref wka), (1, .int x), (2, .int ((wk 0 0) - 1)), (3, .int ((wk 2) (Int32.toNatClampNeg ((wk 0 0) - 1)))), (4, .int x4_47)] → W p l e ({ frames := 1, cells := 0, slots := 0, locals := 22 } : Room) s m ([.ref wka, .int x] : List Value).toArray below meth c H locs 0 0 Q (F0 m 78 ls []) := by
        intro x4_47 wk_47 H locs ls hf hP hD hS hl
        rw [k_takeNext_47] at hf
        refine lv_iload_n hx hb dX5_takeNext_78 rfl (lv_at hl 3 rfl) ?_
        exact hret _ _ _ wk_47 _ _ hf dX5_takeNext_79 hP hD hS
      have lh47 : ∀ (fu47 : Nat) (x4_47 : Int32) (wk_47 : Ob) (H : Heap) (locs : List Loc) (ls : Array Slot), lp_takeNext_47 (k_takeNext_47 wk) fu47 x4_47 wk_47 = some (r, u) → va_P D vwCl (cWork cI wka wk1 wk2 wk_47) H → va_D A (cWork cI wka wk1 wk2 wk_47) → va_S A s.heap H locs → lv_has ls 5 [(0, .ref wka), (1, .int x), (2, .int ((wk 0 0) - 1)), (3, .int ((wk 2) (Int32.toNatClampNeg ((wk 0 0) - 1)))), (4, .int x4_47)] → W p l e ({ frames := 1, cells := 0, slots := 0, locals := 22 } : Room) s m ([.ref wka, .int x] : List Value).toArray below meth c H locs 0 0 Q (F0 m 47 ls []) := by
        intro fu47
        induction fu47 with
        | zero => intro x4_47 wk_47 H locs ls hf hP hD hS hl; exact no_none hf
        | succ fu47 ih47 =>
          intro x4_47 wk_47 H locs ls hf hP hD hS hl
          rw [lp_takeNext_47] at hf
          refine lv_iload hx hb dX5_takeNext_47 (lv_at hl 4 rfl) ?_
          refine lv_aload_n hx hb dX5_takeNext_49 rfl (lv_at hl 0 rfl) ?_
          refine va_get (D := D) (ci := 5) (v := .int (wk_47 0 0)) (C := RX5) (T := TX5) (N := 3) hx hb hts inT5 hown hK hP 0 rfl rfl 2 (by decide) (hts _ mT_196) (fun _ h9 => h9) rfl dX5_takeNext_50 ?_
          refine lv_icmp_ge (tgt := 78) hx hb dX5_takeNext_53 (by decide) (fun c53 => ?_) (fun c53 => ?_)
          · have hf := ite_t c53 hf
            exact kx47 x4_47 wk_47 _ _ _ hf hP hD hS (lv_sub hl [0, 1, 2, 3, 4] rfl)
          · have hf := ite_f c53 hf
            refine lv_aload_n hx hb dX5_takeNext_56 rfl (lv_at hl 0 rfl) ?_
            refine va_get (D := D) (ci := 5) (v := .ref wk2) (C := RX5) (T := TX5) (N := 3) hx hb hts inT5 hown hK hP 0 rfl rfl 1 (by decide) (hts _ mT_195) (fun _ h9 => h9) rfl dX5_takeNext_57 ?_
            refine lv_iload hx hb dX5_takeNext_60 (lv_at hl 4 rfl) ?_
            refine lv_aload_n hx hb dX5_takeNext_62 rfl (lv_at hl 0 rfl) ?_
            refine va_get (D := D) (ci := 5) (v := .ref wk2) (C := RX5) (T := TX5) (N := 3) hx hb hts inT5 hown hK hP 0 rfl rfl 1 (by decide) (hts _ mT_195) (fun _ h9 => h9) rfl dX5_takeNext_63 ?_
            refine lv_iload hx hb dX5_takeNext_66 (lv_at hl 4 rfl) ?_
            refine lv_iconst (v := 1) hx hb dX5_takeNext_68 (by decide) ?_
            refine lv_iadd hx hb dX5_takeNext_69 ?_
            obtain ⟨b70, hf⟩ := gd_some hf
            refine va_iald (n := 10) (f := wk_47 2) hx hb hK hP 2 0 rfl rfl (ck_in b70) dX5_takeNext_70 ?_
            obtain ⟨b71, hf⟩ := gd_some hf
            refine va_iast (n := 10) (f := wk_47 2) hx hb hK hP hD hS 2 0 rfl rfl (ck_in b71) dX5_takeNext_71 (fun H locs hP hD hS => ?_)
            have hP : va_P D vwCl ([(wka, .inr (5, [.ref wk1, .ref wk2, .int (wk_47 0 0)])), (wk1, .inl (cI, 10, .inl (wk_47 1))), (wk2, .inl (cI, 10, .inl (upd (wk_47 2) (Int32.toNatClampNeg x4_47) ((wk_47 2) (Int32.toNatClampNeg (x4_47 + 1))))))]) H := hP
            have hD : va_D A ([(wka, .inr (5, [.ref wk1, .ref wk2, .int (wk_47 0 0)])), (wk1, .inl (cI, 10, .inl (wk_47 1))), (wk2, .inl (cI, 10, .inl (upd (wk_47 2) (Int32.toNatClampNeg x4_47) ((wk_47 2) (Int32.toNatClampNeg (x4_47 + 1))))))]) := hD
            refine lv_iinc (v := x4_47 + 1) (lv' := [(4, .int (x4_47 + 1)), (0, .ref wka), (1, .int x), (2, .int ((wk 0 0) - 1)), (3, .int ((wk 2) (Int32.toNatClampNeg ((wk 0 0) - 1))))]) hx hb dX5_takeNext_72 hl (k := 4) rfl rfl (by decide) rfl (fun ls hl => ?_)
            refine lv_goto (tgt := 47) hx hb dX5_takeNext_75 (by decide) ?_
            exact ih47 (x4_47 + 1) (sA wk_47 2 (upd (wk_47 2) (Int32.toNatClampNeg x4_47) ((wk_47 2) (Int32.toNatClampNeg (x4_47 + 1))))) _ _ _ hf hP hD hS (lv_sub hl [1, 2, 3, 4, 0] rfl)
      exact lh47 10000 ((wk 0 0) - 1) (sI wk 0 ((wk 0 0) - 1)) _ _ _ hf hP hD hS (lv_sub hl [3, 4, 2, 1, 0] rfl)
    · have hf := ite_t c13 hf
      refine lv_iconst (v := 0) hx hb dX5_takeNext_16 (by decide) ?_
      refine lv_goto (tgt := 26) hx hb dX5_takeNext_17 (by decide) ?_
      refine lv_istore_n (lv' := [(2, .int 0), (0, .ref wka), (1, .int x)]) hx hb dX5_takeNext_26 rfl hl (by decide) rfl (fun ls hl => ?_)
      refine lv_aload_n hx hb dX5_takeNext_27 rfl (lv_at hl 1 rfl) ?_
      refine va_get (D := D) (ci := 5) (v := .ref wk2) (C := RX5) (T := TX5) (N := 3) hx hb hts inT5 hown hK hP 0 rfl rfl 1 (by decide) (hts _ mT_195) (fun _ h9 => h9) rfl dX5_takeNext_28 ?_
      refine lv_iload_n hx hb dX5_takeNext_31 rfl (lv_at hl 0 rfl) ?_
      refine va_iald (n := 10) (f := wk 2) hx hb hK hP 2 0 rfl rfl (ck_in (by decide)) dX5_takeNext_32 ?_
      refine lv_istore_n (lv' := [(3, .int ((wk 2) (Int32.toNatClampNeg 0))), (2, .int 0), (0, .ref wka), (1, .int x)]) hx hb dX5_takeNext_33 rfl hl (by decide) rfl (fun ls hl => ?_)
      refine lv_aload_n hx hb dX5_takeNext_34 rfl (lv_at hl 2 rfl) ?_
      refine lv_dup hx hb dX5_takeNext_35 rfl ?_
      refine va_get (D := D) (ci := 5) (v := .int (wk 0 0)) (C := RX5) (T := TX5) (N := 3) hx hb hts inT5 hown hK hP 0 rfl rfl 2 (by decide) (hts _ mT_196) (fun _ h9 => h9) rfl dX5_takeNext_36 ?_
      refine lv_iconst (v := 1) hx hb dX5_takeNext_39 (by decide) ?_
      refine lv_isub hx hb dX5_takeNext_40 ?_
      refine va_put (D := D) (ci := 5) (v := .int ((wk 0 0) - 1)) (ty := .int) (C := RX5) (T := TX5) (N := 3) hx hb hts inT5 tyX5 tyX5_ok nmX5 hown hK hP hD hS 0 rfl rfl 2 (by decide) (hts _ mT_196) (fun _ h9 => h9) rfl (by decide +kernel) rfl rfl (Nat.le_of_ble_eq_true rfl) dX5_takeNext_41 (fun H locs hP hD hS => ?_)
      have hP : va_P D vwCl ([(wka, .inr (5, [.ref wk1, .ref wk2, .int ((wk 0 0) - 1)])), (wk1, .inl (cI, 10, .inl (wk 1))), (wk2, .inl (cI, 10, .inl (wk 2)))]) H := hP
      have hD : va_D A ([(wka, .inr (5, [.ref wk1, .ref wk2, .int ((wk 0 0) - 1)])), (wk1, .inl (cI, 10, .inl (wk 1))), (wk2, .inl (cI, 10, .inl (wk 2)))]) := hD
      refine lv_iload_n hx hb dX5_takeNext_44 rfl (lv_at hl 1 rfl) ?_
      refine lv_istore (lv' := [(4, .int 0), (3, .int ((wk 2) (Int32.toNatClampNeg 0))), (2, .int 0), (0, .ref wka), (1, .int x)]) hx hb dX5_takeNext_45 hl (by decide) rfl (fun ls hl => ?_)
      have kx47 : ∀ (x4_47 : Int32) (wk_47 : Ob) (H : Heap) (locs : List Loc) (ls : Array Slot), (k_takeNext_47_v1 wk) x4_47 wk_47 = some (r, u) → va_P D vwCl (cWork cI wka wk1 wk2 wk_47) H → va_D A (cWork cI wka wk1 wk2 wk_47) → va_S A s.heap H locs → lv_has ls 5 [(0, .ref wka), (1, .int x), (2, .int 0), (3, .int ((wk 2) (Int32.toNatClampNeg 0))), (4, .int x4_47)] → W p l e ({ frames := 1, cells := 0, slots := 0, locals := 22 } : Room) s m ([.ref wka, .int x] : List Value).toArray below meth c H locs 0 0 Q (F0 m 78 ls []) := by
        intro x4_47 wk_47 H locs ls hf hP hD hS hl
        rw [k_takeNext_47_v1] at hf
        refine lv_iload_n hx hb dX5_takeNext_78 rfl (lv_at hl 3 rfl) ?_
        exact hret _ _ _ wk_47 _ _ hf dX5_takeNext_79 hP hD hS
      have lh47 : ∀ (fu47 : Nat) (x4_47 : Int32) (wk_47 : Ob) (H : Heap) (locs : List Loc) (ls : Array Slot), lp_takeNext_47 (k_takeNext_47_v1 wk) fu47 x4_47 wk_47 = some (r, u) → va_P D vwCl (cWork cI wka wk1 wk2 wk_47) H → va_D A (cWork cI wka wk1 wk2 wk_47) → va_S A s.heap H locs → lv_has ls 5 [(0, .ref wka), (1, .int x), (2, .int 0), (3, .int ((wk 2) (Int32.toNatClampNeg 0))), (4, .int x4_47)] → W p l e ({ frames := 1, cells := 0, slots := 0, locals := 22 } : Room) s m ([.ref wka, .int x] : List Value).toArray below meth c H locs 0 0 Q (F0 m 47 ls []) := by
        intro fu47
        induction fu47 with
        | zero => intro x4_47 wk_47 H locs ls hf hP hD hS hl; exact no_none hf
        | succ fu47 ih47 =>
          intro x4_47 wk_47 H locs ls hf hP hD hS hl
          rw [lp_takeNext_47] at hf
          refine lv_iload hx hb dX5_takeNext_47 (lv_at hl 4 rfl) ?_
          refine lv_aload_n hx hb dX5_takeNext_49 rfl (lv_at hl 0 rfl) ?_
          refine va_get (D := D) (ci := 5) (v := .int (wk_47 0 0)) (C := RX5) (T := TX5) (N := 3) hx hb hts inT5 hown hK hP 0 rfl rfl 2 (by decide) (hts _ mT_196) (fun _ h9 => h9) rfl dX5_takeNext_50 ?_
          refine lv_icmp_ge (tgt := 78) hx hb dX5_takeNext_53 (by decide) (fun c53 => ?_) (fun c53 => ?_)
          · have hf := ite_t c53 hf
            exact kx47 x4_47 wk_47 _ _ _ hf hP hD hS (lv_sub hl [0, 1, 2, 3, 4] rfl)
          · have hf := ite_f c53 hf
            refine lv_aload_n hx hb dX5_takeNext_56 rfl (lv_at hl 0 rfl) ?_
            refine va_get (D := D) (ci := 5) (v := .ref wk2) (C := RX5) (T := TX5) (N := 3) hx hb hts inT5 hown hK hP 0 rfl rfl 1 (by decide) (hts _ mT_195) (fun _ h9 => h9) rfl dX5_takeNext_57 ?_
            refine lv_iload hx hb dX5_takeNext_60 (lv_at hl 4 rfl) ?_
            refine lv_aload_n hx hb dX5_takeNext_62 rfl (lv_at hl 0 rfl) ?_
            refine va_get (D := D) (ci := 5) (v := .ref wk2) (C := RX5) (T := TX5) (N := 3) hx hb hts inT5 hown hK hP 0 rfl rfl 1 (by decide) (hts _ mT_195) (fun _ h9 => h9) rfl dX5_takeNext_63 ?_
            refine lv_iload hx hb dX5_takeNext_66 (lv_at hl 4 rfl) ?_
            refine lv_iconst (v := 1) hx hb dX5_takeNext_68 (by decide) ?_
            refine lv_iadd hx hb dX5_takeNext_69 ?_
            obtain ⟨b70, hf⟩ := gd_some hf
            refine va_iald (n := 10) (f := wk_47 2) hx hb hK hP 2 0 rfl rfl (ck_in b70) dX5_takeNext_70 ?_
            obtain ⟨b71, hf⟩ := gd_some hf
            refine va_iast (n := 10) (f := wk_47 2) hx hb hK hP hD hS 2 0 rfl rfl (ck_in b71) dX5_takeNext_71 (fun H locs hP hD hS => ?_)
            have hP : va_P D vwCl ([(wka, .inr (5, [.ref wk1, .ref wk2, .int (wk_47 0 0)])), (wk1, .inl (cI, 10, .inl (wk_47 1))), (wk2, .inl (cI, 10, .inl (upd (wk_47 2) (Int32.toNatClampNeg x4_47) ((wk_47 2) (Int32.toNatClampNeg (x4_47 + 1))))))]) H := hP
            have hD : va_D A ([(wka, .inr (5, [.ref wk1, .ref wk2, .int (wk_47 0 0)])), (wk1, .inl (cI, 10, .inl (wk_47 1))), (wk2, .inl (cI, 10, .inl (upd (wk_47 2) (Int32.toNatClampNeg x4_47) ((wk_47 2) (Int32.toNatClampNeg (x4_47 + 1))))))]) := hD
            refine lv_iinc (v := x4_47 + 1) (lv' := [(4, .int (x4_47 + 1)), (0, .ref wka), (1, .int x), (2, .int 0), (3, .int ((wk 2) (Int32.toNatClampNeg 0)))]) hx hb dX5_takeNext_72 hl (k := 4) rfl rfl (by decide) rfl (fun ls hl => ?_)
            refine lv_goto (tgt := 47) hx hb dX5_takeNext_75 (by decide) ?_
            exact ih47 (x4_47 + 1) (sA wk_47 2 (upd (wk_47 2) (Int32.toNatClampNeg x4_47) ((wk_47 2) (Int32.toNatClampNeg (x4_47 + 1))))) _ _ _ hf hP hD hS (lv_sub hl [1, 2, 3, 4, 0] rfl)
      exact lh47 10000 0 (sI wk 0 ((wk 0 0) - 1)) _ _ _ hf hP hD hS (lv_sub hl [3, 4, 2, 1, 0] rfl)
  · have hf := ite_t c1 hf
    refine lv_aload_n hx hb dX5_takeNext_4 rfl (lv_at hl 0 rfl) ?_
    obtain ⟨q5, h5, hf⟩ := bd_some hf
    refine kx_rv (As := []) (rest := []) hx hb hml hown hts hk hP hl.1 s_yX5_leastWaiting v_yX5_leastWaiting (c_leastWaiting l D cI cZ cR wka wk1 wk2 wk _ h5) mT_350 rfl rfl ⟨Nat.le_of_ble_eq_true rfl, Nat.le_of_ble_eq_true rfl⟩ (ci := 5) (q0 := 0) rfl rfl rfl (Nat.le_of_ble_eq_true rfl) ⟨Nat.zero_le _, Nat.zero_le _⟩ dX5_takeNext_5 ?_
    refine lv_goto (tgt := 26) hx hb dX5_takeNext_8 (by decide) ?_
    refine lv_istore_n (lv' := [(2, .int q5), (0, .ref wka), (1, .int x)]) hx hb dX5_takeNext_26 rfl hl (by decide) rfl (fun ls hl => ?_)
    refine lv_aload_n hx hb dX5_takeNext_27 rfl (lv_at hl 1 rfl) ?_
    refine va_get (D := D) (ci := 5) (v := .ref wk2) (C := RX5) (T := TX5) (N := 3) hx hb hts inT5 hown hK hP 0 rfl rfl 1 (by decide) (hts _ mT_195) (fun _ h9 => h9) rfl dX5_takeNext_28 ?_
    refine lv_iload_n hx hb dX5_takeNext_31 rfl (lv_at hl 0 rfl) ?_
    obtain ⟨b32, hf⟩ := gd_some hf
    refine va_iald (n := 10) (f := wk 2) hx hb hK hP 2 0 rfl rfl (ck_in b32) dX5_takeNext_32 ?_
    refine lv_istore_n (lv' := [(3, .int ((wk 2) (Int32.toNatClampNeg q5))), (2, .int q5), (0, .ref wka), (1, .int x)]) hx hb dX5_takeNext_33 rfl hl (by decide) rfl (fun ls hl => ?_)
    refine lv_aload_n hx hb dX5_takeNext_34 rfl (lv_at hl 2 rfl) ?_
    refine lv_dup hx hb dX5_takeNext_35 rfl ?_
    refine va_get (D := D) (ci := 5) (v := .int (wk 0 0)) (C := RX5) (T := TX5) (N := 3) hx hb hts inT5 hown hK hP 0 rfl rfl 2 (by decide) (hts _ mT_196) (fun _ h9 => h9) rfl dX5_takeNext_36 ?_
    refine lv_iconst (v := 1) hx hb dX5_takeNext_39 (by decide) ?_
    refine lv_isub hx hb dX5_takeNext_40 ?_
    refine va_put (D := D) (ci := 5) (v := .int ((wk 0 0) - 1)) (ty := .int) (C := RX5) (T := TX5) (N := 3) hx hb hts inT5 tyX5 tyX5_ok nmX5 hown hK hP hD hS 0 rfl rfl 2 (by decide) (hts _ mT_196) (fun _ h9 => h9) rfl (by decide +kernel) rfl rfl (Nat.le_of_ble_eq_true rfl) dX5_takeNext_41 (fun H locs hP hD hS => ?_)
    have hP : va_P D vwCl ([(wka, .inr (5, [.ref wk1, .ref wk2, .int ((wk 0 0) - 1)])), (wk1, .inl (cI, 10, .inl (wk 1))), (wk2, .inl (cI, 10, .inl (wk 2)))]) H := hP
    have hD : va_D A ([(wka, .inr (5, [.ref wk1, .ref wk2, .int ((wk 0 0) - 1)])), (wk1, .inl (cI, 10, .inl (wk 1))), (wk2, .inl (cI, 10, .inl (wk 2)))]) := hD
    refine lv_iload_n hx hb dX5_takeNext_44 rfl (lv_at hl 1 rfl) ?_
    refine lv_istore (lv' := [(4, .int q5), (3, .int ((wk 2) (Int32.toNatClampNeg q5))), (2, .int q5), (0, .ref wka), (1, .int x)]) hx hb dX5_takeNext_45 hl (by decide) rfl (fun ls hl => ?_)
    have kx47 : ∀ (x4_47 : Int32) (wk_47 : Ob) (H : Heap) (locs : List Loc) (ls : Array Slot), (k_takeNext_47_v2 wk q5) x4_47 wk_47 = some (r, u) → va_P D vwCl (cWork cI wka wk1 wk2 wk_47) H → va_D A (cWork cI wka wk1 wk2 wk_47) → va_S A s.heap H locs → lv_has ls 5 [(0, .ref wka), (1, .int x), (2, .int q5), (3, .int ((wk 2) (Int32.toNatClampNeg q5))), (4, .int x4_47)] → W p l e ({ frames := 1, cells := 0, slots := 0, locals := 22 } : Room) s m ([.ref wka, .int x] : List Value).toArray below meth c H locs 0 0 Q (F0 m 78 ls []) := by
      intro x4_47 wk_47 H locs ls hf hP hD hS hl
      rw [k_takeNext_47_v2] at hf
      refine lv_iload_n hx hb dX5_takeNext_78 rfl (lv_at hl 3 rfl) ?_
      exact hret _ _ _ wk_47 _ _ hf dX5_takeNext_79 hP hD hS
    have lh47 : ∀ (fu47 : Nat) (x4_47 : Int32) (wk_47 : Ob) (H : Heap) (locs : List Loc) (ls : Array Slot), lp_takeNext_47 (k_takeNext_47_v2 wk q5) fu47 x4_47 wk_47 = some (r, u) → va_P D vwCl (cWork cI wka wk1 wk2 wk_47) H → va_D A (cWork cI wka wk1 wk2 wk_47) → va_S A s.heap H locs → lv_has ls 5 [(0, .ref wka), (1, .int x), (2, .int q5), (3, .int ((wk 2) (Int32.toNatClampNeg q5))), (4, .int x4_47)] → W p l e ({ frames := 1, cells := 0, slots := 0, locals := 22 } : Room) s m ([.ref wka, .int x] : List Value).toArray below meth c H locs 0 0 Q (F0 m 47 ls []) := by
      intro fu47
      induction fu47 with
      | zero => intro x4_47 wk_47 H locs ls hf hP hD hS hl; exact no_none hf
      | succ fu47 ih47 =>
        intro x4_47 wk_47 H locs ls hf hP hD hS hl
        rw [lp_takeNext_47] at hf
        refine lv_iload hx hb dX5_takeNext_47 (lv_at hl 4 rfl) ?_
        refine lv_aload_n hx hb dX5_takeNext_49 rfl (lv_at hl 0 rfl) ?_
        refine va_get (D := D) (ci := 5) (v := .int (wk_47 0 0)) (C := RX5) (T := TX5) (N := 3) hx hb hts inT5 hown hK hP 0 rfl rfl 2 (by decide) (hts _ mT_196) (fun _ h9 => h9) rfl dX5_takeNext_50 ?_
        refine lv_icmp_ge (tgt := 78) hx hb dX5_takeNext_53 (by decide) (fun c53 => ?_) (fun c53 => ?_)
        · have hf := ite_t c53 hf
          exact kx47 x4_47 wk_47 _ _ _ hf hP hD hS (lv_sub hl [0, 1, 2, 3, 4] rfl)
        · have hf := ite_f c53 hf
          refine lv_aload_n hx hb dX5_takeNext_56 rfl (lv_at hl 0 rfl) ?_
          refine va_get (D := D) (ci := 5) (v := .ref wk2) (C := RX5) (T := TX5) (N := 3) hx hb hts inT5 hown hK hP 0 rfl rfl 1 (by decide) (hts _ mT_195) (fun _ h9 => h9) rfl dX5_takeNext_57 ?_
          refine lv_iload hx hb dX5_takeNext_60 (lv_at hl 4 rfl) ?_
          refine lv_aload_n hx hb dX5_takeNext_62 rfl (lv_at hl 0 rfl) ?_
          refine va_get (D := D) (ci := 5) (v := .ref wk2) (C := RX5) (T := TX5) (N := 3) hx hb hts inT5 hown hK hP 0 rfl rfl 1 (by decide) (hts _ mT_195) (fun _ h9 => h9) rfl dX5_takeNext_63 ?_
          refine lv_iload hx hb dX5_takeNext_66 (lv_at hl 4 rfl) ?_
          refine lv_iconst (v := 1) hx hb dX5_takeNext_68 (by decide) ?_
          refine lv_iadd hx hb dX5_takeNext_69 ?_
          obtain ⟨b70, hf⟩ := gd_some hf
          refine va_iald (n := 10) (f := wk_47 2) hx hb hK hP 2 0 rfl rfl (ck_in b70) dX5_takeNext_70 ?_
          obtain ⟨b71, hf⟩ := gd_some hf
          refine va_iast (n := 10) (f := wk_47 2) hx hb hK hP hD hS 2 0 rfl rfl (ck_in b71) dX5_takeNext_71 (fun H locs hP hD hS => ?_)
          have hP : va_P D vwCl ([(wka, .inr (5, [.ref wk1, .ref wk2, .int (wk_47 0 0)])), (wk1, .inl (cI, 10, .inl (wk_47 1))), (wk2, .inl (cI, 10, .inl (upd (wk_47 2) (Int32.toNatClampNeg x4_47) ((wk_47 2) (Int32.toNatClampNeg (x4_47 + 1))))))]) H := hP
          have hD : va_D A ([(wka, .inr (5, [.ref wk1, .ref wk2, .int (wk_47 0 0)])), (wk1, .inl (cI, 10, .inl (wk_47 1))), (wk2, .inl (cI, 10, .inl (upd (wk_47 2) (Int32.toNatClampNeg x4_47) ((wk_47 2) (Int32.toNatClampNeg (x4_47 + 1))))))]) := hD
          refine lv_iinc (v := x4_47 + 1) (lv' := [(4, .int (x4_47 + 1)), (0, .ref wka), (1, .int x), (2, .int q5), (3, .int ((wk 2) (Int32.toNatClampNeg q5)))]) hx hb dX5_takeNext_72 hl (k := 4) rfl rfl (by decide) rfl (fun ls hl => ?_)
          refine lv_goto (tgt := 47) hx hb dX5_takeNext_75 (by decide) ?_
          exact ih47 (x4_47 + 1) (sA wk_47 2 (upd (wk_47 2) (Int32.toNatClampNeg x4_47) ((wk_47 2) (Int32.toNatClampNeg (x4_47 + 1))))) _ _ _ hf hP hD hS (lv_sub hl [1, 2, 3, 4, 0] rfl)
    exact lh47 10000 q5 (sI wk 0 ((wk 0 0) - 1)) _ _ _ hf hP hD hS (lv_sub hl [3, 4, 2, 1, 0] rfl)
theorem s_yX5_wakeBehind : kMS yX5_wakeBehind cX5_wakeBehind 5 none 3 := ⟨mT_358, mT_56, by decide +kernel⟩
theorem v_yX5_wakeBehind : kMV yX5_wakeBehind := ⟨mT_357, mT_9⟩
def k_wakeBehind_3 (x4_3 : Int32) (wk_3 : Ob) : Option Ob := some wk_3
def lp_wakeBehind_3 (w : Ob) (x : Int32) (y : Int32) (kk0 : Int32 → Ob → Option Ob) : Nat → Int32 → Ob → Option Ob
  | 0, _, _ => none
  | fu3 + 1, x4_3, wk_3 => if (w 0 2) ≤ x4_3 then (kk0 x4_3 wk_3) else (gd (ck x4_3 20) (if ((w 4) (Int32.toNatClampNeg x4_3)) = x then (if x4_3 = y then ((lp_wakeBehind_3 w x y kk0 fu3) (x4_3 + 1) wk_3) else (gd (ck x4_3 20) (bd (f_isWaiting wk_3 ((w 5) (Int32.toNatClampNeg x4_3))) (fun q37 => if q37 = 0 then (if 10 ≤ (wk_3 0 0) then ((lp_wakeBehind_3 w x y kk0 fu3) (x4_3 + 1) wk_3) else (gd (ck x4_3 20) (gd (ck (wk_3 0 0) 10) ((lp_wakeBehind_3 w x y kk0 fu3) (x4_3 + 1) (sI (sA wk_3 2 (upd (wk_3 2) (Int32.toNatClampNeg (wk_3 0 0)) ((w 5) (Int32.toNatClampNeg x4_3)))) 0 ((wk_3 0 0) + 1)))))) else ((lp_wakeBehind_3 w x y kk0 fu3) (x4_3 + 1) wk_3))))) else ((lp_wakeBehind_3 w x y kk0 fu3) (x4_3 + 1) wk_3)))
def f_wakeBehind (wk : Ob) (w : Ob) (x : Int32) (y : Int32) : Option Ob := lp_wakeBehind_3 w x y k_wakeBehind_3 10000 0 wk
set_option maxHeartbeats 4000000 in
set_option maxRecDepth 100000 in
theorem c_wakeBehind (l : Launch) (D : va_G) (cI cZ cR : ClassId) (wka wk1 wk2 wa w1 w2 w3 w4 w5 w6 w7 w8 w9 : Nat) (wk : Ob) (w : Ob) (x : Int32) (y : Int32) (sz : Nat) (u : Ob) (hf : f_wakeBehind wk w x y = some u) : kCv l yX5_wakeBehind cX5_wakeBehind 5 none { frames := 1, cells := 0, slots := 0, locals := 22 } [.ref wka, .ref wa, .int x, .int y] D cI cZ cR (cWork cI wka wk1 wk2 wk ++ (cWeb cI wa w1 w2 w3 w4 w5 w6 w7 w8 w9 w)) sz (cWork cI wka wk1 wk2 u ++ (cWeb cI wa w1 w2 w3 w4 w5 w6 w7 w8 w9 w)) := by
  refine kMwv (wf := (fun u : Ob => cWork cI wka wk1 wk2 u ++ (cWeb cI wa w1 w2 w3 w4 w5 w6 w7 w8 w9 w))) (u := u) (by decide) (Nat.le_of_ble_eq_true rfl) ?_
  intro p e s m below meth c Q A hx hb hml hown hts hk hP hD hA hS hret ls hl
  have hS0 := hS
  have hK := hk.1
  have hl : lv_has ls 5 [(0, .ref wka), (1, .ref wa), (2, .int x), (3, .int y)] := hl
  rw [f_wakeBehind] at hf
  refine lv_iconst (v := 0) hx hb dX5_wakeBehind_0 (by decide) ?_
  refine lv_istore (lv' := [(4, .int 0), (0, .ref wka), (1, .ref wa), (2, .int x), (3, .int y)]) hx hb dX5_wakeBehind_1 hl (by decide) rfl (fun ls hl => ?_)
  have kx3 : ∀ (x4_3 : Int32) (wk_3 : Ob) (H : Heap) (locs : List Loc) (ls : Array Slot), k_wakeBehind_3 x4_3 wk_3 = some u → va_P D vwCl (cWork cI wka wk1 wk2 wk_3 ++ (cWeb cI wa w1 w2 w3 w4 w5 w6 w7 w8 w9 w)) H → va_D A (cWork cI wka wk1 wk2 wk_3 ++ (cWeb cI wa w1 w2 w3 w4 w5 w6 w7 w8 w9 w)) → va_S A s.heap H locs → lv_has ls 5 [(0, .ref wka), (1, .ref wa), (2, .int x), (3, .int y), (4, .int x4_3)] → W p l e ({ frames := 1, cells := 0, slots := 0, locals := 22 } : Room) s m ([.ref wka, .ref wa, .int x, .int y] : List Value).toArray below meth c H locs 0 0 Q (F0 m 84 ls []) := by
    intro x4_3 wk_3 H locs ls hf hP hD hS hl
    rw [k_wakeBehind_3] at hf
    exact hret _ _ wk_3 _ _ hf dX5_wakeBehind_84 hP hD hS
  have lh3 : ∀ (fu3 : Nat) (x4_3 : Int32) (wk_3 : Ob) (H : Heap) (locs : List Loc) (ls : Array Slot), lp_wakeBehind_3 w x y k_wakeBehind_3 fu3 x4_3 wk_3 = some u → va_P D vwCl (cWork cI wka wk1 wk2 wk_3 ++ (cWeb cI wa w1 w2 w3 w4 w5 w6 w7 w8 w9 w)) H → va_D A (cWork cI wka wk1 wk2 wk_3 ++ (cWeb cI wa w1 w2 w3 w4 w5 w6 w7 w8 w9 w)) → va_S A s.heap H locs → lv_has ls 5 [(0, .ref wka), (1, .ref wa), (2, .int x), (3, .int y), (4, .int x4_3)] → W p l e ({ frames := 1, cells := 0, slots := 0, locals := 22 } : Room) s m ([.ref wka, .ref wa, .int x, .int y] : List Value).toArray below meth c H locs 0 0 Q (F0 m 3 ls []) := by
    intro fu3
    induction fu3 with
    | zero => intro x4_3 wk_3 H locs ls hf hP hD hS hl; exact no_none hf
    | succ fu3 ih3 =>
      intro x4_3 wk_3 H locs ls hf hP hD hS hl
      rw [lp_wakeBehind_3] at hf
      refine lv_iload hx hb dX5_wakeBehind_3 (lv_at hl 4 rfl) ?_
      refine lv_aload_n hx hb dX5_wakeBehind_5 rfl (lv_at hl 1 rfl) ?_
      refine va_get (D := D) (ci := 4) (v := .int (w 0 2)) (C := RX4) (T := TX4) (N := 12) hx hb hts inT4 hown hK hP 3 rfl rfl 2 (by decide) (hts _ mT_83) (fun _ h9 => h9) rfl dX5_wakeBehind_6 ?_
      refine lv_icmp_ge (tgt := 84) hx hb dX5_wakeBehind_9 (by decide) (fun c9 => ?_) (fun c9 => ?_)
      · have hf := ite_t c9 hf
        exact kx3 x4_3 wk_3 _ _ _ hf hP hD hS (lv_sub hl [0, 1, 2, 3, 4] rfl)
      · have hf := ite_f c9 hf
        refine lv_aload_n hx hb dX5_wakeBehind_12 rfl (lv_at hl 1 rfl) ?_
        refine va_get (D := D) (ci := 4) (v := .ref w4) (C := RX4) (T := TX4) (N := 12) hx hb hts inT4 hown hK hP 3 rfl rfl 6 (by decide) (hts _ mT_92) (fun _ h9 => h9) rfl dX5_wakeBehind_13 ?_
        refine lv_iload hx hb dX5_wakeBehind_16 (lv_at hl 4 rfl) ?_
        obtain ⟨b18, hf⟩ := gd_some hf
        refine va_iald (n := 20) (f := w 4) hx hb hK hP 7 0 rfl rfl (ck_in b18) dX5_wakeBehind_18 ?_
        refine lv_iload_n hx hb dX5_wakeBehind_19 rfl (lv_at hl 2 rfl) ?_
        refine lv_icmp_ne (tgt := 78) hx hb dX5_wakeBehind_20 (by decide) (fun c20 => ?_) (fun c20 => ?_)
        · have hf := ite_f c20 hf
          refine lv_iinc (v := x4_3 + 1) (lv' := [(4, .int (x4_3 + 1)), (0, .ref wka), (1, .ref wa), (2, .int x), (3, .int y)]) hx hb dX5_wakeBehind_78 hl (k := 4) rfl rfl (by decide) rfl (fun ls hl => ?_)
          refine lv_goto (tgt := 3) hx hb dX5_wakeBehind_81 (by decide) ?_
          exact ih3 (x4_3 + 1) wk_3 _ _ _ hf hP hD hS (lv_sub hl [1, 2, 3, 4, 0] rfl)
        · have hf := ite_t c20 hf
          refine lv_iload hx hb dX5_wakeBehind_23 (lv_at hl 4 rfl) ?_
          refine lv_iload_n hx hb dX5_wakeBehind_25 rfl (lv_at hl 3 rfl) ?_
          refine lv_icmp_eq (tgt := 78) hx hb dX5_wakeBehind_26 (by decide) (fun c26 => ?_) (fun c26 => ?_)
          · have hf := ite_t c26 hf
            refine lv_iinc (v := x4_3 + 1) (lv' := [(4, .int (x4_3 + 1)), (0, .ref wka), (1, .ref wa), (2, .int x), (3, .int y)]) hx hb dX5_wakeBehind_78 hl (k := 4) rfl rfl (by decide) rfl (fun ls hl => ?_)
            refine lv_goto (tgt := 3) hx hb dX5_wakeBehind_81 (by decide) ?_
            exact ih3 (x4_3 + 1) wk_3 _ _ _ hf hP hD hS (lv_sub hl [1, 2, 3, 4, 0] rfl)
          · have hf := ite_f c26 hf
            refine lv_aload_n hx hb dX5_wakeBehind_29 rfl (lv_at hl 0 rfl) ?_
            refine lv_aload_n hx hb dX5_wakeBehind_30 rfl (lv_at hl 1 rfl) ?_
            refine va_get (D := D) (ci := 4) (v := .ref w5) (C := RX4) (T := TX4) (N := 12) hx hb hts inT4 hown hK hP 3 rfl rfl 7 (by decide) (hts _ mT_95) (fun _ h9 => h9) rfl dX5_wakeBehind_31 ?_
            refine lv_iload hx hb dX5_wakeBehind_34 (lv_at hl 4 rfl) ?_
            obtain ⟨b36, hf⟩ := gd_some hf
            refine va_iald (n := 20) (f := w 5) hx hb hK hP 8 0 rfl rfl (ck_in b36) dX5_wakeBehind_36 ?_
            obtain ⟨q37, h37, hf⟩ := bd_some hf
            refine kx_rv (As := [.int ((w 5) (Int32.toNatClampNeg x4_3))]) (rest := []) hx hb hml hown hts hk (hP.sub (ws' := cWork cI wka wk1 wk2 wk_3) [0, 1, 2] rfl) hl.1 s_yX5_isWaiting v_yX5_isWaiting (c_isWaiting l D cI cZ cR wka wk1 wk2 wk_3 ((w 5) (Int32.toNatClampNeg x4_3)) _ h37) mT_359 rfl rfl ⟨Nat.le_of_ble_eq_true rfl, Nat.le_of_ble_eq_true rfl⟩ (ci := 5) (q0 := 0) rfl rfl rfl (Nat.le_of_ble_eq_true rfl) ⟨Nat.zero_le _, Nat.zero_le _⟩ dX5_wakeBehind_37 ?_
            refine lv_if_ne (tgt := 78) hx hb dX5_wakeBehind_40 (by decide) (fun c40 => ?_) (fun c40 => ?_)
            · have hf := ite_f c40 hf
              refine lv_iinc (v := x4_3 + 1) (lv' := [(4, .int (x4_3 + 1)), (0, .ref wka), (1, .ref wa), (2, .int x), (3, .int y)]) hx hb dX5_wakeBehind_78 hl (k := 4) rfl rfl (by decide) rfl (fun ls hl => ?_)
              refine lv_goto (tgt := 3) hx hb dX5_wakeBehind_81 (by decide) ?_
              exact ih3 (x4_3 + 1) wk_3 _ _ _ hf hP hD hS (lv_sub hl [1, 2, 3, 4, 0] rfl)
            · have hf := ite_t c40 hf
              refine lv_aload_n hx hb dX5_wakeBehind_43 rfl (lv_at hl 0 rfl) ?_
              refine va_get (D := D) (ci := 5) (v := .int (wk_3 0 0)) (C := RX5) (T := TX5) (N := 3) hx hb hts inT5 hown hK hP 0 rfl rfl 2 (by decide) (hts _ mT_196) (fun _ h9 => h9) rfl dX5_wakeBehind_44 ?_
              refine lv_bipush (v := 10) hx hb dX5_wakeBehind_47 (by decide) ?_
              refine lv_icmp_ge (tgt := 78) hx hb dX5_wakeBehind_49 (by decide) (fun c49 => ?_) (fun c49 => ?_)
              · have hf := ite_t c49 hf
                refine lv_iinc (v := x4_3 + 1) (lv' := [(4, .int (x4_3 + 1)), (0, .ref wka), (1, .ref wa), (2, .int x), (3, .int y)]) hx hb dX5_wakeBehind_78 hl (k := 4) rfl rfl (by decide) rfl (fun ls hl => ?_)
                refine lv_goto (tgt := 3) hx hb dX5_wakeBehind_81 (by decide) ?_
                exact ih3 (x4_3 + 1) wk_3 _ _ _ hf hP hD hS (lv_sub hl [1, 2, 3, 4, 0] rfl)
              · have hf := ite_f c49 hf
                refine lv_aload_n hx hb dX5_wakeBehind_52 rfl (lv_at hl 0 rfl) ?_
                refine va_get (D := D) (ci := 5) (v := .ref wk2) (C := RX5) (T := TX5) (N := 3) hx hb hts inT5 hown hK hP 0 rfl rfl 1 (by decide) (hts _ mT_195) (fun _ h9 => h9) rfl dX5_wakeBehind_53 ?_
                refine lv_aload_n hx hb dX5_wakeBehind_56 rfl (lv_at hl 0 rfl) ?_
                refine va_get (D := D) (ci := 5) (v := .int (wk_3 0 0)) (C := RX5) (T := TX5) (N := 3) hx hb hts inT5 hown hK hP 0 rfl rfl 2 (by decide) (hts _ mT_196) (fun _ h9 => h9) rfl dX5_wakeBehind_57 ?_
                refine lv_aload_n hx hb dX5_wakeBehind_60 rfl (lv_at hl 1 rfl) ?_
                refine va_get (D := D) (ci := 4) (v := .ref w5) (C := RX4) (T := TX4) (N := 12) hx hb hts inT4 hown hK hP 3 rfl rfl 7 (by decide) (hts _ mT_95) (fun _ h9 => h9) rfl dX5_wakeBehind_61 ?_
                refine lv_iload hx hb dX5_wakeBehind_64 (lv_at hl 4 rfl) ?_
                obtain ⟨b66, hf⟩ := gd_some hf
                refine va_iald (n := 20) (f := w 5) hx hb hK hP 8 0 rfl rfl (ck_in b66) dX5_wakeBehind_66 ?_
                obtain ⟨b67, hf⟩ := gd_some hf
                refine va_iast (n := 10) (f := wk_3 2) hx hb hK hP hD hS 2 0 rfl rfl (ck_in b67) dX5_wakeBehind_67 (fun H locs hP hD hS => ?_)
                have hP : va_P D vwCl ([(wka, .inr (5, [.ref wk1, .ref wk2, .int (wk_3 0 0)])), (wk1, .inl (cI, 10, .inl (wk_3 1))), (wk2, .inl (cI, 10, .inl (upd (wk_3 2) (Int32.toNatClampNeg (wk_3 0 0)) ((w 5) (Int32.toNatClampNeg x4_3)))))] ++ (cWeb cI wa w1 w2 w3 w4 w5 w6 w7 w8 w9 w)) H := hP
                have hD : va_D A ([(wka, .inr (5, [.ref wk1, .ref wk2, .int (wk_3 0 0)])), (wk1, .inl (cI, 10, .inl (wk_3 1))), (wk2, .inl (cI, 10, .inl (upd (wk_3 2) (Int32.toNatClampNeg (wk_3 0 0)) ((w 5) (Int32.toNatClampNeg x4_3)))))] ++ (cWeb cI wa w1 w2 w3 w4 w5 w6 w7 w8 w9 w)) := hD
                refine lv_aload_n hx hb dX5_wakeBehind_68 rfl (lv_at hl 0 rfl) ?_
                refine lv_dup hx hb dX5_wakeBehind_69 rfl ?_
                refine va_get (D := D) (ci := 5) (v := .int (wk_3 0 0)) (C := RX5) (T := TX5) (N := 3) hx hb hts inT5 hown hK hP 0 rfl rfl 2 (by decide) (hts _ mT_196) (fun _ h9 => h9) rfl dX5_wakeBehind_70 ?_
                refine lv_iconst (v := 1) hx hb dX5_wakeBehind_73 (by decide) ?_
                refine lv_iadd hx hb dX5_wakeBehind_74 ?_
                refine va_put (D := D) (ci := 5) (v := .int ((wk_3 0 0) + 1)) (ty := .int) (C := RX5) (T := TX5) (N := 3) hx hb hts inT5 tyX5 tyX5_ok nmX5 hown hK hP hD hS 0 rfl rfl 2 (by decide) (hts _ mT_196) (fun _ h9 => h9) rfl (by decide +kernel) rfl rfl (Nat.le_of_ble_eq_true rfl) dX5_wakeBehind_75 (fun H locs hP hD hS => ?_)
                have hP : va_P D vwCl ([(wka, .inr (5, [.ref wk1, .ref wk2, .int ((wk_3 0 0) + 1)])), (wk1, .inl (cI, 10, .inl (wk_3 1))), (wk2, .inl (cI, 10, .inl (upd (wk_3 2) (Int32.toNatClampNeg (wk_3 0 0)) ((w 5) (Int32.toNatClampNeg x4_3)))))] ++ (cWeb cI wa w1 w2 w3 w4 w5 w6 w7 w8 w9 w)) H := hP
                have hD : va_D A ([(wka, .inr (5, [.ref wk1, .ref wk2, .int ((wk_3 0 0) + 1)])), (wk1, .inl (cI, 10, .inl (wk_3 1))), (wk2, .inl (cI, 10, .inl (upd (wk_3 2) (Int32.toNatClampNeg (wk_3 0 0)) ((w 5) (Int32.toNatClampNeg x4_3)))))] ++ (cWeb cI wa w1 w2 w3 w4 w5 w6 w7 w8 w9 w)) := hD
                refine lv_iinc (v := x4_3 + 1) (lv' := [(4, .int (x4_3 + 1)), (0, .ref wka), (1, .ref wa), (2, .int x), (3, .int y)]) hx hb dX5_wakeBehind_78 hl (k := 4) rfl rfl (by decide) rfl (fun ls hl => ?_)
                refine lv_goto (tgt := 3) hx hb dX5_wakeBehind_81 (by decide) ?_
                exact ih3 (x4_3 + 1) (sI (sA wk_3 2 (upd (wk_3 2) (Int32.toNatClampNeg (wk_3 0 0)) ((w 5) (Int32.toNatClampNeg x4_3)))) 0 ((wk_3 0 0) + 1)) _ _ _ hf hP hD hS (lv_sub hl [1, 2, 3, 4, 0] rfl)
  exact lh3 10000 0 wk _ _ _ hf hP hD hS (lv_sub hl [1, 2, 3, 4, 0] rfl)
theorem s_yX5_run : kMS yX5_run cX5_run 7 (some .int) 3 := ⟨mT_345, mT_56, by decide +kernel⟩
theorem v_yX5_run : kMV yX5_run := ⟨mT_343, mT_344⟩
def k_run_46 (x4_46 : Int32) (wk_46 : Ob) : Option (Int32 × Ob) := if (wk_46 0 0) ≤ 0 then (some (x4_46, wk_46)) else (some ((-1), wk_46))
def lp_run_46 (w : Ob) (x : Int32) (y : Int32) (kk0 : Int32 → Ob → Option (Int32 × Ob)) : Nat → Int32 → Ob → Option (Int32 × Ob)
  | 0, _, _ => none
  | fu46 + 1, x4_46, wk_46 => if (wk_46 0 0) ≤ 0 then (kk0 x4_46 wk_46) else (if 2000 ≤ x4_46 then (kk0 x4_46 wk_46) else (bd (f_takeNext wk_46 x) (fun q66 => bd (f_together w (q66.2 1) q66.1 y) (fun q79 => gd (ck q66.1 10) (if q79 = ((q66.2 1) (Int32.toNatClampNeg q66.1)) then ((lp_run_46 w x y kk0 fu46) (x4_46 + 1) q66.2) else (gd (ck q66.1 10) (bd (f_wakeBehind (sA q66.2 1 (upd (q66.2 1) (Int32.toNatClampNeg q66.1) q79)) w q66.1 y) (fun q110 => (lp_run_46 w x y kk0 fu46) (x4_46 + 1) q110))))))))
def k_run_11 (w : Ob) (x : Int32) (y : Int32) (x4_11 : Int32) (wk_11 : Ob) : Option (Int32 × Ob) := lp_run_46 w x y k_run_46 10000 0 wk_11
def lp_run_11 (w : Ob) (kk0 : Int32 → Ob → Option (Int32 × Ob)) : Nat → Int32 → Ob → Option (Int32 × Ob)
  | 0, _, _ => none
  | fu11 + 1, x4_11, wk_11 => if (w 0 1) ≤ x4_11 then (kk0 x4_11 wk_11) else (gd (ck x4_11 10) (gd (ck x4_11 10) ((lp_run_11 w kk0 fu11) (x4_11 + 1) (sA (sA wk_11 1 (upd (wk_11 1) (Int32.toNatClampNeg x4_11) 0)) 2 (upd (wk_11 2) (Int32.toNatClampNeg x4_11) x4_11)))))
def f_run (wk : Ob) (w : Ob) (x : Int32) (y : Int32) : Option (Int32 × Ob) := lp_run_11 w (k_run_11 w x y) 10000 0 (sI wk 0 (w 0 1))
set_option maxHeartbeats 4000000 in
set_option maxRecDepth 100000 in
theorem c_run (l : Launch) (D : va_G) (cI cZ cR : ClassId) (wka wk1 wk2 wa w1 w2 w3 w4 w5 w6 w7 w8 w9 : Nat) (wk : Ob) (w : Ob) (x : Int32) (y : Int32) (sz : Nat) (r : Int32) (u : Ob) (hf : f_run wk w x y = some (r, u)) : kCi l yX5_run cX5_run 7 (some .int) { frames := 3, cells := 0, slots := 0, locals := 73 } [.ref wka, .ref wa, .int x, .int y] D cI cZ cR (cWork cI wka wk1 wk2 wk ++ (cWeb cI wa w1 w2 w3 w4 w5 w6 w7 w8 w9 w)) sz (cWork cI wka wk1 wk2 u ++ (cWeb cI wa w1 w2 w3 w4 w5 w6 w7 w8 w9 w)) r := by
  refine kMwi (wf := (fun u : Ob => cWork cI wka wk1 wk2 u ++ (cWeb cI wa w1 w2 w3 w4 w5 w6 w7 w8 w9 w))) (u := u) (by decide) (Nat.le_of_ble_eq_true rfl) ?_
  intro p e s m below meth c Q A hx hb hml hown hts hk hP hD hA hS hret ls hl
  have hS0 := hS
  have hK := hk.1
  have hl : lv_has ls 7 [(0, .ref wka), (1, .ref wa), (2, .int x), (3, .int y)] := hl
  rw [f_run] at hf
  refine lv_aload_n hx hb dX5_run_0 rfl (lv_at hl 0 rfl) ?_
  refine lv_aload_n hx hb dX5_run_1 rfl (lv_at hl 1 rfl) ?_
  refine va_get (D := D) (ci := 4) (v := .int (w 0 1)) (C := RX4) (T := TX4) (N := 12) hx hb hts inT4 hown hK hP 3 rfl rfl 1 (by decide) (hts _ mT_77) (fun _ h9 => h9) rfl dX5_run_2 ?_
  refine va_put (D := D) (ci := 5) (v := .int (w 0 1)) (ty := .int) (C := RX5) (T := TX5) (N := 3) hx hb hts inT5 tyX5 tyX5_ok nmX5 hown hK hP hD hS 0 rfl rfl 2 (by decide) (hts _ mT_196) (fun _ h9 => h9) rfl (by decide +kernel) rfl rfl (Nat.le_of_ble_eq_true rfl) dX5_run_5 (fun H locs hP hD hS => ?_)
  have hP : va_P D vwCl ([(wka, .inr (5, [.ref wk1, .ref wk2, .int (w 0 1)])), (wk1, .inl (cI, 10, .inl (wk 1))), (wk2, .inl (cI, 10, .inl (wk 2)))] ++ (cWeb cI wa w1 w2 w3 w4 w5 w6 w7 w8 w9 w)) H := hP
  have hD : va_D A ([(wka, .inr (5, [.ref wk1, .ref wk2, .int (w 0 1)])), (wk1, .inl (cI, 10, .inl (wk 1))), (wk2, .inl (cI, 10, .inl (wk 2)))] ++ (cWeb cI wa w1 w2 w3 w4 w5 w6 w7 w8 w9 w)) := hD
  refine lv_iconst (v := 0) hx hb dX5_run_8 (by decide) ?_
  refine lv_istore (lv' := [(4, .int 0), (0, .ref wka), (1, .ref wa), (2, .int x), (3, .int y)]) hx hb dX5_run_9 hl (by decide) rfl (fun ls hl => ?_)
  have kx11 : ∀ (x4_11 : Int32) (wk_11 : Ob) (H : Heap) (locs : List Loc) (ls : Array Slot), (k_run_11 w x y) x4_11 wk_11 = some (r, u) → va_P D vwCl (cWork cI wka wk1 wk2 wk_11 ++ (cWeb cI wa w1 w2 w3 w4 w5 w6 w7 w8 w9 w)) H → va_D A (cWork cI wka wk1 wk2 wk_11 ++ (cWeb cI wa w1 w2 w3 w4 w5 w6 w7 w8 w9 w)) → va_S A s.heap H locs → lv_has ls 7 [(0, .ref wka), (1, .ref wa), (2, .int x), (3, .int y), (4, .int x4_11)] → W p l e ({ frames := 3, cells := 0, slots := 0, locals := 73 } : Room) s m ([.ref wka, .ref wa, .int x, .int y] : List Value).toArray below meth c H locs 0 0 Q (F0 m 43 ls []) := by
    intro x4_11 wk_11 H locs ls hf hP hD hS hl
    rw [k_run_11] at hf
    refine lv_iconst (v := 0) hx hb dX5_run_43 (by decide) ?_
    refine lv_istore (lv' := [(4, .int 0), (0, .ref wka), (1, .ref wa), (2, .int x), (3, .int y)]) hx hb dX5_run_44 hl (by decide) rfl (fun ls hl => ?_)
    have kx46 : ∀ (x4_46 : Int32) (wk_46 : Ob) (H : Heap) (locs : List Loc) (ls : Array Slot), k_run_46 x4_46 wk_46 = some (r, u) → va_P D vwCl (cWork cI wka wk1 wk2 wk_46 ++ (cWeb cI wa w1 w2 w3 w4 w5 w6 w7 w8 w9 w)) H → va_D A (cWork cI wka wk1 wk2 wk_46 ++ (cWeb cI wa w1 w2 w3 w4 w5 w6 w7 w8 w9 w)) → va_S A s.heap H locs → lv_has ls 7 [(0, .ref wka), (1, .ref wa), (2, .int x), (3, .int y), (4, .int x4_46)] → W p l e ({ frames := 3, cells := 0, slots := 0, locals := 73 } : Room) s m ([.ref wka, .ref wa, .int x, .int y] : List Value).toArray below meth c H locs 0 0 Q (F0 m 116 ls []) := by
      intro x4_46 wk_46 H locs ls hf hP hD hS hl
      rw [k_run_46] at hf
      refine lv_aload_n hx hb dX5_run_116 rfl (lv_at hl 0 rfl) ?_
      refine va_get (D := D) (ci := 5) (v := .int (wk_46 0 0)) (C := RX5) (T := TX5) (N := 3) hx hb hts inT5 hown hK hP 0 rfl rfl 2 (by decide) (hts _ mT_196) (fun _ h9 => h9) rfl dX5_run_117 ?_
      refine lv_if_le (tgt := 127) hx hb dX5_run_120 (by decide) (fun c120 => ?_) (fun c120 => ?_)
      · have hf := ite_t c120 hf
        refine lv_iload hx hb dX5_run_127 (lv_at hl 4 rfl) ?_
        exact hret _ _ _ wk_46 _ _ hf dX5_run_129 hP hD hS
      · have hf := ite_f c120 hf
        refine lv_iconst (v := (-1)) hx hb dX5_run_123 (by decide) ?_
        refine lv_goto (tgt := 129) hx hb dX5_run_124 (by decide) ?_
        exact hret _ _ _ wk_46 _ _ hf dX5_run_129 hP hD hS
    have lh46 : ∀ (fu46 : Nat) (x4_46 : Int32) (wk_46 : Ob) (H : Heap) (locs : List Loc) (ls : Array Slot), lp_run_46 w x y k_run_46 fu46 x4_46 wk_46 = some (r, u) → va_P D vwCl (cWork cI wka wk1 wk2 wk_46 ++ (cWeb cI wa w1 w2 w3 w4 w5 w6 w7 w8 w9 w)) H → va_D A (cWork cI wka wk1 wk2 wk_46 ++ (cWeb cI wa w1 w2 w3 w4 w5 w6 w7 w8 w9 w)) → va_S A s.heap H locs → lv_has ls 7 [(0, .ref wka), (1, .ref wa), (2, .int x), (3, .int y), (4, .int x4_46)] → W p l e ({ frames := 3, cells := 0, slots := 0, locals := 73 } : Room) s m ([.ref wka, .ref wa, .int x, .int y] : List Value).toArray below meth c H locs 0 0 Q (F0 m 46 ls []) := by
      intro fu46
      induction fu46 with
      | zero => intro x4_46 wk_46 H locs ls hf hP hD hS hl; exact no_none hf
      | succ fu46 ih46 =>
        intro x4_46 wk_46 H locs ls hf hP hD hS hl
        rw [lp_run_46] at hf
        refine lv_aload_n hx hb dX5_run_46 rfl (lv_at hl 0 rfl) ?_
        refine va_get (D := D) (ci := 5) (v := .int (wk_46 0 0)) (C := RX5) (T := TX5) (N := 3) hx hb hts inT5 hown hK hP 0 rfl rfl 2 (by decide) (hts _ mT_196) (fun _ h9 => h9) rfl dX5_run_47 ?_
        refine lv_if_le (tgt := 116) hx hb dX5_run_50 (by decide) (fun c50 => ?_) (fun c50 => ?_)
        · have hf := ite_t c50 hf
          exact kx46 x4_46 wk_46 _ _ _ hf hP hD hS (lv_sub hl [0, 1, 2, 3, 4] rfl)
        · have hf := ite_f c50 hf
          refine lv_iload hx hb dX5_run_53 (lv_at hl 4 rfl) ?_
          refine lv_sipush (v := 2000) hx hb dX5_run_55 (by decide) ?_
          refine lv_icmp_ge (tgt := 116) hx hb dX5_run_58 (by decide) (fun c58 => ?_) (fun c58 => ?_)
          · have hf := ite_t c58 hf
            exact kx46 x4_46 wk_46 _ _ _ hf hP hD hS (lv_sub hl [0, 1, 2, 3, 4] rfl)
          · have hf := ite_f c58 hf
            refine lv_iinc (v := x4_46 + 1) (lv' := [(4, .int (x4_46 + 1)), (0, .ref wka), (1, .ref wa), (2, .int x), (3, .int y)]) hx hb dX5_run_61 hl (k := 4) rfl rfl (by decide) rfl (fun ls hl => ?_)
            refine lv_aload_n hx hb dX5_run_64 rfl (lv_at hl 1 rfl) ?_
            refine lv_iload_n hx hb dX5_run_65 rfl (lv_at hl 3 rfl) ?_
            obtain ⟨q66, h66, hf⟩ := bd_some hf
            refine kx_wi (As := [.int x]) (rest := []) (wc := cWork cI wka wk1 wk2 wk_46) (wr := [(wa, .inr (4, [.int (w 0 0), .int (w 0 1), .int (w 0 2), .ref w1, .ref w2, .ref w3, .ref w4, .ref w5, .ref w6, .ref w7, .ref w8, .ref w9])), (w1, .inl (cI, 64, .inl (w 1))), (w2, .inl (cI, 10, .inl (w 2))), (w3, .inl (cI, 10, .inl (w 3))), (w4, .inl (cI, 20, .inl (w 4))), (w5, .inl (cI, 20, .inl (w 5))), (w6, .inl (cI, 160, .inl (w 6))), (w7, .inl (cI, 20, .inl (w 7))), (w8, .inl (cI, 20, .inl (w 8))), (w9, .inl (cI, 20, .inl (w 9)))]) (wd := cWork cI wka wk1 wk2 q66.2) (wn := cWork cI wka wk1 wk2 q66.2 ++ (cWeb cI wa w1 w2 w3 w4 w5 w6 w7 w8 w9 w)) hx hb hml hown hts hk hP hD hS hA hl.1 s_yX5_takeNext v_yX5_takeNext (c_takeNext l D cI cZ cR wka wk1 wk2 wk_46 x H.size _ _ h66) mT_346 rfl rfl ⟨Nat.le_of_ble_eq_true rfl, Nat.le_of_ble_eq_true rfl⟩ [0, 1, 2] [3, 4, 5, 6, 7, 8, 9, 10, 11, 12] [10, 11, 12, 0, 1, 2, 3, 4, 5, 6, 7, 8, 9] rfl rfl (by decide) (by decide) (by decide) (by decide) rfl (ci := 5) (q0 := 0) rfl rfl rfl (Nat.le_of_ble_eq_true rfl) ⟨Nat.zero_le _, Nat.zero_le _⟩ dX5_run_66 (fun H locs hP hD hS => ?_)
            refine lv_istore (lv' := [(5, .int q66.1), (4, .int (x4_46 + 1)), (0, .ref wka), (1, .ref wa), (2, .int x), (3, .int y)]) hx hb dX5_run_69 hl (by decide) rfl (fun ls hl => ?_)
            refine lv_aload_n hx hb dX5_run_71 rfl (lv_at hl 3 rfl) ?_
            refine lv_iload hx hb dX5_run_72 (lv_at hl 0 rfl) ?_
            refine lv_aload_n hx hb dX5_run_74 rfl (lv_at hl 2 rfl) ?_
            refine va_get (D := D) (ci := 5) (v := .ref wk1) (C := RX5) (T := TX5) (N := 3) hx hb hts inT5 hown hK hP 0 rfl rfl 0 (by decide) (hts _ mT_193) (fun _ h9 => h9) rfl dX5_run_75 ?_
            refine lv_iload_n hx hb dX5_run_78 rfl (lv_at hl 5 rfl) ?_
            obtain ⟨q79, h79, hf⟩ := bd_some hf
            refine kx_rv (As := [.int q66.1, .ref wk1, .int y]) (rest := []) hx hb hml hown hts hk (hP.sub (ws' := cWeb cI wa w1 w2 w3 w4 w5 w6 w7 w8 w9 w ++ (cArr cI 10 wk1 (q66.2 1))) [3, 4, 5, 6, 7, 8, 9, 10, 11, 12, 1] rfl) hl.1 s_yX4_together v_yX4_together (c_together l D cI cZ cR wa w1 w2 w3 w4 w5 w6 w7 w8 w9 wk1 w (q66.2 1) q66.1 y _ h79) mT_354 rfl rfl ⟨Nat.le_of_ble_eq_true rfl, Nat.le_of_ble_eq_true rfl⟩ (ci := 4) (q0 := 0) rfl rfl rfl (Nat.le_of_ble_eq_true rfl) ⟨Nat.zero_le _, Nat.zero_le _⟩ dX5_run_79 ?_
            refine lv_istore (lv' := [(6, .int q79), (5, .int q66.1), (4, .int (x4_46 + 1)), (0, .ref wka), (1, .ref wa), (2, .int x), (3, .int y)]) hx hb dX5_run_82 hl (by decide) rfl (fun ls hl => ?_)
            refine lv_iload hx hb dX5_run_84 (lv_at hl 0 rfl) ?_
            refine lv_aload_n hx hb dX5_run_86 rfl (lv_at hl 3 rfl) ?_
            refine va_get (D := D) (ci := 5) (v := .ref wk1) (C := RX5) (T := TX5) (N := 3) hx hb hts inT5 hown hK hP 0 rfl rfl 0 (by decide) (hts _ mT_193) (fun _ h9 => h9) rfl dX5_run_87 ?_
            refine lv_iload hx hb dX5_run_90 (lv_at hl 1 rfl) ?_
            obtain ⟨b92, hf⟩ := gd_some hf
            refine va_iald (n := 10) (f := q66.2 1) hx hb hK hP 1 0 rfl rfl (ck_in b92) dX5_run_92 ?_
            refine lv_icmp_eq (tgt := 113) hx hb dX5_run_93 (by decide) (fun c93 => ?_) (fun c93 => ?_)
            · have hf := ite_t c93 hf
              refine lv_goto (tgt := 46) hx hb dX5_run_113 (by decide) ?_
              exact ih46 (x4_46 + 1) q66.2 _ _ _ hf hP hD hS (lv_sub hl [3, 4, 5, 6, 2] rfl)
            · have hf := ite_f c93 hf
              refine lv_aload_n hx hb dX5_run_96 rfl (lv_at hl 3 rfl) ?_
              refine va_get (D := D) (ci := 5) (v := .ref wk1) (C := RX5) (T := TX5) (N := 3) hx hb hts inT5 hown hK hP 0 rfl rfl 0 (by decide) (hts _ mT_193) (fun _ h9 => h9) rfl dX5_run_97 ?_
              refine lv_iload hx hb dX5_run_100 (lv_at hl 1 rfl) ?_
              refine lv_iload hx hb dX5_run_102 (lv_at hl 0 rfl) ?_
              obtain ⟨b104, hf⟩ := gd_some hf
              refine va_iast (n := 10) (f := q66.2 1) hx hb hK hP hD hS 1 0 rfl rfl (ck_in b104) dX5_run_104 (fun H locs hP hD hS => ?_)
              have hP : va_P D vwCl ([(wka, .inr (5, [.ref wk1, .ref wk2, .int (q66.2 0 0)])), (wk1, .inl (cI, 10, .inl (upd (q66.2 1) (Int32.toNatClampNeg q66.1) q79))), (wk2, .inl (cI, 10, .inl (q66.2 2)))] ++ (cWeb cI wa w1 w2 w3 w4 w5 w6 w7 w8 w9 w)) H := hP
              have hD : va_D A ([(wka, .inr (5, [.ref wk1, .ref wk2, .int (q66.2 0 0)])), (wk1, .inl (cI, 10, .inl (upd (q66.2 1) (Int32.toNatClampNeg q66.1) q79))), (wk2, .inl (cI, 10, .inl (q66.2 2)))] ++ (cWeb cI wa w1 w2 w3 w4 w5 w6 w7 w8 w9 w)) := hD
              refine lv_aload_n hx hb dX5_run_105 rfl (lv_at hl 3 rfl) ?_
              refine lv_aload_n hx hb dX5_run_106 rfl (lv_at hl 4 rfl) ?_
              refine lv_iload hx hb dX5_run_107 (lv_at hl 1 rfl) ?_
              refine lv_iload_n hx hb dX5_run_109 rfl (lv_at hl 6 rfl) ?_
              obtain ⟨q110, h110, hf⟩ := bd_some hf
              refine kx_wv (As := [.ref wa, .int q66.1, .int y]) (rest := []) (wc := cWork cI wka wk1 wk2 (sA q66.2 1 (upd (q66.2 1) (Int32.toNatClampNeg q66.1) q79)) ++ (cWeb cI wa w1 w2 w3 w4 w5 w6 w7 w8 w9 w)) (wr := []) (wd := cWork cI wka wk1 wk2 q110 ++ (cWeb cI wa w1 w2 w3 w4 w5 w6 w7 w8 w9 w)) (wn := cWork cI wka wk1 wk2 q110 ++ (cWeb cI wa w1 w2 w3 w4 w5 w6 w7 w8 w9 w)) hx hb hml hown hts hk hP hD hS hA hl.1 s_yX5_wakeBehind v_yX5_wakeBehind (c_wakeBehind l D cI cZ cR wka wk1 wk2 wa w1 w2 w3 w4 w5 w6 w7 w8 w9 (sA q66.2 1 (upd (q66.2 1) (Int32.toNatClampNeg q66.1) q79)) w q66.1 y H.size _ h110) mT_355 rfl rfl ⟨Nat.le_of_ble_eq_true rfl, Nat.le_of_ble_eq_true rfl⟩ [0, 1, 2, 3, 4, 5, 6, 7, 8, 9, 10, 11, 12] [] [0, 1, 2, 3, 4, 5, 6, 7, 8, 9, 10, 11, 12] rfl rfl (by decide) (by decide) (by decide) (by decide) rfl (ci := 5) (q0 := 0) rfl rfl rfl (Nat.le_of_ble_eq_true rfl) ⟨Nat.zero_le _, Nat.zero_le _⟩ dX5_run_110 (fun H locs hP hD hS => ?_)
              refine lv_goto (tgt := 46) hx hb dX5_run_113 (by decide) ?_
              exact ih46 (x4_46 + 1) q110 _ _ _ hf hP hD hS (lv_sub hl [3, 4, 5, 6, 2] rfl)
    exact lh46 10000 0 wk_11 _ _ _ hf hP hD hS (lv_sub hl [1, 2, 3, 4, 0] rfl)
  have lh11 : ∀ (fu11 : Nat) (x4_11 : Int32) (wk_11 : Ob) (H : Heap) (locs : List Loc) (ls : Array Slot), lp_run_11 w (k_run_11 w x y) fu11 x4_11 wk_11 = some (r, u) → va_P D vwCl (cWork cI wka wk1 wk2 wk_11 ++ (cWeb cI wa w1 w2 w3 w4 w5 w6 w7 w8 w9 w)) H → va_D A (cWork cI wka wk1 wk2 wk_11 ++ (cWeb cI wa w1 w2 w3 w4 w5 w6 w7 w8 w9 w)) → va_S A s.heap H locs → lv_has ls 7 [(0, .ref wka), (1, .ref wa), (2, .int x), (3, .int y), (4, .int x4_11)] → W p l e ({ frames := 3, cells := 0, slots := 0, locals := 73 } : Room) s m ([.ref wka, .ref wa, .int x, .int y] : List Value).toArray below meth c H locs 0 0 Q (F0 m 11 ls []) := by
    intro fu11
    induction fu11 with
    | zero => intro x4_11 wk_11 H locs ls hf hP hD hS hl; exact no_none hf
    | succ fu11 ih11 =>
      intro x4_11 wk_11 H locs ls hf hP hD hS hl
      rw [lp_run_11] at hf
      refine lv_iload hx hb dX5_run_11 (lv_at hl 4 rfl) ?_
      refine lv_aload_n hx hb dX5_run_13 rfl (lv_at hl 1 rfl) ?_
      refine va_get (D := D) (ci := 4) (v := .int (w 0 1)) (C := RX4) (T := TX4) (N := 12) hx hb hts inT4 hown hK hP 3 rfl rfl 1 (by decide) (hts _ mT_77) (fun _ h9 => h9) rfl dX5_run_14 ?_
      refine lv_icmp_ge (tgt := 43) hx hb dX5_run_17 (by decide) (fun c17 => ?_) (fun c17 => ?_)
      · have hf := ite_t c17 hf
        exact kx11 x4_11 wk_11 _ _ _ hf hP hD hS (lv_sub hl [0, 1, 2, 3, 4] rfl)
      · have hf := ite_f c17 hf
        refine lv_aload_n hx hb dX5_run_20 rfl (lv_at hl 0 rfl) ?_
        refine va_get (D := D) (ci := 5) (v := .ref wk1) (C := RX5) (T := TX5) (N := 3) hx hb hts inT5 hown hK hP 0 rfl rfl 0 (by decide) (hts _ mT_193) (fun _ h9 => h9) rfl dX5_run_21 ?_
        refine lv_iload hx hb dX5_run_24 (lv_at hl 4 rfl) ?_
        refine lv_iconst (v := 0) hx hb dX5_run_26 (by decide) ?_
        obtain ⟨b27, hf⟩ := gd_some hf
        refine va_iast (n := 10) (f := wk_11 1) hx hb hK hP hD hS 1 0 rfl rfl (ck_in b27) dX5_run_27 (fun H locs hP hD hS => ?_)
        have hP : va_P D vwCl ([(wka, .inr (5, [.ref wk1, .ref wk2, .int (wk_11 0 0)])), (wk1, .inl (cI, 10, .inl (upd (wk_11 1) (Int32.toNatClampNeg x4_11) 0))), (wk2, .inl (cI, 10, .inl (wk_11 2)))] ++ (cWeb cI wa w1 w2 w3 w4 w5 w6 w7 w8 w9 w)) H := hP
        have hD : va_D A ([(wka, .inr (5, [.ref wk1, .ref wk2, .int (wk_11 0 0)])), (wk1, .inl (cI, 10, .inl (upd (wk_11 1) (Int32.toNatClampNeg x4_11) 0))), (wk2, .inl (cI, 10, .inl (wk_11 2)))] ++ (cWeb cI wa w1 w2 w3 w4 w5 w6 w7 w8 w9 w)) := hD
        refine lv_aload_n hx hb dX5_run_28 rfl (lv_at hl 0 rfl) ?_
        refine va_get (D := D) (ci := 5) (v := .ref wk2) (C := RX5) (T := TX5) (N := 3) hx hb hts inT5 hown hK hP 0 rfl rfl 1 (by decide) (hts _ mT_195) (fun _ h9 => h9) rfl dX5_run_29 ?_
        refine lv_iload hx hb dX5_run_32 (lv_at hl 4 rfl) ?_
        refine lv_iload hx hb dX5_run_34 (lv_at hl 4 rfl) ?_
        obtain ⟨b36, hf⟩ := gd_some hf
        refine va_iast (n := 10) (f := wk_11 2) hx hb hK hP hD hS 2 0 rfl rfl (ck_in b36) dX5_run_36 (fun H locs hP hD hS => ?_)
        have hP : va_P D vwCl ([(wka, .inr (5, [.ref wk1, .ref wk2, .int (wk_11 0 0)])), (wk1, .inl (cI, 10, .inl (upd (wk_11 1) (Int32.toNatClampNeg x4_11) 0))), (wk2, .inl (cI, 10, .inl (upd (wk_11 2) (Int32.toNatClampNeg x4_11) x4_11)))] ++ (cWeb cI wa w1 w2 w3 w4 w5 w6 w7 w8 w9 w)) H := hP
        have hD : va_D A ([(wka, .inr (5, [.ref wk1, .ref wk2, .int (wk_11 0 0)])), (wk1, .inl (cI, 10, .inl (upd (wk_11 1) (Int32.toNatClampNeg x4_11) 0))), (wk2, .inl (cI, 10, .inl (upd (wk_11 2) (Int32.toNatClampNeg x4_11) x4_11)))] ++ (cWeb cI wa w1 w2 w3 w4 w5 w6 w7 w8 w9 w)) := hD
        refine lv_iinc (v := x4_11 + 1) (lv' := [(4, .int (x4_11 + 1)), (0, .ref wka), (1, .ref wa), (2, .int x), (3, .int y)]) hx hb dX5_run_37 hl (k := 4) rfl rfl (by decide) rfl (fun ls hl => ?_)
        refine lv_goto (tgt := 11) hx hb dX5_run_40 (by decide) ?_
        exact ih11 (x4_11 + 1) (sA (sA wk_11 1 (upd (wk_11 1) (Int32.toNatClampNeg x4_11) 0)) 2 (upd (wk_11 2) (Int32.toNatClampNeg x4_11) x4_11)) _ _ _ hf hP hD hS (lv_sub hl [1, 2, 3, 4, 0] rfl)
  exact lh11 10000 0 (sI wk 0 (w 0 1)) _ _ _ hf hP hD hS (lv_sub hl [1, 2, 3, 4, 0] rfl)
