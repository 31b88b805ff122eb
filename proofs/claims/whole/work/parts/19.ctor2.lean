theorem dfX4 : ∀ j, j < 12 → defaultValue (tyX4 j) = vp_V [.int 0, .int 0, .int 0, .null, .null, .null, .null, .null, .null, .null, .null, .null] j := by
  intro j hj
  rcases (show j = 0 ∨ j = 1 ∨ j = 2 ∨ j = 3 ∨ j = 4 ∨ j = 5 ∨ j = 6 ∨ j = 7 ∨ j = 8 ∨ j = 9 ∨ j = 10 ∨ j = 11 by omega) with rfl | rfl | rfl | rfl | rfl | rfl | rfl | rfl | rfl | rfl | rfl | rfl <;> rfl
theorem s_yX1_init : kMS yX1_init cX1_init 1 none 0 := ⟨mT_155, mT_54, by decide +kernel⟩
set_option maxHeartbeats 4000000 in
set_option maxRecDepth 100000 in
theorem c_Image_init (l : Launch) (D : va_G) (cI cZ cR : ClassId) (a sz : Nat) : kCc l yX1_init cX1_init 1 { frames := 2, cells := 10, slots := 356, locals := 32 } [.ref a] D cI cZ cR ([(a, .inr (1, [.null, .int 0, .int 0]))]) sz (Nat → Nat) (fun u : Nat → Nat => cImg a (u 0) O0 ++ cWeb cI (u 0) (u 1) (u 2) (u 3) (u 4) (u 5) (u 6) (u 7) (u 8) (u 9) O0) 10 356 := by
  refine kMc (wf := (fun u : Nat → Nat => cImg a (u 0) O0 ++ cWeb cI (u 0) (u 1) (u 2) (u 3) (u 4) (u 5) (u 6) (u 7) (u 8) (u 9) O0)) (by decide) (Nat.le_of_ble_eq_true rfl) ?_
  intro p e s m below meth c Q A hx hb hml hown hts hk hin hP hD hA hS hret ls hl
  have hK := hk.1
  have hl : lv_has ls 1 [(0, .ref a)] := hl
  refine lv_aload_n hx hb dX1_init_0 rfl (lv_at hl 0 rfl) ?_
  refine W.objInit hx hb hown (hts _ mT_156) (hts _ mT_67) (hts _ mT_68) rfl (by rw [hml]; exact hl.1) rfl dX1_init_1 (Nat.le_of_ble_eq_true rfl) (Nat.le_of_ble_eq_true rfl) ?_
  refine W.eq (g2 := F0 m 4 ls []) rfl ?_
  refine lv_aload_n hx hb dX1_init_4 rfl (lv_at hl 0 rfl) ?_
  refine va_new (ci := 4) (fs := [.int 0, .int 0, .int 0, .null, .null, .null, .null, .null, .null, .null, .null, .null]) (C := RX4) (T := TX4) (N := 12) hx hb hts inT4 tyX4 tyX4_ok hown (hts _ mT_157) (hts _ mT_70) (hts _ mT_52) hK hP hD hS hA rfl dfX4 (Nat.le_of_ble_eq_true rfl) (Nat.le_of_ble_eq_true rfl) dX1_init_5 (fun q5 H hP hD hS => ?_)
  refine W.widen (k := 1) (n := 12) (Nat.le_of_ble_eq_true rfl) (Nat.le_of_ble_eq_true rfl) ?_
  refine lv_dup hx hb dX1_init_8 rfl ?_
  refine kx_ctorN (wr := [(a, .inr (1, [.null, .int 0, .int 0]))]) (rest := [.ref q5, .ref a]) hx hb hml hown hts hk hP hD hS hA hl.1 s_yX4_init mT_72 (c_Web_init l D cI cZ cR q5 H.size) (List.mem_of_getElem? (i := 3) rfl) rfl rfl rfl ⟨Nat.le_of_ble_eq_true rfl, Nat.le_of_ble_eq_true rfl⟩ (Nat.le_of_ble_eq_true rfl) ⟨Nat.le_of_ble_eq_true rfl, Nat.le_of_ble_eq_true rfl⟩ dX1_init_9 (fun u H locs hP hD hS => ?_)
  refine W.widen (k := 10) (n := 356) (Nat.le_of_ble_eq_true rfl) (Nat.le_of_ble_eq_true rfl) ?_
  refine va_putF (D := D) (ci := 1) (v := .ref q5) (ty := .object "FixedFacts$Web") (C := RX1) (T := TX1) (N := 3) hx hb hts inT1 tyX1 tyX1_ok nmX1 hown hK hP hD hS 0 rfl rfl 0 (by decide) (hts _ mT_159) (fun _ h9 => h9) rfl hin rfl (by decide +kernel) rfl rfl (Nat.le_of_ble_eq_true rfl) dX1_init_12 (fun H locs hP hD hS => ?_)
  exact hret _ _ (fun i => [q5, u 1, u 2, u 3, u 4, u 5, u 6, u 7, u 8, u 9].getD i 0) _ _ dX1_init_15 hP hD hS
theorem s_yX3_init : kMS yX3_init cX3_init 2 none 0 := ⟨mT_135, mT_53, by decide +kernel⟩
theorem rgW_ra {cI : ClassId} {ra : Nat → Nat → Nat} {rg : Nat → Ob} {j : Nat} {a : Nat → Nat} : ∀ n, n ≤ j → rgW cI (va_up ra j a) rg n = rgW cI ra rg n
  | 0, _ => rfl
  | n + 1, h => by
    show rgW cI (va_up ra j a) rg n ++ cWebR cI (va_up ra j a n) (rg n) = rgW cI ra rg n ++ cWebR cI (ra n) (rg n)
    rw [rgW_ra n (by omega), show va_up ra j a n = ra n from if_neg (by omega)]
/-- the ring's row while it is filled -/
def rgF (ra : Nat → Nat → Nat) (n : Nat) : Nat → Option Nat := fun j => if j < n then some (ra j 0) else none
theorem rgF_put {ra : Nat → Nat → Nat} {n : Nat} {a : Nat → Nat} : va_up (rgF ra n) n (some (a 0)) = rgF (va_up ra n a) (n + 1) := by
  funext j
  unfold va_up rgF
  by_cases h : j = n
  · subst h
    simp
  · by_cases h2 : j < n
    · simp [h, h2, show j < n + 1 by omega]
    · simp [h, h2, show ¬ j < n + 1 by omega]
theorem rgF_cell {cR : ClassId} {ra : Nat → Nat → Nat} : vp_cell cR (16, .inr (.inr (.inr (.inr (rgF ra 16))))) = vp_cell cR (16, .inr (.inr (.inr (.inr (fun j => some (ra j 0)))))) := by
  show arrV cR 16 (fun j => va_rf (rgF ra 16 j)) = arrV cR 16 (fun j => va_rf (some (ra j 0)))
  unfold arrV
  congr 1
set_option maxHeartbeats 4000000 in
set_option maxRecDepth 100000 in
theorem c_Past_init (l : Launch) (D : va_G) (cI cZ cR : ClassId) (a sz : Nat) : kCc l yX3_init cX3_init 2 { frames := 2, cells := 161, slots := 5712, locals := 32 } [.ref a] D cI cZ cR ([(a, .inr (3, [.int 0, .int 0, .null]))]) sz (Nat × (Nat → Nat → Nat)) (fun u : Nat × (Nat → Nat → Nat) => cPst a u.1 O0 ++ cRing cI cR u.1 u.2 (fun _ => O0)) 161 5712 := by
  refine kMc (wf := (fun u : Nat × (Nat → Nat → Nat) => cPst a u.1 O0 ++ cRing cI cR u.1 u.2 (fun _ => O0))) (by decide) (Nat.le_of_ble_eq_true rfl) ?_
  intro p e s m below meth c Q A hx hb hml hown hts hk hin hP hD hA hS hret ls hl
  have hK := hk.1
  have hl : lv_has ls 2 [(0, .ref a)] := hl
  refine lv_aload_n hx hb dX3_init_0 rfl (lv_at hl 0 rfl) ?_
  refine W.objInit hx hb hown (hts _ mT_136) (hts _ mT_67) (hts _ mT_68) rfl (by rw [hml]; exact hl.1) rfl dX3_init_1 (Nat.le_of_ble_eq_true rfl) (Nat.le_of_ble_eq_true rfl) ?_
  refine W.eq (g2 := F0 m 4 ls []) rfl ?_
  refine lv_aload_n hx hb dX3_init_4 rfl (lv_at hl 0 rfl) ?_
  refine lv_bipush (v := 16) hx hb dX3_init_5 (by decide) ?_
  refine va_newq (C := RX4) (N' := 16) hx hb hown (hts _ mT_137) hk.2.2 hK hP hD hS hA (by decide) (by decide) (by decide) (Nat.le_of_ble_eq_true rfl) (Nat.le_of_ble_eq_true rfl) dX3_init_7 (fun q7 cA H hK1 hP hD hS => ?_)
  have hcA : cA = cR := by
    obtain ⟨_, _, _, _, _, h1⟩ := (hK1.2 3 _ rfl).2
    obtain ⟨_, _, _, _, _, h2⟩ := (hK.2 2 _ rfl).2
    exact Option.some.inj (h1.symm.trans h2)
  subst hcA
  refine W.widen (k := 1) (n := 16) (Nat.le_of_ble_eq_true rfl) (Nat.le_of_ble_eq_true rfl) ?_
  have hP : va_P D vwCl ([(a, .inr (3, [.int 0, .int 0, .null])), (q7, .inl (cA, 16, .inr (.inr (.inr (.inr (fun _ => none))))))]) H := hP
  have hD : va_D A ([(a, .inr (3, [.int 0, .int 0, .null])), (q7, .inl (cA, 16, .inr (.inr (.inr (.inr (fun _ => none))))))]) := hD
  refine va_putF (D := D) (ci := 3) (v := .ref q7) (ty := .array (.object "FixedFacts$Web")) (C := RX3) (T := TX3) (N := 3) hx hb hts inT3 tyX3 tyX3_ok nmX3 hown hK hP hD hS 0 rfl rfl 2 (by decide) (hts _ mT_143) (fun _ h9 => h9) rfl hin rfl (by decide +kernel) rfl rfl (Nat.le_of_ble_eq_true rfl) dX3_init_10 (fun H locs hP hD hS => ?_)
  have hP : va_P D vwCl ([(a, .inr (3, [.int 0, .int 0, .ref q7])), (q7, .inl (cA, 16, .inr (.inr (.inr (.inr (fun _ => none))))))]) H := hP
  have hD : va_D A ([(a, .inr (3, [.int 0, .int 0, .ref q7])), (q7, .inl (cA, 16, .inr (.inr (.inr (.inr (fun _ => none))))))]) := hD
  refine lv_iconst (v := 0) hx hb dX3_init_13 (by decide) ?_
  refine lv_istore_n (lv' := [(1, .int 0), (0, .ref a)]) hx hb dX3_init_14 rfl hl (by decide) rfl (fun ls hl => ?_)
  have loop : ∀ (n j : Nat) (ra : Nat → Nat → Nat) (H : Heap) (locs : List Loc) (ls : Array Slot), n + j = 16 → va_P D vwCl ([(a, .inr (3, [.int 0, .int 0, .ref q7])), (q7, .inl (cA, 16, .inr (.inr (.inr (.inr (rgF ra j))))))] ++ rgW cI ra (fun _ => O0) j) H → va_D A ([(a, .inr (3, [.int 0, .int 0, .ref q7])), (q7, .inl (cA, 16, .inr (.inr (.inr (.inr (rgF ra j))))))] ++ rgW cI ra (fun _ => O0) j) → va_S A s.heap H locs → lv_has ls 2 [(1, .int (nI j)), (0, .ref a)] → W p l e ({ frames := 2, cells := 161, slots := 5712, locals := 32 } : Room) s m ([.ref a] : List Value).toArray below meth c H locs (1 + j * 10) (16 + j * 356) Q (F0 m 15 ls []) := by
    intro n
    induction n with
    | zero =>
      intro j ra H locs ls hn hP hD hS hl
      have hj : j = 16 := by omega
      subst hj
      refine lv_iload_n hx hb dX3_init_15 rfl (lv_at hl 0 rfl) ?_
      refine lv_bipush (v := 16) hx hb dX3_init_16 (by decide) ?_
      refine lv_icmp_ge (tgt := 40) hx hb dX3_init_18 (by decide) (fun c18 => ?_) (fun c18 => absurd (by decide) c18)
      have hP' : va_P D vwCl (cPst a q7 O0 ++ cRing cI cA q7 ra (fun _ => O0)) H := by
        intro k q hq
        match k, hq with
        | 0, hq => exact hP 0 q hq
        | 1, hq =>
          cases hq
          exact Eq.trans (hP 1 _ rfl) (congrArg some rgF_cell)
        | k + 2, hq => exact hP (k + 2) q hq
      have h0 := vaD_nd hD
      have h1 : (List.map Prod.fst (cPst a q7 O0 ++ cRing cI cA q7 ra (fun _ => O0))).Nodup := h0
      have hD' : va_D A (cPst a q7 O0 ++ cRing cI cA q7 ra (fun _ => O0)) := by
        refine vaD_of h1 (fun q hq => ?_)
        rcases List.mem_cons.mp hq with rfl | hq
        · exact hD.2 0 _ rfl
        · rcases List.mem_cons.mp hq with rfl | hq
          · show A q7
            exact hD.2 1 _ rfl
          · exact vaD_mem hD (List.mem_cons_of_mem _ (List.mem_cons_of_mem _ hq))
      exact hret _ _ (q7, ra) _ _ dX3_init_40 hP' hD' hS
    | succ n ih =>
      intro j ra H locs ls hn hP hD hS hl
      have hj : j < 16 := by omega
      refine lv_iload_n hx hb dX3_init_15 rfl (lv_at hl 0 rfl) ?_
      refine lv_bipush (v := 16) hx hb dX3_init_16 (by decide) ?_
      refine lv_icmp_ge (tgt := 40) hx hb dX3_init_18 (by decide) (fun c18 => absurd c18 (nI_ge hj (by decide))) (fun c18 => ?_)
      refine lv_aload_n hx hb dX3_init_21 rfl (lv_at hl 1 rfl) ?_
      refine va_get (D := D) (ci := 3) (v := .ref q7) (C := RX3) (T := TX3) (N := 3) hx hb hts inT3 hown hK hP 0 rfl rfl 2 (by decide) (hts _ mT_143) (fun _ h9 => h9) rfl dX3_init_22 ?_
      refine lv_iload_n hx hb dX3_init_25 rfl (lv_at hl 0 rfl) ?_
      refine va_new (ci := 4) (fs := [.int 0, .int 0, .int 0, .null, .null, .null, .null, .null, .null, .null, .null, .null]) (C := RX4) (T := TX4) (N := 12) hx hb hts inT4 tyX4 tyX4_ok hown (hts _ mT_137) (hts _ mT_70) (hts _ mT_52) hK hP hD hS hA rfl dfX4 (by show 1 + j * 10 + 1 ≤ 161; omega) (by show 16 + j * 356 + 12 ≤ 5712; omega) dX3_init_26 (fun q26 H hP hD hS => ?_)
      refine lv_dup hx hb dX3_init_29 rfl ?_
      refine kx_ctorN (wr := [(a, .inr (3, [.int 0, .int 0, .ref q7])), (q7, .inl (cA, 16, .inr (.inr (.inr (.inr (rgF ra j))))))] ++ rgW cI ra (fun _ => O0) j) (rest := [.ref q26, .int (nI j), .ref q7]) hx hb hml hown hts hk hP hD hS hA hl.1 s_yX4_init mT_72 (c_Web_init l D cI cZ cA q26 H.size) (List.mem_of_getElem? (i := 1) rfl) rfl rfl rfl ⟨Nat.le_of_ble_eq_true rfl, Nat.le_of_ble_eq_true rfl⟩ (Nat.le_of_ble_eq_true rfl) ⟨by show 1 + j * 10 + 1 + 9 ≤ 161; omega, by show 16 + j * 356 + 12 + 344 ≤ 5712; omega⟩ dX3_init_30 (fun u H locs hP hD hS => ?_)
      obtain ⟨a9, ha9⟩ : ∃ a9 : Nat → Nat, a9 = (fun i => [q26, u 1, u 2, u 3, u 4, u 5, u 6, u 7, u 8, u 9].getD i 0) := ⟨_, rfl⟩
      have hw : cWeb cI q26 (u 1) (u 2) (u 3) (u 4) (u 5) (u 6) (u 7) (u 8) (u 9) O0 = cWebR cI a9 O0 := by rw [ha9]; rfl
      have hq26 : q26 = a9 0 := by rw [ha9]; rfl
      have hP : va_P D vwCl (([(a, .inr (3, [.int 0, .int 0, .ref q7])), (q7, .inl (cA, 16, .inr (.inr (.inr (.inr (rgF ra j))))))] ++ rgW cI ra (fun _ => O0) j) ++ cWebR cI a9 O0) H := by rw [← hw]; exact hP
      have hD : va_D A (([(a, .inr (3, [.int 0, .int 0, .ref q7])), (q7, .inl (cA, 16, .inr (.inr (.inr (.inr (rgF ra j))))))] ++ rgW cI ra (fun _ => O0) j) ++ cWebR cI a9 O0) := by rw [← hw]; exact hD
      have hp : (([(a, .inr (3, [.int 0, .int 0, .ref q7])), (q7, .inl (cA, 16, .inr (.inr (.inr (.inr (rgF ra j))))))] ++ rgW cI ra (fun _ => O0) j) ++ cWebR cI a9 O0 : va_W).Perm (([(a, .inr (3, [.int 0, .int 0, .ref q7])), (q7, .inl (cA, 16, .inr (.inr (.inr (.inr (rgF ra j))))))] ++ cWebR cI a9 O0) ++ rgW cI ra (fun _ => O0) j) := by
        rw [List.append_assoc, List.append_assoc]
        exact List.Perm.append_left _ List.perm_append_comm
      have hP : va_P D vwCl (([(a, .inr (3, [.int 0, .int 0, .ref q7])), (q7, .inl (cA, 16, .inr (.inr (.inr (.inr (rgF ra j))))))] ++ cWebR cI a9 O0) ++ rgW cI ra (fun _ => O0) j) H := pP hp hP
      have hD : va_D A (([(a, .inr (3, [.int 0, .int 0, .ref q7])), (q7, .inl (cA, 16, .inr (.inr (.inr (.inr (rgF ra j))))))] ++ cWebR cI a9 O0) ++ rgW cI ra (fun _ => O0) j) := pD hp hD
      refine W.eq (g2 := F0 m 33 ls [.ref (a9 0), .int (nI j), .ref q7]) (by rw [← hq26]) ?_
      refine va_astq (f := rgF ra j) (n := 16) (r := (RX4, TX4, 12)) (vs := [.int 0, .int 0, .int 0, .ref (a9 1), .ref (a9 2), .ref (a9 3), .ref (a9 4), .ref (a9 5), .ref (a9 6), .ref (a9 7), .ref (a9 8), .ref (a9 9)]) hx hb hK hP hD hS 1 2 2 4 rfl rfl rfl rfl (vp_in_nI hj (by decide)) dX3_init_33 (fun H locs hP hD hS => ?_)
      have hu : va_up (rgF ra j) (nI j).toNatClampNeg (some (a9 0)) = rgF (va_up ra j a9) (j + 1) := by rw [nI_clamp (by omega)]; exact rgF_put
      rw [hu] at hP hD
      have hP : va_P D vwCl (([(a, .inr (3, [.int 0, .int 0, .ref q7])), (q7, .inl (cA, 16, .inr (.inr (.inr (.inr (rgF (va_up ra j a9) (j + 1)))))))] ++ cWebR cI a9 O0) ++ rgW cI ra (fun _ => O0) j) H := hP
      have hD : va_D A (([(a, .inr (3, [.int 0, .int 0, .ref q7])), (q7, .inl (cA, 16, .inr (.inr (.inr (.inr (rgF (va_up ra j a9) (j + 1)))))))] ++ cWebR cI a9 O0) ++ rgW cI ra (fun _ => O0) j) := hD
      have hp2 : (([(a, .inr (3, [.int 0, .int 0, .ref q7])), (q7, .inl (cA, 16, .inr (.inr (.inr (.inr (rgF (va_up ra j a9) (j + 1)))))))] ++ cWebR cI a9 O0) ++ rgW cI ra (fun _ => O0) j : va_W).Perm ([(a, .inr (3, [.int 0, .int 0, .ref q7])), (q7, .inl (cA, 16, .inr (.inr (.inr (.inr (rgF (va_up ra j a9) (j + 1)))))))] ++ rgW cI (va_up ra j a9) (fun _ => O0) (j + 1)) := by
        rw [List.append_assoc]
        refine List.Perm.append_left _ ?_
        show List.Perm _ (rgW cI (va_up ra j a9) (fun _ => O0) j ++ cWebR cI (va_up ra j a9 j) O0)
        rw [rgW_ra j (Nat.le_refl j), show va_up ra j a9 j = a9 from if_pos rfl]
        exact List.perm_append_comm
      refine lv_iinc (v := nI (j + 1)) (lv' := [(1, .int (nI (j + 1))), (0, .ref a)]) hx hb dX3_init_34 hl (k := 0) rfl (nI_1 j) (by decide) rfl (fun ls hl => ?_)
      refine lv_goto (tgt := 15) hx hb dX3_init_37 (by decide) ?_
      refine W.widen (k := 1 + (j + 1) * 10) (n := 16 + (j + 1) * 356) (by omega) (by omega) ?_
      exact ih (j + 1) (va_up ra j a9) H locs ls (by omega) (pP hp2 hP) (pD hp2 hD) hS hl
  have e0 : rgF (fun _ _ => 0) 0 = fun _ => none := by funext j; simp [rgF]
  exact loop 16 0 (fun _ _ => 0) _ _ _ rfl (by rw [e0]; exact hP) (by rw [e0]; exact hD) hS hl
