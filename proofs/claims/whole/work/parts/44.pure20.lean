/-! what both sides come to when they work -/
noncomputable def fT (a : NO) (ch : Nat) (y : Int32) : Nat := Classical.epsilon (fun T => Fin' a ch y T)
noncomputable def fS (a : NO) (ch : Nat) (y : Int32) : (Nat → Nat) × List Nat := rs a ch y (fT a ch y)
theorem fT_eq {a : NO} {ch : Nat} {y : Int32} {T : Nat} (h : Fin' a ch y T) : fT a ch y = T := Fin'.eq (Classical.epsilon_spec (p := fun T => Fin' a ch y T) ⟨T, h⟩) h (fun _ => rfl)
/-- nothing that later calls show has changed -/
def RB (z : NO) : Prop := ∀ p, p < 10 → z 8 p < 8 ∧ z 8 (10 + p) < 256
def SmQ (z z' : NO) : Prop := (∀ i, i ≠ 0 → i ≠ 6 → i ≠ 7 → i ≠ 8 → i ≠ 9 → z' i = z i) ∧ (∀ k, k ≠ 11 → k ≠ 12 → k ≠ 13 → k ≠ 14 → k ≠ 16 → z' 0 k = z 0 k) ∧ (RB z → RB z')
theorem SmQ.rf (z : NO) : SmQ z z := ⟨fun _ _ _ _ _ _ => rfl, fun _ _ _ _ _ _ => rfl, id⟩
theorem SmQ.tr {x y z : NO} (h : SmQ x y) (g : SmQ y z) : SmQ x z := ⟨fun i a b c d e => (g.1 i a b c d e).trans (h.1 i a b c d e), fun k a b c d e => (g.2.1 k a b c d e).trans (h.2.1 k a b c d e), fun q => g.2.2 (h.2.2 q)⟩
theorem SmG.q {z z' : NO} (h : SmG z z') : SmQ z z' := ⟨fun i a _ _ _ _ => h.1 i a, fun k a b c d _ => h.2 k a b c d, fun q => by unfold RB; rw [h.1 8 (by decide)]; exact q⟩
theorem SmW.q {jj : Nat} {z z' : NO} (hj : jj = 6 ∨ jj = 7) (h : SmW jj z z') : SmQ z z' := ⟨fun i a b c _ e => h.1 i a e (by omega), fun k a b c d e => h.2 k a b c d e, fun q => by unfold RB; rw [h.1 8 (by decide) (by decide) (by omega)]; exact q⟩
section QU
variable {a : NO} {st : Nat → Nat}
theorem SW.lvb (h : SW a st) : LV (wb st) := Eqv.lv h.eqv h.gd
theorem fS_fin (hb : Bd a) (hv : LV a) {ch : Nat} (hc : ch < 3) (y : Int32) : Fin' a ch y (fT a ch y) := by
  obtain ⟨T, -, h, -⟩ := f_run_s hb hv hc (y := y) O0
  rw [fT_eq h]; exact h
theorem run_c (h : SW a st) {ch : Nat} (hc : ch < 3) (y : Int32) (wk : Ob) : ∃ wk', f_run wk (nO a) (nI ch) y = some (sT (fS a ch y) (fT a ch y), wk') ∧ ∀ p, p < a 0 1 → wk' 1 p = nI ((fS a ch y).1 p) := by
  obtain ⟨T, wk', h1, h2, h3⟩ := f_run_s h.bd h.gd.lv hc (y := y) wk
  have e := fT_eq h1
  unfold fS
  rw [e]
  exact ⟨wk', h2, h3.2⟩
theorem works_c {z : NO} (h : SW a (z 1)) {jj : Nat} (hj : jj = 6 ∨ jj = 7) {ch : Nat} (hc : ch < 3) (y : Int32) : ∃ z', f_m_works jj (nO z) (nI ch) y = some (sT (fS a ch y) (fT a ch y), nO z') ∧ SmW jj z z' ∧ Fm (z' jj) (fS a ch y).1 := by
  obtain ⟨T, z', h1, h2, h3⟩ := m_works_s (z0 := z) h.bs h.lvb (jj := jj) (by omega) (by omega) (by omega) hc (y := y)
  have hf := fS_fin h.bd h.gd.lv hc y
  obtain ⟨e1, e2⟩ := fin_c h.eqv h.gd hf h1
  unfold fS
  rw [e2, e1]
  exact ⟨z', h2, h3.1, h3.2.2⟩
theorem fS_end (h : SW a st) (hw : WL a) {ch : Nat} (hc : ch < 3) (y : Int32) : sT (fS a ch y) (fT a ch y) = nI (fT a ch y) ∧ fT a ch y ≤ 2000 := by
  have hf := fS_fin h.bd h.gd.lv hc y
  refine ⟨?_, hf.1⟩
  unfold sT
  rw [if_pos (show (fS a ch y).2 = [] from rs_end h.gd hw hf)]
theorem fS_lt (h : SW a st) (ch : Nat) (y : Int32) (p : Nat) : (fS a ch y).1 p < 2048 := (rs_ok h.bd h.gd.lv ch y _).2.2 p
theorem fS_M (h : SW a st) (ch : Nat) (y : Int32) {p : Nat} (hp : p < a 0 1) : (fS a ch y).1 p / 256 < a 0 0 := rs_M h.gd ch y _ p hp
theorem WL_b (h : SW a st) : WL (wb st) ↔ WL a := (WL_c h.eqv h.gd).symm
theorem m_well {z : NO} (h : SW a (z 1)) : f_m_isWell (nO z) = some (b01 (WL a)) := by
  rw [m_isWell_s h.bs (by rw [h.e0]; exact h.m0), b01_c (WL_b h)]
theorem fk_y (h : SW a st) (hw : WL a) (f kn : Ob) : ∃ kn', f_x_findKnown f (nO a) kn = some (1, kn') ∧ ∀ p, p < a 0 1 → kn' 1 p = nI ((fS a 0 (-1)).1 p) := by
  unfold f_x_findKnown
  rw [bd_s (f_isWell_s h.bd), if_neg (by rw [b01_t hw]; decide)]
  obtain ⟨kn', h1, h2⟩ := run_c h (ch := 0) (by decide) (-1) kn
  exact ⟨kn', by rw [show (0 : Int32) = nI 0 from rfl, bd_s h1], h2⟩
theorem fk_n (h : SW a st) (hw : ¬ WL a) (f kn : Ob) : f_x_findKnown f (nO a) kn = some (0, kn) := by
  unfold f_x_findKnown
  rw [bd_s (f_isWell_s h.bd), if_pos (by rw [b01_f hw])]
/-- how many places would be known otherwise -/
noncomputable def ow (a : NO) (y : Int32) : Nat := ct (fun p => ¬ (fS a 0 y).1 p = (fS a 0 (-1)).1 p) (a 0 1)
theorem ow_le (h : SW a st) (y : Int32) : ow a y ≤ 10 := Nat.le_trans (ct_le _ _) h.bd.2.1
theorem ct_s {P : Nat → Prop} {n : Nat} (h : P n) : ct P (n + 1) = ct P n + 1 := by
  show ct P n + @ite _ (P n) (Classical.propDecidable _) 1 0 = _
  rw [if_pos h]
theorem ct_n {P : Nat → Prop} {n : Nat} (h : ¬ P n) : ct P (n + 1) = ct P n := by
  show ct P n + @ite _ (P n) (Classical.propDecidable _) 1 0 = _
  rw [if_neg h]; rfl
theorem ow_x (h : SW a st) (f kn tr : Ob) (y : Int32) (hk : ∀ p, p < a 0 1 → kn 1 p = nI ((fS a 0 (-1)).1 p)) : ∃ tr', f_x_otherwiseWithout f (nO a) kn tr y = some (nI (ow a y), tr') := by
  unfold f_x_otherwiseWithout
  obtain ⟨tr', h1, h2⟩ := run_c h (ch := 0) (by decide) y tr
  have hP := h.bd.2.1
  rw [show f_run tr (nO a) 0 y = some (sT (fS a 0 y) (fT a 0 y), tr') from h1]
  refine ⟨tr', ?_⟩
  rw [bd_s rfl]
  obtain ⟨s, g1, g2⟩ := lp_inv (F := fun fu i (s : Int32) => lp_x_otherwiseWithout_18 tr' (nO a) kn (k_x_otherwiseWithout_18 tr') fu s i) (N := a 0 1) (inv := fun i s => s = nI (ct (fun p => ¬ (fS a 0 y).1 p = (fS a 0 (-1)).1 p) i)) (ke := fun s => some (s, tr'))
    (by
      rintro fu i s hi rfl
      have b1 := fS_lt h 0 y i
      have b2 := fS_lt h 0 (-1) i
      try dsimp only
      refine ⟨_, rfl, ?_⟩
      rw [lp_x_otherwiseWithout_18, if_neg (show ¬ nO a 0 1 ≤ nI i from nle hi (by omega)), gd_t (ck_nI (by omega) (by decide)), gd_t (ck_nI (by omega) (by decide)), cl (by omega), nI_1, h2 i hi, hk i hi, nI_1]
      simp only [nI_eq (show (fS a 0 y).1 i < 2 ^ 31 by omega) (show (fS a 0 (-1)).1 i < 2 ^ 31 by omega)]
      by_cases c : (fS a 0 y).1 i = (fS a 0 (-1)).1 i
      · rw [if_pos c, ct_n (fun q => q c)]
      · rw [if_neg c, ct_s c])
    (by
      rintro fu s -
      try dsimp only
      rw [lp_x_otherwiseWithout_18, if_pos (show nO a 0 1 ≤ nI (a 0 1) from nlr (by omega))]
      rfl) 10000 0 0 rfl (by omega) (by omega)
  subst g1
  exact g2
theorem Fm_eq {F G h g : Nat → Nat} (hF : Fm F h) (hG : Fm G g) {p : Nat} (hp : p < 10) : (F p = G p ∧ F (10 + p) = G (10 + p)) ↔ h p = g p := by
  have h1 := hF p hp
  have h2 := hG p hp
  rw [h1.1, h1.2, h2.1, h2.2]
  omega
theorem wo_m {z : NO} (h : SW a (z 1)) (hw : WL a) (y : Int32) : ∃ z', f_m_without (nO z) y = some (nI (ow a y), nO z') ∧ SmQ z z' := by
  unfold f_m_without
  have hP := h.bd.2.1
  obtain ⟨z1, h1, h2, h3⟩ := works_c h (jj := 6) (Or.inl rfl) (ch := 0) (by decide) (-1)
  have s1 : z1 1 = z 1 := h2.1 1 (by decide) (by decide) (by decide)
  have h' : SW a (z1 1) := by rw [s1]; exact h
  obtain ⟨z2, k1, k2, k3⟩ := works_c h' (jj := 7) (Or.inr rfl) (ch := 0) (by decide) y
  have s2 : z2 1 = z 1 := (k2.1 1 (by decide) (by decide) (by decide)).trans s1
  have hF6 : Fm (z2 6) (fS a 0 (-1)).1 := by rw [k2.1 6 (by decide) (by decide) (by decide)]; exact h3
  have e1 := fS_end h hw (ch := 0) (by decide) (-1)
  have e2 := fS_end h hw (ch := 0) (by decide) y
  rw [show f_m_works 6 (nO z) 0 (-1) = some (sT (fS a 0 (-1)) (fT a 0 (-1)), nO z1) from h1, bd_s rfl, show f_m_works 7 (sT (fS a 0 (-1)) (fT a 0 (-1)), nO z1).2 0 y = some (sT (fS a 0 y) (fT a 0 y), nO z2) from k1, bd_s rfl]
  refine ⟨z2, ?_, (SmW.q (Or.inl rfl) h2).tr (SmW.q (Or.inr rfl) k2)⟩
  try dsimp only
  obtain ⟨s, g1, g2⟩ := lp_inv (F := fun fu i (s : Int32) => lp_m_without_28 (nO z2) (k_m_without_28 (nO z2) (sT (fS a 0 (-1)) (fT a 0 (-1)), nO z1) (sT (fS a 0 y) (fT a 0 y), nO z2)) fu s i) (N := a 0 1) (inv := fun i s => s = nI (ct (fun p => ¬ (fS a 0 y).1 p = (fS a 0 (-1)).1 p) i)) (ke := fun s => k_m_without_28 (nO z2) (sT (fS a 0 (-1)) (fT a 0 (-1)), nO z1) (sT (fS a 0 y) (fT a 0 y), nO z2) s (nI (a 0 1)))
    (by
      rintro fu i s hi rfl
      have b1 := fS_lt h 0 y i
      have b2 := fS_lt h 0 (-1) i
      have q1 := hF6 i (by omega)
      have q2 := k3 i (by omega)
      have qq := Fm_eq k3 hF6 (p := i) (by omega)
      try dsimp only
      refine ⟨_, rfl, ?_⟩
      rw [lp_m_without_28, c1, if_neg (show ¬ nO z2 1 1 ≤ nI i by rw [show nO z2 1 1 = nI (a 0 1) from congrArg nI (by rw [s2, h.e1])]; exact nle hi (by omega)), gd_t (ck_nI (by omega) (by decide)), gd_t (ck_nI (by omega) (by decide)), ix10, gd_t (ck_nI (by omega) (by decide)), gd_t (ck_nI (by omega) (by decide)), cl (by omega), cl (by omega), nI_1, nI_1, show (0 : Int32) = nI 0 from rfl, nI_add]
      show (if nI (z2 6 i) = nI (z2 7 i) then (if nI (z2 6 (10 + i)) = nI (z2 7 (10 + i)) then _ else _) else _) = _
      simp only [nI_eq (show z2 6 i < 2 ^ 31 by omega) (show z2 7 i < 2 ^ 31 by omega), nI_eq (show z2 6 (10 + i) < 2 ^ 31 by omega) (show z2 7 (10 + i) < 2 ^ 31 by omega)]
      by_cases c : (fS a 0 y).1 i = (fS a 0 (-1)).1 i
      · have := qq.mpr c
        rw [if_pos this.1.symm, if_pos this.2.symm, ct_n (fun q => q c)]
        rfl
      · rw [ct_s c]
        by_cases d : z2 6 i = z2 7 i
        · rw [if_pos d, if_neg (fun e => c (qq.mp ⟨d.symm, e.symm⟩))]
        · rw [if_neg d])
    (by
      rintro fu s -
      try dsimp only
      rw [lp_m_without_28, c1, if_pos (show nO z2 1 1 ≤ nI (a 0 1) by rw [show nO z2 1 1 = nI (a 0 1) from congrArg nI (by rw [s2, h.e1])]; exact nlr (by omega))]) 10000 0 0 rfl (by omega) (by omega)
  subst g1
  refine Eq.trans g2 ?_
  try dsimp only
  rw [k_m_without_28, if_neg (show ¬ (sT (fS a 0 (-1)) (fT a 0 (-1))) < 0 by rw [e1.1]; exact nI_pos (by omega)), if_pos (show 0 ≤ (sT (fS a 0 y) (fT a 0 y)) by rw [e2.1]; exact nI_pos' (by omega))]
  rfl
/-- the ways that matter -/
noncomputable def mt (a : NO) : Nat → Nat
  | 0 => 0
  | w + 1 => if ow a (nI w) = 0 then mt a w else mt a w ||| 2 ^ w
theorem mt_x (h : SW a st) (f kn tr : Ob) (hk : ∀ p, p < a 0 1 → kn 1 p = nI ((fS a 0 (-1)).1 p)) : ∃ tr', lp_x_waysThatMatter_13 kn f (nO a) (k_x_waysThatMatter_13 kn) 10000 0 0 tr = some (nI (mt a (a 0 2)), kn, tr') := by
  have hW := h.bd.2.2.1
  obtain ⟨⟨s, tr'⟩, g1, g2⟩ := lp_inv (F := fun fu i (s : Int32 × Ob) => lp_x_waysThatMatter_13 kn f (nO a) (k_x_waysThatMatter_13 kn) fu s.1 i s.2) (N := a 0 2) (inv := fun i s => s.1 = nI (mt a i)) (ke := fun s => some (s.1, kn, s.2))
    (by
      rintro fu i ⟨s, tr⟩ hi rfl
      obtain ⟨tr', t1⟩ := ow_x h f kn tr (nI i) hk
      have hle := ow_le h (nI i)
      try dsimp only
      refine ⟨(nI (mt a (i + 1)), tr'), rfl, ?_⟩
      try dsimp only
      rw [lp_x_waysThatMatter_13, if_neg (show ¬ nO a 0 2 ≤ nI i from nle hi (by omega)), bd_s t1, nI_1, pw_nI i (by omega), nx_or]
      by_cases c : ow a (nI i) = 0
      · rw [if_pos (show nI (ow a (nI i)) ≤ 0 by rw [c]; exact nlr (a := 0) (by decide)), show mt a (i + 1) = mt a i from if_pos c]
      · rw [if_neg (nI_nle (by omega) (by omega)), show mt a (i + 1) = mt a i ||| 2 ^ i from if_neg c])
    (by
      rintro fu ⟨s, tr⟩ -
      try dsimp only
      rw [lp_x_waysThatMatter_13, if_pos (show nO a 0 2 ≤ nI (a 0 2) from nlr (by omega))]
      rfl) 10000 0 (0, tr) rfl (by omega) (by omega)
  have g1 : s = nI (mt a (a 0 2)) := g1
  exact ⟨tr', by rw [← g1]; exact g2⟩
theorem mt_m {z : NO} (h : SW a (z 1)) (hw : WL a) : ∃ z', f_m_matters (nO z) = some (nI (mt a (a 0 2)), nO z') ∧ SmQ z z' := by
  unfold f_m_matters
  have hW := h.bd.2.2.1
  obtain ⟨⟨s, o⟩, ⟨g1, z', rfl, g2⟩, g3⟩ := lp_inv (F := fun fu i (s : Int32 × Ob) => lp_m_matters_4 k_m_matters_4 fu s.1 i s.2) (N := a 0 2) (inv := fun i s => s.1 = nI (mt a i) ∧ ∃ z', s.2 = nO z' ∧ SmQ z z') (ke := fun s => some (s.1, s.2))
    (by
      rintro fu i ⟨s, o⟩ hi ⟨rfl, z', rfl, q⟩
      have r1 : z' 1 = z 1 := q.1 1 (by decide) (by decide) (by decide) (by decide) (by decide)
      obtain ⟨z2, t1, t2⟩ := wo_m (z := z') (by rw [r1]; exact h) hw (nI i)
      have hle := ow_le h (nI i)
      try dsimp only
      refine ⟨(nI (mt a (i + 1)), nO z2), ⟨rfl, z2, rfl, q.tr t2⟩, ?_⟩
      try dsimp only
      rw [lp_m_matters_4, c2, if_neg (show ¬ nO z' 1 2 ≤ nI i by rw [show nO z' 1 2 = nI (a 0 2) from congrArg nI (by rw [r1, h.e2])]; exact nle hi (by omega)), bd_s t1, nI_1, pw_nI i (by omega), nx_or, show nI (mt a i) ||| 0 = nI (mt a i) by rw [show (0 : Int32) = nI 0 from rfl, nx_or, Nat.or_zero]]
      by_cases c : ow a (nI i) = 0
      · rw [if_pos (show nI (ow a (nI i)) ≤ 0 by rw [c]; exact nlr (a := 0) (by decide)), show mt a (i + 1) = mt a i from if_pos c]
      · rw [if_neg (nI_nle (by omega) (by omega)), show mt a (i + 1) = mt a i ||| 2 ^ i from if_neg c])
    (by
      rintro fu ⟨s, o⟩ ⟨-, z', q0, q⟩
      have r1 : z' 1 = z 1 := q.1 1 (by decide) (by decide) (by decide) (by decide) (by decide)
      have q0 : o = nO z' := q0
      subst q0
      try dsimp only
      rw [lp_m_matters_4, c2, if_pos (show nO z' 1 2 ≤ nI (a 0 2) by rw [show nO z' 1 2 = nI (a 0 2) from congrArg nI (by rw [r1, h.e2])]; exact nlr (by omega))]
      rfl) 10000 0 (0, nO z) ⟨rfl, z, rfl, SmQ.rf z⟩ (by omega) (by omega)
  have g1 : s = nI (mt a (a 0 2)) := g1
  exact ⟨z', by rw [← g1]; exact g3, g2⟩
end QU
