/-! if all is well, the work ends -/
noncomputable def ct (P : Nat → Prop) : Nat → Nat
  | 0 => 0
  | n + 1 => ct P n + @ite _ (P n) (Classical.propDecidable _) 1 0
theorem ct_le (P : Nat → Prop) : ∀ n, ct P n ≤ n
  | 0 => Nat.le_refl _
  | n + 1 => by
    have ih := ct_le P n
    unfold ct
    by_cases c : P n
    · rw [if_pos c]; omega
    · rw [if_neg c]; omega
theorem ct_mono {P Q : Nat → Prop} : ∀ n, (∀ i, i < n → P i → Q i) → ct P n ≤ ct Q n
  | 0, _ => Nat.le_refl _
  | n + 1, h => by
    have ih := ct_mono n (fun i hi => h i (by omega))
    unfold ct
    by_cases c : P n
    · rw [if_pos c, if_pos (h n (by omega) c)]; omega
    · rw [if_neg c]; omega
theorem ct_lt {P Q : Nat → Prop} : ∀ n, (∀ i, i < n → P i → Q i) → (∃ i, i < n ∧ Q i ∧ ¬ P i) → ct P n + 1 ≤ ct Q n
  | 0, _, h => by obtain ⟨i, h, _⟩ := h; omega
  | n + 1, h, ⟨i, h1, h2, h3⟩ => by
    unfold ct
    by_cases e : i = n
    · subst e
      have := ct_mono i (fun j hj => h j (by omega))
      rw [if_neg h3, if_pos h2]; omega
    · have ih := ct_lt n (fun j hj => h j (by omega)) ⟨i, by omega, h2, h3⟩
      by_cases c : P n
      · rw [if_pos c, if_pos (h n (by omega) c)]; omega
      · rw [if_neg c]; omega
def sm (f : Nat → Nat) : Nat → Nat
  | 0 => 0
  | n + 1 => sm f n + f n
theorem sm_le {f : Nat → Nat} {k : Nat} (h : ∀ i, f i ≤ k) : ∀ n, sm f n ≤ n * k
  | 0 => Nat.zero_le _
  | n + 1 => by
    have ih := sm_le h n
    have := h n
    unfold sm
    rw [Nat.add_mul]
    omega
theorem sm_mono {f g : Nat → Nat} : ∀ n, (∀ i, i < n → f i ≤ g i) → sm f n ≤ sm g n
  | 0, _ => Nat.le_refl _
  | n + 1, h => by
    have ih := sm_mono n (fun i hi => h i (by omega))
    have := h n (by omega)
    unfold sm
    omega
theorem sm_lt {f g : Nat → Nat} : ∀ n, (∀ i, i < n → f i ≤ g i) → (∃ i, i < n ∧ f i + 1 ≤ g i) → sm f n + 1 ≤ sm g n
  | 0, _, h => by obtain ⟨i, h, _⟩ := h; omega
  | n + 1, h, ⟨i, h1, h2⟩ => by
    unfold sm
    by_cases e : i = n
    · subst e
      have := sm_mono i (fun j hj => h j (by omega))
      omega
    · have ih := sm_lt n (fun j hj => h j (by omega)) ⟨i, by omega, h2⟩
      have := h n (by omega)
      omega
section TM
variable {a : NO}
def lv (a : NO) (x y : Nat) : Prop := jn a x y = y
def sbs (s t : Nat) : Prop := ∀ i, s.testBit i = true → t.testBit i = true
def fl (a : NO) (x y : Nat) : Prop := lv a (x / 256) (y / 256) ∧ sbs (x % 256) (y % 256)
theorem sbs_rf (s : Nat) : sbs s s := fun _ h => h
theorem sbs_0 (s : Nat) : sbs 0 s := fun i h => by simp at h
theorem sbs_or {s t u v : Nat} (h : sbs s t) (g : sbs u v) : sbs (s ||| u) (t ||| v) := by
  intro i q
  rw [Nat.testBit_or, Bool.or_eq_true] at q ⊢
  exact q.imp (h i) (g i)
theorem sbs_mk {s s' t g : Nat} (h : sbs s s') : sbs (mk s t g) (mk s' t g) := by
  unfold mk
  refine sbs_or (fun i q => ?_) (sbs_rf g)
  rw [Nat.testBit_and, Bool.and_eq_true] at q ⊢
  exact ⟨h i q.1, q.2⟩
theorem lv_tr (g : Gd a) (hw : WL a) {x y z : Nat} (hx : x < a 0 0) (hy : y < a 0 0) (hz : z < a 0 0) (h1 : lv a x y) (h2 : lv a y z) : lv a x z := by
  obtain ⟨l1, l2, l3, l4⟩ := bl_0.mp hw.1
  unfold lv at *
  have := l3 x hx y hy z hz
  rw [h1, h2] at this
  exact this.symm
theorem lv_up1 (g : Gd a) (hw : WL a) {x y : Nat} (hx : x < a 0 0) (hy : y < a 0 0) : lv a x (jn a x y) := by
  obtain ⟨l1, l2, l3, l4⟩ := bl_0.mp hw.1
  unfold lv
  have := l3 x hx x hx y hy
  rw [l1 x hx] at this
  exact this.symm
theorem lv_up2 (g : Gd a) (hw : WL a) {x y : Nat} (hx : x < a 0 0) (hy : y < a 0 0) : lv a y (jn a x y) := by
  obtain ⟨l1, l2, l3, l4⟩ := bl_0.mp hw.1
  rw [l2 x hx y hy]
  exact lv_up1 g hw hy hx
theorem lv_lub (g : Gd a) (hw : WL a) {x y z : Nat} (hx : x < a 0 0) (hy : y < a 0 0) (hz : z < a 0 0) (h1 : lv a x z) (h2 : lv a y z) : lv a (jn a x y) z := by
  obtain ⟨l1, l2, l3, l4⟩ := bl_0.mp hw.1
  unfold lv at *
  rw [l3 x hx y hy z hz, h2, h1]
theorem lv_jn (g : Gd a) (hw : WL a) {x y x' y' : Nat} (hx : x < a 0 0) (hy : y < a 0 0) (hx' : x' < a 0 0) (hy' : y' < a 0 0) (h1 : lv a x x') (h2 : lv a y y') : lv a (jn a x y) (jn a x' y') := by
  have hj := g.2.2.1 x' hx' y' hy'
  exact lv_lub g hw hx hy hj (lv_tr g hw hx hx' hj h1 (lv_up1 g hw hx' hy')) (lv_tr g hw hy hy' hj h2 (lv_up2 g hw hx' hy'))
theorem lv_as (g : Gd a) (hw : WL a) {x y : Nat} (hx : x < a 0 0) (hy : y < a 0 0) (h1 : lv a x y) (h2 : lv a y x) : x = y := by
  obtain ⟨l1, l2, l3, l4⟩ := bl_0.mp hw.1
  unfold lv at *
  rw [← h2, l2 y hy x hx, h1]
theorem lv_rf (hw : WL a) {x : Nat} (hx : x < a 0 0) : lv a x x := (bl_0.mp hw.1).1 x hx
theorem lv_0 (hw : WL a) {x : Nat} (hx : x < a 0 0) : lv a 0 x := (bl_0.mp hw.1).2.2.2 x hx
theorem bw_mono (g : Gd a) (hw : WL a) {w h h' : Nat} (hlw : w < a 0 2) (hh : h / 256 < a 0 0) (hh' : h' / 256 < a 0 0) (hl : fl a h h') : lv a (bw a w h).1 (bw a w h').1 ∧ sbs (bw a w h).2 (bw a w h').2 := by
  have hg := (g.2.2.2.1 w hlw).2.2.1
  have hm := (g.2.2.2.1 w hlw).2.2.2
  have hM' := bw_M g hlw hh'
  by_cases c : jn a (a 9 w) (h / 256) = h / 256
  · have c' : jn a (a 9 w) (h' / 256) = h' / 256 := lv_tr g hw hg hh hh' c hl.1
    unfold bw
    rw [if_pos c, if_pos c']
    exact ⟨hw.2 w hlw _ hh _ hh' hl.1, sbs_mk hl.2⟩
  · have e : bw a w h = (0, 0) := by unfold bw; rw [if_neg c]
    rw [e]
    exact ⟨lv_0 hw hM', sbs_0 _⟩
theorem tg_mono (g : Gd a) (hw : WL a) {h h' : Nat → Nat} {y : Int32} {p : Nat} (hp : p < a 0 1) (hf : ∀ q, q < a 0 1 → h q / 256 < a 0 0) (hf' : ∀ q, q < a 0 1 → h' q / 256 < a 0 0) (hl : ∀ q, q < a 0 1 → fl a (h q) (h' q)) : ∀ n, n ≤ a 0 2 → lv a (tg a h y p n).1 (tg a h' y p n).1 ∧ sbs (tg a h y p n).2 (tg a h' y p n).2
  | 0, _ => ⟨lv_rf hw (g.2.2.2.2 p hp).1, sbs_rf _⟩
  | n + 1, hn => by
    have ih := tg_mono g hw (y := y) hp hf hf' hl n (by omega)
    have m1 := tg_M g (y := y) hp hf n (by omega)
    have m2 := tg_M g (y := y) hp hf' n (by omega)
    have hq := (g.2.2.2.1 n (by omega)).1
    have b := bw_mono g hw (w := n) (by omega) (hf _ hq) (hf' _ hq) (hl _ hq)
    have b1 := bw_M g (w := n) (by omega) (hf _ hq)
    have b2 := bw_M g (w := n) (by omega) (hf' _ hq)
    unfold tg
    by_cases c : a 5 n = p ∧ ¬ nI n = y
    · rw [if_pos c, if_pos c]
      exact ⟨lv_jn g hw m1 b1 m2 b2 ih.1 b.1, sbs_or ih.2 b.2⟩
    · rw [if_neg c, if_neg c]; exact ih
theorem tog_mono (g : Gd a) (hw : WL a) {h h' : Nat → Nat} {y : Int32} {p : Nat} (hp : p < a 0 1) (hf : ∀ q, q < a 0 1 → h q / 256 < a 0 0) (hf' : ∀ q, q < a 0 1 → h' q / 256 < a 0 0) (hl : ∀ q, q < a 0 1 → fl a (h q) (h' q)) : fl a (tog a h y p) (tog a h' y p) := by
  have t := tg_mono g hw (y := y) hp hf hf' hl _ (Nat.le_refl _)
  have b1 := (tg_b g.1 h y p (a 0 2)).2
  have b2 := (tg_b g.1 h' y p (a 0 2)).2
  unfold fl tog
  rw [show ((tg a h y p (a 0 2)).1 * 256 + (tg a h y p (a 0 2)).2) / 256 = (tg a h y p (a 0 2)).1 by omega, show ((tg a h y p (a 0 2)).1 * 256 + (tg a h y p (a 0 2)).2) % 256 = (tg a h y p (a 0 2)).2 by omega, show ((tg a h' y p (a 0 2)).1 * 256 + (tg a h' y p (a 0 2)).2) / 256 = (tg a h' y p (a 0 2)).1 by omega, show ((tg a h' y p (a 0 2)).1 * 256 + (tg a h' y p (a 0 2)).2) % 256 = (tg a h' y p (a 0 2)).2 by omega]
  exact t
theorem fl_tr (g : Gd a) (hw : WL a) {x y z : Nat} (hx : x / 256 < a 0 0) (hy : y / 256 < a 0 0) (hz : z / 256 < a 0 0) (h1 : fl a x y) (h2 : fl a y z) : fl a x z := ⟨lv_tr g hw hx hy hz h1.1 h2.1, fun i q => h2.2 i (h1.2 i q)⟩
theorem fl_rf (hw : WL a) {x : Nat} (hx : x / 256 < a 0 0) : fl a x x := ⟨lv_rf hw hx, sbs_rf _⟩
noncomputable def rk (a : NO) (f : Nat) : Nat := ct (fun x => lv a x (f / 256)) (a 0 0) + ct (fun i => (f % 256).testBit i = true) 8
theorem rk_le (g : Gd a) (f : Nat) : rk a f ≤ 16 := by
  have h1 := ct_le (fun x => lv a x (f / 256)) (a 0 0)
  have h2 := ct_le (fun i => (f % 256).testBit i = true) 8
  have h3 := g.1.1
  unfold rk
  omega
theorem rk_mono (g : Gd a) (hw : WL a) {x y : Nat} (hx : x / 256 < a 0 0) (hy : y / 256 < a 0 0) (h : fl a x y) : rk a x ≤ rk a y := by
  have h1 := ct_mono (P := fun v => lv a v (x / 256)) (Q := fun v => lv a v (y / 256)) (a 0 0) (fun i hi q => lv_tr g hw hi hx hy q h.1)
  have h2 := ct_mono (P := fun i => (x % 256).testBit i = true) (Q := fun i => (y % 256).testBit i = true) 8 (fun i _ q => h.2 i q)
  unfold rk
  omega
theorem rk_lt (g : Gd a) (hw : WL a) {x y : Nat} (hx : x / 256 < a 0 0) (hy : y / 256 < a 0 0) (h : fl a x y) (hn : ¬ x = y) : rk a x + 1 ≤ rk a y := by
  have h1 := ct_mono (P := fun v => lv a v (x / 256)) (Q := fun v => lv a v (y / 256)) (a 0 0) (fun i hi q => lv_tr g hw hi hx hy q h.1)
  have h2 := ct_mono (P := fun i => (x % 256).testBit i = true) (Q := fun i => (y % 256).testBit i = true) 8 (fun i _ q => h.2 i q)
  by_cases c : x / 256 = y / 256
  · have hne : x % 256 ≠ y % 256 := by omega
    have : ∃ i, (x % 256).testBit i ≠ (y % 256).testBit i := by
      refine Classical.byContradiction (fun q => hne (Nat.eq_of_testBit_eq (fun i => ?_)))
      refine Classical.byContradiction (fun r => q ⟨i, r⟩)
    obtain ⟨i, hi⟩ := this
    have hi8 : i < 8 := by
      refine Classical.byContradiction (fun q => hi ?_)
      rw [Nat.testBit_lt_two_pow (Nat.lt_of_lt_of_le (show x % 256 < 2 ^ 8 from Nat.mod_lt x (by decide)) (Nat.pow_le_pow_right (by decide) (show 8 ≤ i by omega))), Nat.testBit_lt_two_pow (Nat.lt_of_lt_of_le (show y % 256 < 2 ^ 8 from Nat.mod_lt y (by decide)) (Nat.pow_le_pow_right (by decide) (show 8 ≤ i by omega)))]
    have hxi : ¬ (x % 256).testBit i = true := by
      intro q
      exact hi (q.trans (h.2 i q).symm)
    have hyi : (y % 256).testBit i = true := by
      cases e : (y % 256).testBit i with
      | true => rfl
      | false =>
        cases e2 : (x % 256).testBit i with
        | true => exact absurd e2 hxi
        | false => exact absurd (e2.trans e.symm) hi
    have := ct_lt (P := fun i => (x % 256).testBit i = true) (Q := fun i => (y % 256).testBit i = true) 8 (fun i _ q => h.2 i q) ⟨i, hi8, hyi, hxi⟩
    unfold rk
    omega
  · have := ct_lt (P := fun v => lv a v (x / 256)) (Q := fun v => lv a v (y / 256)) (a 0 0) (fun i hi q => lv_tr g hw hi hx hy q h.1) ⟨y / 256, hy, lv_rf hw hy, fun q => c (lv_as g hw hx hy h.1 q)⟩
    unfold rk
    omega
theorem rs_inv (g : Gd a) (hw : WL a) (ch : Nat) (y : Int32) : ∀ n, (∀ u, u < n → (rs a ch y u).2 ≠ []) → (∀ q, q < a 0 1 → fl a ((rs a ch y n).1 q) (tog a (rs a ch y n).1 y q)) ∧ n + (rs a ch y n).2.length ≤ 10 + 10 * sm (fun q => rk a ((rs a ch y n).1 q)) (a 0 1)
  | 0, _ => by
    have hP := g.1.2.1
    refine ⟨fun q hq => ?_, ?_⟩
    · have := tog_M g (f := (rs a ch y 0).1) (y := y) hq (rs_M g ch y 0)
      rw [rs] at this ⊢
      show fl a 0 _
      exact ⟨by rw [show 0 / 256 = 0 from rfl]; exact lv_0 hw this, sbs_0 _⟩
    · rw [rs]
      show 0 + (List.range (a 0 1)).length ≤ _
      rw [List.length_range]
      omega
  | n + 1, hn => by
    obtain ⟨i1, i2⟩ := rs_inv g hw ch y n (fun u hu => hn u (by omega))
    have he := hn n (by omega)
    have hpos : 0 < (rs a ch y n).2.length := List.length_pos_iff.mpr he
    have hat := atS_lt (ch := ch) hpos
    have hpP := (rs_ok g.1 g.lv ch y n).2.1 _ (gD hat)
    have hM := rs_M g ch y n
    have hM2 := rs_M g ch y (n + 1)
    have ok2 := rs_ok g.1 g.lv ch y (n + 1)
    have hP := g.1.2.1
    have hlen : (rs a ch y (n + 1)).2.length ≤ 10 := Nat.le_trans (nd_len _ _ ok2.1 ok2.2.1) hP
    have er : rs a ch y (n + 1) = stp a ch y (rs a ch y n) := rfl
    unfold stp at er
    generalize hp : (rs a ch y n).2.getD (atS ch (rs a ch y n).2) 0 = p at *
    by_cases c : tog a (rs a ch y n).1 y p = (rs a ch y n).1 p
    · rw [if_pos c] at er
      have e1 : (rs a ch y (n + 1)).1 = (rs a ch y n).1 := by rw [er]
      have e2 : (rs a ch y (n + 1)).2.length = (rs a ch y n).2.length - 1 := by rw [er]; exact List.length_eraseIdx_of_lt hat
      rw [e1, e2]
      exact ⟨i1, by omega⟩
    · rw [if_neg c] at er
      have e1 : (rs a ch y (n + 1)).1 = nU (rs a ch y n).1 p (tog a (rs a ch y n).1 y p) := by rw [er]
      have hup : ∀ q, q < a 0 1 → fl a ((rs a ch y n).1 q) ((rs a ch y (n + 1)).1 q) := by
        intro q hq
        rw [e1]
        by_cases d : q = p
        · rw [d, nU_s]; exact i1 p hpP
        · rw [nU_n d]; exact fl_rf hw (hM q hq)
      have htm : ∀ q, q < a 0 1 → fl a (tog a (rs a ch y n).1 y q) (tog a (rs a ch y (n + 1)).1 y q) := fun q hq => tog_mono g hw hq hM hM2 hup
      refine ⟨fun q hq => ?_, ?_⟩
      · have t1 := tog_M g (y := y) hq hM
        have t2 := tog_M g (y := y) hq hM2
        by_cases d : q = p
        · have : (rs a ch y (n + 1)).1 q = tog a (rs a ch y n).1 y q := by rw [e1, d, nU_s]
          rw [this]
          exact htm q hq
        · have : (rs a ch y (n + 1)).1 q = (rs a ch y n).1 q := by rw [e1, nU_n d]
          rw [this]
          exact fl_tr g hw (hM q hq) t1 t2 (i1 q hq) (htm q hq)
      · have := sm_lt (f := fun q => rk a ((rs a ch y n).1 q)) (g := fun q => rk a ((rs a ch y (n + 1)).1 q)) (a 0 1) (fun q hq => rk_mono g hw (hM q hq) (hM2 q hq) (hup q hq)) ⟨p, hpP, by
          refine rk_lt g hw (hM p hpP) (hM2 p hpP) (hup p hpP) (fun q => c ?_)
          rw [q, e1, nU_s]⟩
        omega
/-- if all is well the work ends -/
theorem rs_end (g : Gd a) (hw : WL a) {ch : Nat} {y : Int32} {T : Nat} (h : Fin' a ch y T) : (rs a ch y T).2 = [] := by
  obtain ⟨h1, h2, h3⟩ := h
  rcases h3 with h3 | h3
  · exact h3
  · obtain ⟨-, i2⟩ := rs_inv g hw ch y T h2
    have s1 := sm_le (f := fun q => rk a ((rs a ch y T).1 q)) (k := 16) (fun q => rk_le g _) (a 0 1)
    have hP := g.1.2.1
    omega
end TM
