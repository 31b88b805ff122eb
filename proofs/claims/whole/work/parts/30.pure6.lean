/-! the reference: what a way brings, what comes together -/
theorem rN_rN (a : NO) (i : Nat) (g h : Nat → Nat) : rN (rN a i g) i h = rN a i h := by
  funext p
  unfold rN
  by_cases q : p = i
  · rw [if_pos q, if_pos q]
  · rw [if_neg q, if_neg q, if_neg q]
theorem sI2 (z : NO) (i j X Y : Nat) : sI (sI (nO z) i (nI X)) j (nI Y) = nO (rN z 0 (nU (nU (z 0) i X) j Y)) := by
  rw [sIu, sIu, rN_rN, rN_s]
theorem m_brings_s {z : NO} (hb : BdS (z 1)) {w v s : Nat} (hw : w < 20) (hv : v < 8) (hs : s < 256) : f_m_brings (nO z) (nI w) (nI v) (nI s) = some (nO (rN z 0 (nU (nU (z 0) 11 (bw (wb (z 1)) w (v * 256 + s)).1) 12 (bw (wb (z 1)) w (v * 256 + s)).2))) := by
  unfold f_m_brings
  have hB := Bd_wb hb
  have e1 : (v * 256 + s) / 256 = v := by omega
  have e2 : (v * 256 + s) % 256 = s := by omega
  rw [bd_s (m_of_gt hw), bd_s (m_isBelow_s hb (hB.gt w) hv)]
  by_cases h : jn (wb (z 1)) (wb (z 1) 9 w) v = v
  · have h0 : ¬ b01 (jn (wb (z 1)) (wb (z 1) 9 w) v = v) = 0 := by rw [b01_t h]; decide
    rw [if_neg h0, bd_s (m_of_mp hw hv), if_neg h0, sIu, bd_s (m_of_tk hw), bd_s (m_of_gv hw), mk_nI, sIu, rN_rN, rN_s]
    unfold bw
    rw [e1, e2, if_pos h]
    rfl
  · have h0 : b01 (jn (wb (z 1)) (wb (z 1) 9 w) v = v) = 0 := by rw [b01_f h]
    rw [if_pos h0, if_pos h0, show (0 : Int32) = nI 0 from rfl, sI2]
    unfold bw
    rw [e1, if_neg h]
def SmG (z z' : NO) : Prop := (∀ i, i ≠ 0 → z' i = z i) ∧ ∀ k, k ≠ 11 → k ≠ 12 → k ≠ 13 → k ≠ 14 → z' 0 k = z 0 k
theorem SmG.rf (z : NO) : SmG z z := ⟨fun _ _ => rfl, fun _ _ _ _ _ => rfl⟩
theorem SmG.tr {x y z : NO} (h : SmG x y) (g : SmG y z) : SmG x z := ⟨fun i hi => (g.1 i hi).trans (h.1 i hi), fun k a b c d => (g.2 k a b c d).trans (h.2 k a b c d)⟩
theorem SmG.put {z : NO} {g : Nat → Nat} (h : ∀ k, k ≠ 11 → k ≠ 12 → k ≠ 13 → k ≠ 14 → g k = z 0 k) : SmG z (rN z 0 g) := ⟨fun i hi => rN_n hi, fun k a b c d => by rw [rN_s]; exact h k a b c d⟩
/-- facts of the reference's row, as one number each -/
def fc (F : Nat → Nat) : Nat → Nat := fun p => F p * 256 + F (10 + p)
theorem m_gathers_s {z : NO} {jj : Nat} (hj : jj ≠ 0) (hb : BdS (z 1)) {p : Nat} {y : Int32} (hp : p < 10) (hF : ∀ w, w < z 1 2 → wb (z 1) 5 w = p → z jj (wb (z 1) 4 w) < 8 ∧ z jj (10 + wb (z 1) 4 w) < 256) :
    ∃ z', f_m_gathers jj (nO z) (nI p) y = some (nO z') ∧ SmG z z' ∧ z' 0 13 = (tg (wb (z 1)) (fc (z jj)) y p (z 1 2)).1 ∧ z' 0 14 = (tg (wb (z 1)) (fc (z jj)) y p (z 1 2)).2 := by
  unfold f_m_gathers
  have hB := Bd_wb hb
  have hN := hb.2.2.1
  obtain ⟨s, ⟨z', h1, h2, h3, h4⟩, h5⟩ := lp_inv (F := fun fu i (s : Ob) => lp_m_gathers_29 jj (nI p) y k_m_gathers_29 fu i s) (N := z 1 2) (inv := fun i s => ∃ z', s = nO z' ∧ SmG z z' ∧ z' 0 13 = (tg (wb (z 1)) (fc (z jj)) y p i).1 ∧ z' 0 14 = (tg (wb (z 1)) (fc (z jj)) y p i).2) (ke := fun s => some s)
    (by
      rintro fu i s hi ⟨z', rfl, hs, g1, g2⟩
      have ht := tg_b hB (fc (z jj)) y p i
      have r1 : z' 1 = z 1 := hs.1 1 (by decide)
      have rj : z' jj = z jj := hs.1 jj hj
      have hb' : BdS (z' 1) := by rw [r1]; exact hb
      have h4 := hB.fr i
      have h5 := hB.to i
      try dsimp only
      have e0 : lp_m_gathers_29 jj (nI p) y k_m_gathers_29 (fu + 1) (nI i) (nO z') = if nI i = y then lp_m_gathers_29 jj (nI p) y k_m_gathers_29 fu (nI (i + 1)) (nO z') else (bd (f_m_of (nO z') (nI i) 1) (fun q50 => if q50 = nI p then (bd (f_m_of (nO z') (nI i) 0) (fun q65 => gd (ck q65 20) (bd (f_m_of (nO z') (nI i) 0) (fun q76 => gd (ck (10 + q76) 20) (bd (f_m_brings (nO z') (nI i) ((nO z' jj) (Int32.toNatClampNeg q65)) ((nO z' jj) (Int32.toNatClampNeg (10 + q76)))) (fun q81 => bd (f_m_both q81 (q81 0 13) (q81 0 11)) (fun q94 => (lp_m_gathers_29 jj (nI p) y k_m_gathers_29 fu) (nI (i + 1)) (sI (sI q81 13 q94) 14 ((q81 0 14) ||| (q81 0 12)))))))))) else (lp_m_gathers_29 jj (nI p) y k_m_gathers_29 fu) (nI (i + 1)) (nO z'))) := by
        rw [lp_m_gathers_29, c2, if_neg (show ¬ nO z' 1 2 ≤ nI i by rw [show nO z' 1 2 = nI (z 1 2) from congrArg nI (by rw [r1])]; exact nle hi (by omega)), nI_1]
      rw [e0]
      by_cases q1 : nI i = y
      · rw [if_pos q1]
        exact ⟨_, ⟨z', rfl, hs, by rw [show tg (wb (z 1)) (fc (z jj)) y p (i + 1) = tg (wb (z 1)) (fc (z jj)) y p i from if_neg (fun q => q.2 q1)]; exact g1, by rw [show tg (wb (z 1)) (fc (z jj)) y p (i + 1) = tg (wb (z 1)) (fc (z jj)) y p i from if_neg (fun q => q.2 q1)]; exact g2⟩, rfl⟩
      · rw [if_neg q1, bd_s (m_of_to (by omega)), r1]
        simp only [nI_eq (show wb (z 1) 5 i < 2 ^ 31 by omega) (show p < 2 ^ 31 by omega)]
        by_cases q2 : wb (z 1) 5 i = p
        · obtain ⟨f1, f2⟩ := hF i hi q2
          have ef : tg (wb (z 1)) (fc (z jj)) y p (i + 1) = (jn (wb (z 1)) (tg (wb (z 1)) (fc (z jj)) y p i).1 (bw (wb (z 1)) i (fc (z jj) (wb (z 1) 4 i))).1, (tg (wb (z 1)) (fc (z jj)) y p i).2 ||| (bw (wb (z 1)) i (fc (z jj) (wb (z 1) 4 i))).2) := if_pos ⟨q2, q1⟩
          have b1 := bw_1 hB i (fc (z jj) (wb (z 1) 4 i))
          rw [if_pos q2, bd_s (m_of_fr (by omega)), r1, gd_t (ck_nI (by omega) (by decide)), bd_s (m_of_fr (by omega)), r1, ix10, gd_t (ck_nI (by omega) (by decide)), cl (by omega), cl (by omega)]
          rw [show nO z' jj (wb (z 1) 4 i) = nI (z jj (wb (z 1) 4 i)) from congrArg nI (by rw [rj]), show nO z' jj (10 + wb (z 1) 4 i) = nI (z jj (10 + wb (z 1) 4 i)) from congrArg nI (by rw [rj])]
          rw [bd_s (m_brings_s hb' (by omega) f1 f2), r1]
          rw [show z jj (wb (z 1) 4 i) * 256 + z jj (10 + wb (z 1) 4 i) = fc (z jj) (wb (z 1) 4 i) from rfl]
          obtain ⟨z2, hz2⟩ : ∃ z2, z2 = rN z' 0 (nU (nU (z' 0) 11 (bw (wb (z 1)) i (fc (z jj) (wb (z 1) 4 i))).1) 12 (bw (wb (z 1)) i (fc (z jj) (wb (z 1) 4 i))).2) := ⟨_, rfl⟩
          rw [← hz2]
          have k11 : z2 0 11 = (bw (wb (z 1)) i (fc (z jj) (wb (z 1) 4 i))).1 := by rw [hz2, rN_s, nU_n (by decide), nU_s]
          have k12 : z2 0 12 = (bw (wb (z 1)) i (fc (z jj) (wb (z 1) 4 i))).2 := by rw [hz2, rN_s, nU_s]
          have k13 : z2 0 13 = (tg (wb (z 1)) (fc (z jj)) y p i).1 := by rw [hz2, rN_s, nU_n (by decide), nU_n (by decide)]; exact g1
          have k14 : z2 0 14 = (tg (wb (z 1)) (fc (z jj)) y p i).2 := by rw [hz2, rN_s, nU_n (by decide), nU_n (by decide)]; exact g2
          have s2 : SmG z' z2 := by rw [hz2]; exact SmG.put (fun k a b c d => by rw [nU_n b, nU_n a])
          have r2 : z2 1 = z 1 := (s2.1 1 (by decide)).trans r1
          rw [show nO z2 0 13 = nI (z2 0 13) from rfl, show nO z2 0 11 = nI (z2 0 11) from rfl, show nO z2 0 14 = nI (z2 0 14) from rfl, show nO z2 0 12 = nI (z2 0 12) from rfl, k11, k12, k13, k14, bd_s (m_both_s ht.1 b1), r2, nx_or, sI2]
          exact ⟨_, ⟨_, rfl, hs.tr (s2.tr (SmG.put (fun k a b c d => by rw [nU_n d, nU_n c]))), by rw [rN_s, nU_n (by decide), nU_s, ef], by rw [rN_s, nU_s, ef]⟩, rfl⟩
        · rw [if_neg q2]
          have ef : tg (wb (z 1)) (fc (z jj)) y p (i + 1) = tg (wb (z 1)) (fc (z jj)) y p i := if_neg (fun q => q2 q.1)
          exact ⟨_, ⟨z', rfl, hs, by rw [ef]; exact g1, by rw [ef]; exact g2⟩, rfl⟩)
    (by
      rintro fu s ⟨z', rfl, hs, -⟩
      try dsimp only
      rw [lp_m_gathers_29, c2, if_pos (show nO z' 1 2 ≤ nI (z 1 2) by rw [show nO z' 1 2 = nI (z 1 2) from congrArg nI (by rw [hs.1 1 (by decide)])]; exact nlr (by omega))]
      rfl) 10000 0 (sI (sI (nO z) 13 ((nO z 1) (Int32.toNatClampNeg (67 + nI p)))) 14 ((nO z 1) (Int32.toNatClampNeg (77 + nI p))))
    (by
      rw [ix67, ix77, cl (by omega), cl (by omega)]
      refine ⟨_, sI2 z 13 14 (z 1 (67 + p)) (z 1 (77 + p)), SmG.put (fun k a b c d => by rw [nU_n d, nU_n c]), ?_, ?_⟩
      · rw [rN_s, nU_n (by decide), nU_s]
        have := hb.2.2.2.2.1 p hp
        show z 1 (67 + p) = (if p < 10 then z 1 (67 + p) * 256 + z 1 (77 + p) else 0) / 256
        rw [if_pos hp]
        omega
      · rw [rN_s, nU_s]
        have := hb.2.2.2.2.1 p hp
        show z 1 (77 + p) = (if p < 10 then z 1 (67 + p) * 256 + z 1 (77 + p) else 0) % 256
        rw [if_pos hp]
        omega) (by omega) (by omega)
  subst h1
  refine ⟨z', ?_, h2, h3, h4⟩
  rw [ix67, gd_t (ck_nI (by omega) (by decide)), ix77, gd_t (ck_nI (by omega) (by decide))]
  rw [ix67, ix77] at h5
  exact h5
