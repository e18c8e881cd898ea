/-! copy -/
theorem flt_same {ln b : Int32} {z m : Nat} (h : ln ≠ -1) : flt ln z ln b m = 0 ∨ flt ln z ln b m = -13 := by
  unfold flt
  rw [if_neg h, if_pos rfl]
  by_cases q3 : b < 0
  · rw [if_pos q3]; exact Or.inr rfl
  · rw [if_neg q3]
    by_cases q4 : b.toNatClampNeg + m ≤ z
    · rw [if_pos q4]; exact Or.inl rfl
    · rw [if_neg q4]; exact Or.inr rfl
theorem flt_other {ln a b : Int32} {z m : Nat} (h : ln ≠ -1) (h2 : ln ≠ a) : flt ln z a b m = -12 := by
  unfold flt
  rw [if_neg h, if_neg h2]
theorem fault_neg {w : ZW} {s : Nat} (hs : s < 4) (h : w.1 123 s ≠ -1) {n : Int32} (hn : n < 0) (a b : Int32) : f_X7_faultOf w (nI s) a b n = some (if w.1 123 s = a then -13 else -12) := by
  unfold f_X7_faultOf
  rw [holds_eq hs]
  simp only [Option.bind_some, if10]
  rw [z_in_t hs (by omega), nI_clamp (show s < 2 ^ 31 by omega), if_pos (by simp [h])]
  simp only [if_true]
  by_cases q2 : w.1 123 s = a
  · rw [if_pos q2, if_pos q2]
    by_cases q3 : b < 0
    · rw [if_pos q3]
    · rw [if_neg q3, if_pos hn]
  · rw [if_neg q2, if_neg q2]
theorem copy11 (w : ZW) {s t : Nat} (hs : s ≤ 3) (ht : t ≤ 3) (b d n : Int32) : f_X11_copy w (nI s) b (nI t) d n = if w.1 123 s = -1 then some (-11, w) else if w.1 123 t = -1 then some (-11, w) else (f_X7_faultOf w (nI t) (w.1 123 s) d n).bind (fun r6 : Int32 => if r6 = 0 then (f_X7_faultOf w (nI s) (w.1 123 s) b n).bind (fun r10 : Int32 => f_X11_copy_J87 (nI s) b (nI t) d n r10 w) else f_X11_copy_J87 (nI s) b (nI t) d n r6 w) := by
  have g1 : rg 0 3 (nI s) = true := by rw [rg_nI (by decide) (by decide) (by omega)]; simp; omega
  have g2 : rg 0 3 (nI t) = true := by rw [rg_nI (by decide) (by decide) (by omega)]; simp; omega
  unfold f_X11_copy
  rw [isSheet11, isSheet11, if_pos g1, if_pos g2]
  simp only [Option.bind_some]
  rw [if_neg i10, if_neg i10, holds_eq (by omega), holds_eq (by omega)]
  simp only [Option.bind_some, if10]
  unfold f_X7_laneOf
  rw [z_in_t (show s < 4 by omega) (by omega), if_pos rfl, nI_clamp (show s < 2 ^ 31 by omega)]
  simp only [Option.bind_some]
  by_cases q1 : w.1 123 s = -1
  · rw [if_pos q1, if_neg (by simp [q1])]
  · rw [if_neg q1, if_pos (by simp [q1])]
    by_cases q2 : w.1 123 t = -1
    · rw [if_pos q2, if_neg (by simp [q2])]
    · rw [if_neg q2, if_pos (by simp [q2])]
theorem copy12 (w : ZW) {s t : Nat} (hs : s ≤ 3) (ht : t ≤ 3) (l1 : w.1 158 s = -1 ∨ ∃ l, l ≤ 2 ∧ w.1 158 s = nI l) (l3 : w.1 158 t = -1 ∨ ∃ l, l ≤ 2 ∧ w.1 158 t = nI l) (b d n : Int32) : f_X12_copy w (nI s) b (nI t) d n = if w.1 158 s = -1 then some (-11, w) else if w.1 158 t = -1 then some (-11, w) else if w.1 158 s = w.1 158 t then (if n < 0 then some (-13, w) else (f_X12_finds w (nI s) (w.1 158 s) b n).bind (fun r3 : Int32 => if r3 < 0 then some (-13, w) else (f_X12_finds w (nI t) (w.1 158 t) d n).bind (fun r4 : Int32 => if 0 ≤ r4 then (z_iter (f_X12_copy_L101 n (nI s) b) z_fuel ((0 : Int32), w)).bind (fun q6 : ZW => (z_iter (f_X12_copy_L138 n (nI t) d) z_fuel ((0 : Int32), q6)).bind (fun q9 : ZW => some (n, q9))) else some (-13, w)))) else some (-12, w) := by
  have g1 : rg 0 3 (nI s) = true := by rw [rg_nI (by decide) (by decide) (by omega)]; simp; omega
  have g2 : rg 0 3 (nI t) = true := by rw [rg_nI (by decide) (by decide) (by omega)]; simp; omega
  unfold f_X12_copy
  rw [isSheet12, isSheet12, if_pos g1, if_pos g2]
  simp only [Option.bind_some]
  rw [if_neg i10, if_neg i10, z_in_t (show s < 4 by omega) (by omega), z_in_t (show t < 4 by omega) (by omega), nI_clamp (show s < 2 ^ 31 by omega), nI_clamp (show t < 2 ^ 31 by omega)]
  simp only [if_true]
  by_cases q1 : w.1 158 s = -1
  · rw [if_pos q1, if_pos ((lane_m1 l1).2.mpr q1)]
  · rw [if_neg q1, if_neg (fun h => q1 ((lane_m1 l1).2.mp h))]
    by_cases q2 : w.1 158 t = -1
    · rw [if_pos q2, if_neg (fun h => (lane_m1 l3).1.mp h q2)]
    · rw [if_neg q2, if_pos ((lane_m1 l3).1.mpr q2)]
theorem sim_copy {w : ZW} (h : Rel w) (a b c d n : Int32) : ∃ r w1 w2, f_X11_copy w a b c d n = some (r, w1) ∧ f_X12_copy w1 a b c d n = some (r, w2) ∧ Rel w2 := by
  have h0 := h
  obtain ⟨A, hA⟩ := h
  obtain ⟨hI, hC, hM, hT, hS, hIm⟩ := id hA
  by_cases g1 : rg 0 3 a = true
  · by_cases g3 : rg 0 3 c = true
    · obtain ⟨s, hs, rfl⟩ := rg_0 g1 (by decide)
      obtain ⟨t, ht, rfl⟩ := rg_0 g3 (by decide)
      obtain ⟨a1, a2, ⟨z, a3, a4, a5⟩, a6⟩ := hS s (by omega)
      obtain ⟨b1, b2, ⟨y, b3, b4, b5⟩, b6⟩ := hS t (by omega)
      have m := fun w' (x1 : w'.1 158 s = w.1 158 s) (x2 : w'.1 158 t = w.1 158 t) => copy12 w' hs ht (by rw [x1]; exact a2) (by rw [x2]; exact b2) b d n
      have mw := m w rfl rfl
      rw [copy11 w hs ht]
      by_cases q1 : w.1 123 s = -1
      · rw [if_pos q1]
        exact ⟨_, _, _, rfl, mw.trans (if_pos (by rw [← a1]; exact q1)), h0⟩
      rw [if_neg q1]
      have q1' : ¬ w.1 158 s = -1 := by rw [← a1]; exact q1
      rw [if_neg q1'] at mw
      by_cases q2 : w.1 123 t = -1
      · rw [if_pos q2]
        exact ⟨_, _, _, rfl, mw.trans (if_pos (by rw [← b1]; exact q2)), h0⟩
      rw [if_neg q2]
      have q2' : ¬ w.1 158 t = -1 := by rw [← b1]; exact q2
      rw [if_neg q2'] at mw
      by_cases q3 : w.1 123 t = w.1 123 s
      · have q3' : w.1 158 s = w.1 158 t := by rw [← a1, ← b1]; exact q3.symm
        rw [if_pos q3'] at mw
        by_cases q4 : n < 0
        · rw [if_pos q4] at mw
          rw [fault_neg (by omega) q2 q4, if_pos q3]
          exact ⟨_, _, _, rfl, mw, h0⟩
        · rw [if_neg q4] at mw
          obtain ⟨k, hk, rfl⟩ := nI_of q4
          have e1 := finds_eq2 (w := w) (s := s) (z := z) (m := k) (by omega) a3 hk a2 a5 (w.1 158 s) b
          have e2 := finds_eq2 (w := w) (s := t) (z := y) (m := k) (by omega) b3 hk b2 b5 (w.1 158 t) d
          have f1 := fault_eq2 (w := w) (s := s) (z := z) (m := k) (by omega) a3 hk a4 (w.1 123 s) b
          have f2 := fault_eq2 (w := w) (s := t) (z := y) (m := k) (by omega) b3 hk b4 (w.1 123 s) d
          rw [← q3] at f2
          rw [← q3, f2]
          rw [← q3] at f1
          rw [q3] at f1
          rw [e1, e2] at mw
          rw [← a1, ← b1] at mw
          simp only [Option.bind_some] at mw ⊢
          rcases flt_cases (ln := w.1 123 t) (a := w.1 123 t) (b := d) (z := y) (m := k) with ⟨c1, c2, c3, j, rfl, c5⟩ | ⟨c1, c2, c3⟩
          · rw [c1, if_pos rfl, q3, f1]
            simp only [Option.bind_some]
            rw [c1] at mw
            rcases flt_cases (ln := w.1 123 s) (a := w.1 123 s) (b := b) (z := z) (m := k) with ⟨d1, d2, d3, i, rfl, d5⟩ | ⟨d1, d2, d3⟩
            · rw [d1]
              have eJ : f_X11_copy_J87 (nI s) (nI i) (nI t) (nI j) (nI k) 0 w = some (nI k, z_cpI w (126 + s) (126 + t) i j k) := by
                unfold f_X11_copy_J87 f_X7_move
                have hc : z_cin (nI i) (nI j) (nI k) 24 24 = true := by
                  unfold z_cin
                  simp [nI_pos (show i < 2 ^ 31 by omega), nI_pos (show j < 2 ^ 31 by omega), nI_pos (show k < 2 ^ 31 by omega), nI_clamp (show i < 2 ^ 31 by omega), nI_clamp (show j < 2 ^ 31 by omega), nI_clamp (show k < 2 ^ 31 by omega)]
                  omega
                rw [if_pos (show (0 : Int32) ≤ 0 by decide), z_in_t (show s < 4 by omega) (by omega), if_pos rfl, z_in_t (show t < 4 by omega) (by omega), if_pos rfl, hc, if_pos rfl, nI_clamp (show s < 2 ^ 31 by omega), nI_clamp (show t < 2 ^ 31 by omega), nI_clamp (show i < 2 ^ 31 by omega), nI_clamp (show j < 2 ^ 31 by omega), nI_clamp (show k < 2 ^ 31 by omega)]
                rfl
              generalize hw1 : z_cpI w (126 + s) (126 + t) i j k = w1 at eJ
              have o1 : ∀ x v, ¬ (x = 126 + t ∧ j ≤ v ∧ v < j + k) → w1.1 x v = w.1 x v := fun x v h => by
                rw [← hw1]
                exact if_neg h
              have i1 : ∀ v, j ≤ v → v < j + k → w1.1 (126 + t) v = w.1 (126 + s) (i + (v - j)) := fun v h1 h2 => by
                rw [← hw1]
                exact if_pos ⟨rfl, h1, h2⟩
              have hl1 : w1.2 = w.2 := by rw [← hw1]; rfl
              clear hw1
              have mm := copy12 w1 hs ht (by rw [o1 _ _ (by omega)]; exact a2) (by rw [o1 _ _ (by omega)]; exact b2) (nI i) (nI j) (nI k)
              have e1' := finds_eq2 (w := w1) (s := s) (z := z) (m := k) (by omega) a3 hk (by rw [o1 _ _ (by omega)]; exact a2) ((o1 _ _ (by omega)).trans a5) (w1.1 158 s) (nI i)
              have e2' := finds_eq2 (w := w1) (s := t) (z := y) (m := k) (by omega) b3 hk (by rw [o1 _ _ (by omega)]; exact b2) ((o1 _ _ (by omega)).trans b5) (w1.1 158 t) (nI j)
              have l1 : w1.1 158 s = w.1 123 s := (o1 _ _ (by omega)).trans a1.symm
              have l3 : w1.1 158 t = w.1 123 t := (o1 _ _ (by omega)).trans b1.symm
              rw [e1', e2', l1, l3, if_neg q1, if_neg q2, if_pos q3.symm, if_neg q4, d1, c1] at mm
              simp only [Option.bind_some] at mm
              rw [if_neg (show ¬ (0 : Int32) < 0 by decide), if_pos (show (0 : Int32) ≤ 0 by decide), cp101 (by omega) (by omega)] at mm
              simp only [Option.bind_some] at mm
              rw [cp138 (by omega) (by omega)] at mm
              refine ⟨_, w1, _, eJ, mm, ?_⟩
              refine Rel_sheet (s := t) hA (by omega) ⟨?_, ?_, ⟨y, b3, ?_, ?_⟩, fun v hv => ?_⟩ (fun x v q => ?_) hl1
              · rw [fillo_out (by omega), fillo_out (by omega), fillo_out (by omega), fillo_out (by omega), o1 _ _ (by omega), o1 _ _ (by omega)]
                exact b1
              · rw [fillo_out (by omega), fillo_out (by omega), o1 _ _ (by omega)]
                exact b2
              · rw [fillo_out (by omega), fillo_out (by omega), o1 _ _ (by omega)]
                exact b4
              · rw [fillo_out (by omega), fillo_out (by omega), o1 _ _ (by omega)]
                exact b5
              · rw [fillo_out (by omega), fillo_out (by omega)]
                by_cases e : j ≤ v ∧ v < j + k
                · rw [i1 v e.1 e.2, fillo_in (by omega) (by omega), fillo_in (by omega) (by omega), o1 _ _ (by omega), a6 _ (by omega)]
                  exact congrArg (w.1 160) (by omega)
                · rw [o1 _ _ (by omega), fillo_out (by omega), fillo_out (by omega), o1 _ _ (by omega)]
                  exact b6 v hv
              · rw [fillo_out (by omega), fillo_out (by omega), o1 _ _ (by omega)]
            · have dv := (flt_same (ln := w.1 123 s) (b := b) (z := z) (m := k) q1).resolve_left d3
              rw [if_pos d2] at mw
              rw [dv]
              exact ⟨-13, w, w, rfl, mw, h0⟩
          · have cv := (flt_same (ln := w.1 123 t) (b := d) (z := y) (m := k) q2).resolve_left c3
            rw [cv, if_neg (by decide)]
            rw [cv] at mw
            refine ⟨-13, w, w, rfl, ?_, h0⟩
            rw [mw]
            split <;> rfl
      · have q3' : ¬ w.1 158 s = w.1 158 t := by rw [← a1, ← b1]; exact fun h => q3 h.symm
        rw [if_neg q3'] at mw
        have : f_X7_faultOf w (nI t) (w.1 123 s) d n = some (-12) := by
          by_cases q4 : n < 0
          · rw [fault_neg (by omega) q2 q4, if_neg q3]
          · obtain ⟨k, hk, rfl⟩ := nI_of q4
            rw [fault_eq2 (by omega) b3 hk b4, flt_other q2 q3]
        rw [this]
        exact ⟨-12, w, w, rfl, mw, h0⟩
    · refine ⟨-1, w, w, ?_, ?_, h0⟩
      · unfold f_X11_copy
        rw [isSheet11, isSheet11, if_pos g1, if_neg g3]
        rfl
      · unfold f_X12_copy
        rw [isSheet12, isSheet12, if_pos g1, if_neg g3]
        rfl
  · refine ⟨-1, w, w, ?_, ?_, h0⟩
    · unfold f_X11_copy
      rw [isSheet11, if_neg g1]
      rfl
    · unfold f_X12_copy
      rw [isSheet12, if_neg g1]
      rfl
