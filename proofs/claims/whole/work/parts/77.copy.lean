/-! item, copy -/
theorem flt_cases {ln a b : Int32} {z m : Nat} : (flt ln z a b m = 0 ∧ ln = a ∧ ln ≠ -1 ∧ ∃ i, b = nI i ∧ i + m ≤ z) ∨ (¬ (0 : Int32) ≤ flt ln z a b m ∧ flt ln z a b m < 0 ∧ flt ln z a b m ≠ 0) := by
  unfold flt
  by_cases q1 : ln = -1
  · rw [if_pos q1]
    exact Or.inr (by decide)
  · rw [if_neg q1]
    by_cases q2 : ln = a
    · rw [if_pos q2]
      by_cases q3 : b < 0
      · rw [if_pos q3]
        exact Or.inr (by decide)
      · rw [if_neg q3]
        by_cases q4 : b.toNatClampNeg + m ≤ z
        · rw [if_pos q4]
          obtain ⟨i, hi, rfl⟩ := nI_of q3
          rw [nI_clamp hi] at q4
          exact Or.inl ⟨rfl, q2, q1, i, rfl, q4⟩
        · rw [if_neg q4]
          exact Or.inr (by decide)
    · rw [if_neg q2]
      exact Or.inr (by decide)
def narr (l x : Int32) : Int32 := if l = 0 then x.toInt8.toInt32 else if l = 1 then x.toInt16.toInt32 else x
theorem put7_eq {w : ZW} {s i : Nat} (hs : s < 4) (hi : i < 24) (x : Int32) : f_X7_put w (nI s) (nI i) x = some (z_upI w (126 + s) i (narr (w.1 123 s) x)) := by
  unfold f_X7_put narr
  rw [z_in_t hs (by omega), z_in_t hi (by omega), nI_clamp (show s < 2 ^ 31 by omega), nI_clamp (show i < 2 ^ 31 by omega)]
  simp only [if_true, z_let]
  by_cases q : w.1 123 s = 0
  · rw [if_pos q, if_pos q]
  · rw [if_neg q, if_neg q]
    by_cases q2 : w.1 123 s = 1
    · rw [if_pos q2, if_pos q2]
    · rw [if_neg q2, if_neg q2]
theorem mul24 {s : Nat} : (24 : Int32) * nI s = nI (24 * s) := by rw [show (24 : Int32) = nI 24 from rfl, pk_mul]
theorem item11 (w : ZW) (a b c d : Int32) : f_X11_item w a b c d = if (rg 0 3 a && rg 0 2 b) = true then (f_X7_faultOf w a b c 1).bind (fun r3 : Int32 => if 0 ≤ r3 then (f_X7_put w a c d).bind (fun r4 : ZW => some ((1 : Int32), r4)) else some (r3, w)) else some (-1, w) := by
  unfold f_X11_item
  rw [isSheet11, isLane11]
  simp only [Option.bind_some, if10]
  cases rg 0 3 a <;> cases rg 0 2 b <;> rfl
theorem item12 (w : ZW) {s i : Nat} (hs : s < 4) (hi : i < 24) (b d : Int32) : f_X12_item w (nI s) b (nI i) d = if (rg 0 3 (nI s) && rg 0 2 b) = true then (f_X12_finds w (nI s) b (nI i) 1).bind (fun r3 : Int32 => if 0 ≤ r3 then some (1, z_upI w 160 (24 * s + i) (narr b d)) else some (r3, w)) else some (-1, w) := by
  unfold f_X12_item narr
  rw [isSheet12, isLane12, mul24, nI_add, z_in_t (show 24 * s + i < 96 by omega) (by omega), nI_clamp (show 24 * s + i < 2 ^ 31 by omega)]
  simp only [Option.bind_some, if10, z_let, if_true]
  cases rg 0 3 (nI s)
  · rfl
  cases rg 0 2 b
  · rfl
  simp only [if_true, Bool.and_self]
  congr 1
  funext r3
  split
  · split
    · rfl
    · split <;> rfl
  · rfl
theorem item12b (w : ZW) (a b c d : Int32) (h : ∀ r, f_X12_finds w a b c 1 = some r → ¬ 0 ≤ r) (h2 : ∃ r, f_X12_finds w a b c 1 = some r) : f_X12_item w a b c d = if (rg 0 3 a && rg 0 2 b) = true then (f_X12_finds w a b c 1).bind (fun r3 : Int32 => some (r3, w)) else some (-1, w) := by
  obtain ⟨r, hr⟩ := h2
  have hn := h r hr
  unfold f_X12_item
  rw [isSheet12, isLane12, hr]
  simp only [Option.bind_some, if10]
  rw [if_neg hn]
  cases rg 0 3 a <;> cases rg 0 2 b <;> rfl
theorem sim_item {w : ZW} (h : Rel w) (a b c d : Int32) : ∃ r w1 w2, f_X11_item w a b c d = some (r, w1) ∧ f_X12_item w1 a b c d = some (r, w2) ∧ Rel w2 := by
  have h0 := h
  obtain ⟨A, hA⟩ := h
  obtain ⟨hI, hC, hM, hT, hS, hIm⟩ := id hA
  rw [item11]
  by_cases g : (rg 0 3 a && rg 0 2 b) = true
  · rw [if_pos g]
    have g' := g
    simp only [Bool.and_eq_true] at g'
    obtain ⟨s, hs, rfl⟩ := rg_0 g'.1 (by decide)
    obtain ⟨a1, a2, ⟨z, a3, a4, a5⟩, a6⟩ := hS s (by omega)
    have ef : f_X7_faultOf w (nI s) b c 1 = some (flt (w.1 123 s) z b c 1) := fault_eq2 (m := 1) (by omega) a3 (by omega) a4 b c
    have em : ∀ w' : ZW, w'.1 158 s = w.1 158 s → w'.1 159 s = w.1 159 s → f_X12_finds w' (nI s) b c 1 = some (flt (w.1 123 s) z b c 1) := fun w' x1 x2 => by
      have := finds_eq2 (w := w') (m := 1) (s := s) (z := z) (by omega) a3 (by omega) (by rw [x1]; exact a2) (by rw [x2]; exact a5) b c
      rw [x1, ← a1] at this
      exact this
    rw [ef]
    rcases flt_cases (ln := w.1 123 s) (a := b) (b := c) (z := z) (m := 1) with ⟨f1, f2, f3, i, rfl, f5⟩ | ⟨f1, -⟩
    · have hi : i < 24 := by omega
      simp only [Option.bind_some]
      rw [f1, if_pos (show (0 : Int32) ≤ 0 by decide), put7_eq (by omega) hi, f2]
      refine ⟨1, z_upI w (126 + s) i (narr b d), z_upI (z_upI w (126 + s) i (narr b d)) 160 (24 * s + i) (narr b d), rfl, ?_, ?_⟩
      · rw [item12 _ (by omega) hi, if_pos g, em _ (upc (by omega)) (upc (by omega)), f1]
        rfl
      · refine Rel_sheet (s := s) hA (by omega) ⟨?_, ?_, ⟨z, a3, ?_, ?_⟩, fun k hk => ?_⟩ (fun a j q => ?_) rfl
        · rw [upc (by omega), upc (by omega), upc (by omega), upc (by omega)]; exact a1
        · rw [upc (by omega), upc (by omega)]; exact a2
        · rw [upc (by omega), upc (by omega)]; exact a4
        · rw [upc (by omega), upc (by omega)]; exact a5
        · by_cases e : k = i
          · subst e
            rw [upc_e, upc (by omega), upc_e]
          · rw [upc (by omega), upc (by omega), upc (by omega), upc (by omega)]
            exact a6 k hk
        · rw [upc (by omega), upc (by omega)]
    · simp only [Option.bind_some]
      rw [if_neg f1]
      refine ⟨_, w, w, rfl, ?_, h0⟩
      have e := em w rfl rfl
      rw [item12b w _ _ _ _ (fun r hr => by rw [e] at hr; cases hr; exact f1) ⟨_, e⟩, if_pos g, e]
      rfl
  · rw [if_neg g]
    refine ⟨_, _, _, rfl, ?_, h0⟩
    unfold f_X12_item
    rw [isSheet12, isLane12]
    simp only [Option.bind_some, if10]
    cases q1 : rg 0 3 a
    · rfl
    · cases q2 : rg 0 2 b
      · rfl
      · rw [q1, q2] at g; simp at g
theorem cp101 {w : ZW} {s i n : Nat} (hs : s < 4) (hi : i + n ≤ 24) : z_iter (f_X12_copy_L101 (nI n) (nI s) (nI i)) z_fuel ((0 : Int32), w) = some (fillo w 161 0 n (fun k => w.1 160 (24 * s + i + k))) := by
  rw [show ((0 : Int32), w) = (nI 0, fillo w 161 0 0 (fun k => w.1 160 (24 * s + i + k))) by rw [fillo_0]; rfl]
  refine it_count (fun k => (nI k, fillo w 161 0 k (fun k => w.1 160 (24 * s + i + k)))) n _ (fun k hk => ?_) ?_ (zf (by omega))
  · unfold f_X12_copy_L101
    simp only []
    rw [if_neg (nnle hk), mul24, nI_add, nI_add, z_in_t (show 24 * s + i + k < 96 by omega) (by omega), if_pos rfl, z_in_t (show k < 24 by omega) (by omega), if_pos rfl, nI_clamp (show 24 * s + i + k < 2 ^ 31 by omega), nI_clamp (show k < 2 ^ 31 by omega), nI_1, fillo_out (show ¬ (160 = 161 ∧ 0 ≤ 24 * s + i + k ∧ 24 * s + i + k < 0 + k) by omega)]
    simp only [z_let]
    have := fillo_s w 161 0 k (fun k => w.1 160 (24 * s + i + k))
    rw [Nat.zero_add] at this
    rw [this]
  · unfold f_X12_copy_L101
    simp only []
    rw [if_pos (Int32.le_refl _)]
theorem cp138 {w : ZW} {s i n : Nat} (hs : s < 4) (hi : i + n ≤ 24) : z_iter (f_X12_copy_L138 (nI n) (nI s) (nI i)) z_fuel ((0 : Int32), w) = some (fillo w 160 (24 * s + i) n (fun k => w.1 161 k)) := by
  rw [show ((0 : Int32), w) = (nI 0, fillo w 160 (24 * s + i) 0 (fun k => w.1 161 k)) by rw [fillo_0]; rfl]
  refine it_count (fun k => (nI k, fillo w 160 (24 * s + i) k (fun k => w.1 161 k))) n _ (fun k hk => ?_) ?_ (zf (by omega))
  · unfold f_X12_copy_L138
    simp only []
    rw [if_neg (nnle hk), mul24, nI_add, nI_add, z_in_t (show k < 24 by omega) (by omega), if_pos rfl, z_in_t (show 24 * s + i + k < 96 by omega) (by omega), if_pos rfl, nI_clamp (show 24 * s + i + k < 2 ^ 31 by omega), nI_clamp (show k < 2 ^ 31 by omega), nI_1, fillo_out (show ¬ (161 = 160 ∧ 24 * s + i ≤ k ∧ k < 24 * s + i + k) by omega)]
    simp only [z_let]
    have := fillo_s w 160 (24 * s + i) k (fun k => w.1 161 k)
    rw [this]
  · unfold f_X12_copy_L138
    simp only []
    rw [if_pos (Int32.le_refl _)]
