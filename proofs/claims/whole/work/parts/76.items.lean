/-! sheet, drop, item -/
def shC (w : ZW) (s : Nat) (l z : Int32) : ZW := fillo (z_upI (z_upI w 123 s l) 124 s z) (126 + s) 0 24 (fun _ => 0)
def shM (w : ZW) (s : Nat) (l z : Int32) : ZW := fillo (z_upI (z_upI w 158 s l) 159 s z) 160 (24 * s) 24 (fun _ => 0)
theorem renew_eq {w : ZW} {s : Nat} (hs : s < 4) (l z : Int32) : f_X7_renew w (nI s) l z = some (shC w s l z) := by
  unfold f_X7_renew
  rw [z_in_t hs (by omega), if_pos rfl, nI_clamp (show s < 2 ^ 31 by omega)]
  simp only [z_let, if_true]
  rw [fill24]
  rfl
theorem lp46 {w : ZW} {s : Nat} (hs : s < 4) : z_iter (f_X12_sheet_L46 (nI s)) z_fuel ((0 : Int32), w) = some (fillo w 160 (24 * s) 24 (fun _ => 0)) := by
  rw [show ((0 : Int32), w) = (nI 0, fillo w 160 (24 * s) 0 (fun _ => 0)) by rw [fillo_0]; rfl]
  refine it_count (fun i => (nI i, fillo w 160 (24 * s) i (fun _ => 0))) 24 _ (fun i hi => ?_) ?_ (zf (by omega))
  · unfold f_X12_sheet_L46
    simp only []
    rw [show (24 : Int32) = nI 24 from rfl, if_neg (nnle hi), pk_mul, nI_add, z_in_t (show 24 * s + i < 96 by omega) (by omega), if_pos rfl, nI_clamp (show 24 * s + i < 2 ^ 31 by omega), nI_1]
    simp only [z_let]
    have := fillo_s w 160 (24 * s) i (fun _ => 0)
    rw [this]
  · unfold f_X12_sheet_L46
    simp only []
    rw [show (24 : Int32) = nI 24 from rfl, if_pos (Int32.le_refl _)]
theorem sheet11 (w : ZW) (a b c : Int32) : f_X11_sheet w a b c = if (rg 0 3 a && rg 0 2 b) = true then (if c ≤ 24 then (if 0 ≤ c then (f_X7_renew w a b c).bind (fun r3 : ZW => some (c, r3)) else some (-14, w)) else some (-1, w)) else some (-1, w) := by
  unfold f_X11_sheet
  rw [isSheet11, isLane11]
  simp only [Option.bind_some, if10]
  cases rg 0 3 a <;> cases rg 0 2 b <;> rfl
theorem sheet12 (w : ZW) {s : Nat} (hs : s < 4) (b c : Int32) : f_X12_sheet w (nI s) b c = if (rg 0 3 (nI s) && rg 0 2 b) = true then (if c ≤ 24 then (if 0 ≤ c then some (c, shM w s b c) else some (-14, w)) else some (-1, w)) else some (-1, w) := by
  unfold f_X12_sheet
  rw [isSheet12, isLane12, z_in_t hs (by omega), nI_clamp (show s < 2 ^ 31 by omega)]
  simp only [Option.bind_some, if10, z_let, if_true]
  rw [lp46 hs]
  cases rg 0 3 (nI s) <;> cases rg 0 2 b <;> rfl
theorem sim_sheet {w : ZW} (h : Rel w) (a b c : Int32) : ∃ r w1 w2, f_X11_sheet w a b c = some (r, w1) ∧ f_X12_sheet w1 a b c = some (r, w2) ∧ Rel w2 := by
  have h0 := h
  obtain ⟨A, hA⟩ := h
  rw [sheet11]
  by_cases g : (rg 0 3 a && rg 0 2 b) = true
  · have g' := g
    simp only [Bool.and_eq_true] at g'
    obtain ⟨s, hs, rfl⟩ := rg_0 g'.1 (by decide)
    obtain ⟨l, hl, rfl⟩ := rg_0 g'.2 (by decide)
    rw [if_pos g]
    by_cases q1 : c ≤ 24
    · rw [if_pos q1]
      by_cases q2 : 0 ≤ c
      · rw [if_pos q2, renew_eq (by omega)]
        obtain ⟨z, -, hz, rfl⟩ := nI_rng (lo := 0) (hi := 24) (by decide) ⟨q2, q1⟩ (by decide)
        refine ⟨nI z, shC w s (nI l) (nI z), shM (shC w s (nI l) (nI z)) s (nI l) (nI z), rfl, (sheet12 _ (by omega) _ _).trans ((if_pos g).trans ((if_pos q1).trans (if_pos q2))), ?_⟩
        have v : ∀ x y : Nat, ¬ (x = 126 + s ∧ 0 ≤ y ∧ y < 0 + 24) → (shC w s (nI l) (nI z)).1 x y = (z_upI (z_upI w 123 s (nI l)) 124 s (nI z)).1 x y := fun x y h => fillo_out h
        refine Rel_sheet (s := s) hA (by omega) ⟨?_, ?_, ⟨z, hz, ?_, ?_⟩, fun i hi => ?_⟩ (fun a j q => ?_) rfl
        · unfold shM
          rw [fillo_out (by omega), fillo_out (by omega), upc (by omega), upc (by omega), v _ _ (by omega), upc (by omega), upc_e, upc (by omega), upc_e]
        · right
          refine ⟨l, hl, ?_⟩
          unfold shM
          rw [fillo_out (by omega), upc (by omega), upc_e]
        · unfold shM
          rw [fillo_out (by omega), upc (by omega), upc (by omega), v _ _ (by omega), upc_e]
        · unfold shM
          rw [fillo_out (by omega), upc_e]
        · unfold shM
          rw [fillo_in (by omega) (by omega), fillo_out (by omega), upc (by omega), upc (by omega)]
          unfold shC
          rw [fillo_in (by omega) (by omega)]
        · unfold shM
          rw [fillo_out (by omega), upc (by omega), upc (by omega), v _ _ (by omega), upc (by omega), upc (by omega)]
      · rw [if_neg q2]
        exact ⟨_, _, _, rfl, (sheet12 _ (by omega) _ _).trans ((if_pos g).trans ((if_pos q1).trans (if_neg q2))), h0⟩
    · rw [if_neg q1]
      exact ⟨_, _, _, rfl, (sheet12 _ (by omega) _ _).trans ((if_pos g).trans (if_neg q1)), h0⟩
  · rw [if_neg g]
    refine ⟨_, _, _, rfl, ?_, h0⟩
    unfold f_X12_sheet
    rw [isSheet12, isLane12]
    simp only [Option.bind_some, if10]
    cases q1 : rg 0 3 a
    · rfl
    · cases q2 : rg 0 2 b
      · rfl
      · rw [q1, q2] at g; simp at g
theorem lane_m1 {x : Int32} (h : x = -1 ∨ ∃ l, l ≤ 2 ∧ x = nI l) : (0 ≤ x ↔ ¬ x = -1) ∧ (x < 0 ↔ x = -1) := by
  rcases h with rfl | ⟨l, hl, rfl⟩
  · decide
  · have : l = 0 ∨ l = 1 ∨ l = 2 := by omega
    rcases this with rfl | rfl | rfl <;> decide
theorem holds_eq {w : ZW} {s : Nat} (hs : s < 4) : f_X7_holds w (nI s) = some (if (!(decide (w.1 123 s = -1))) = true then 1 else 0) := by
  unfold f_X7_holds
  rw [z_in_t hs (by omega), if_pos rfl, nI_clamp (show s < 2 ^ 31 by omega)]
  by_cases q : w.1 123 s = -1
  · rw [if_pos q]; simp [q]
  · rw [if_neg q]; simp [q]
theorem sim_drop {w : ZW} (h : Rel w) (a : Int32) : ∃ r w1 w2, f_X11_drop w a = some (r, w1) ∧ f_X12_drop w1 a = some (r, w2) ∧ Rel w2 := by
  have h0 := h
  obtain ⟨A, hA⟩ := h
  obtain ⟨hI, hC, hM, hT, hS, hIm⟩ := id hA
  by_cases g : rg 0 3 a = true
  · obtain ⟨s, hs, rfl⟩ := rg_0 g (by decide)
    obtain ⟨a1, a2, ⟨z, a3, a4, a5⟩, a6⟩ := hS s (by omega)
    have ln := lane_m1 a2
    have c1 : f_X11_drop w (nI s) = if w.1 123 s = -1 then some (-11, w) else some (nI z, z_upI w 123 s (-1)) := by
      unfold f_X11_drop
      rw [isSheet11, if_pos g, holds_eq (by omega)]
      simp only [Option.bind_some, if10]
      rw [if_neg i10]
      unfold f_X7_clear
      rw [z_in_t (show s < 4 by omega) (by omega), if_pos rfl, nI_clamp (show s < 2 ^ 31 by omega)]
      simp only [z_let, if_true, Option.bind_some]
      rw [upc (by omega), a4]
      by_cases q : w.1 123 s = -1
      · rw [if_pos q, if_neg (by simp [q])]
      · rw [if_neg q, if_pos (by simp [q])]
    have m1 : ∀ w', f_X12_drop w' (nI s) = if 0 ≤ w'.1 158 s then some (w'.1 159 s, z_upI w' 158 s (-1)) else some (-11, w') := by
      intro w'
      unfold f_X12_drop
      rw [isSheet12, if_pos g]
      simp only [Option.bind_some]
      rw [if_neg i10, z_in_t (show s < 4 by omega) (by omega), if_pos rfl, nI_clamp (show s < 2 ^ 31 by omega)]
      simp only [z_let, if_true]
      rw [upc (by omega)]
    rw [c1]
    by_cases q : w.1 123 s = -1
    · rw [if_pos q]
      exact ⟨_, _, _, rfl, (m1 w).trans (if_neg (fun h => ln.1.mp h (by rw [← a1]; exact q))), h0⟩
    · rw [if_neg q]
      refine ⟨nI z, z_upI w 123 s (-1), z_upI (z_upI w 123 s (-1)) 158 s (-1), rfl, ?_, ?_⟩
      · rw [m1, upc (by omega), upc (by omega), if_pos (ln.1.mpr (by rw [← a1]; exact q)), a5]
      · refine Rel_sheet (s := s) hA (by omega) ⟨?_, Or.inl upc_e, ⟨z, a3, ?_, ?_⟩, fun i hi => ?_⟩ (fun a j q => ?_) rfl
        · rw [upc (by omega), upc_e, upc_e]
        · rw [upc (by omega), upc (by omega)]; exact a4
        · rw [upc (by omega), upc (by omega)]; exact a5
        · rw [upc (by omega), upc (by omega), upc (by omega), upc (by omega)]; exact a6 i hi
        · rw [upc (by omega), upc (by omega)]
  · refine ⟨-1, w, w, ?_, ?_, h0⟩
    · unfold f_X11_drop
      rw [isSheet11, if_neg g]
      rfl
    · unfold f_X12_drop
      rw [isSheet12, if_neg g]
      rfl
/-- what is asked of a sheet -/
def flt (ln : Int32) (z : Nat) (a b : Int32) (m : Nat) : Int32 := if ln = -1 then -11 else if ln = a then (if b < 0 then -13 else if b.toNatClampNeg + m ≤ z then 0 else -13) else -12
theorem fault_eq2 {w : ZW} {s z m : Nat} (hs : s < 4) (hz : z ≤ 24) (hm : m < 2 ^ 31) (e2 : w.1 124 s = nI z) (a b : Int32) : f_X7_faultOf w (nI s) a b (nI m) = some (flt (w.1 123 s) z a b m) := by
  unfold f_X7_faultOf flt
  rw [holds_eq hs]
  simp only [Option.bind_some, if10]
  rw [z_in_t hs (by omega), nI_clamp (show s < 2 ^ 31 by omega), e2]
  simp only [if_true]
  by_cases q : w.1 123 s = -1
  · rw [if_pos q, if_neg (by simp [q])]
  · rw [if_neg q, if_pos (by simp [q])]
    by_cases q2 : w.1 123 s = a
    · rw [if_pos q2, if_pos q2]
      by_cases q3 : b < 0
      · rw [if_pos q3, if_pos q3]
      · rw [if_neg q3, if_neg q3, if_neg (nI_pos hm), ilt (by omega) hm]
        obtain ⟨i, hi, rfl⟩ := nI_of q3
        rw [nI_clamp hi]
        by_cases q4 : z < m
        · rw [if_pos q4, if_neg (by omega)]
        · rw [if_neg q4, pk_sub (by omega), ile hi (by omega)]
          by_cases q5 : i ≤ z - m
          · rw [if_pos q5, if_pos (by omega)]
          · rw [if_neg q5, if_neg (by omega)]
    · rw [if_neg q2, if_neg q2]
theorem finds_eq2 {w : ZW} {s z m : Nat} (hs : s < 4) (hz : z ≤ 24) (hm : m < 2 ^ 31) (hl : w.1 158 s = -1 ∨ ∃ l, l ≤ 2 ∧ w.1 158 s = nI l) (e2 : w.1 159 s = nI z) (a b : Int32) : f_X12_finds w (nI s) a b (nI m) = some (flt (w.1 158 s) z a b m) := by
  have ln := lane_m1 hl
  unfold f_X12_finds flt
  rw [z_in_t hs (by omega), nI_clamp (show s < 2 ^ 31 by omega), e2]
  simp only [if_true]
  by_cases q : w.1 158 s = -1
  · rw [if_pos q, if_neg (fun h => ln.1.mp h q)]
  · rw [if_neg q, if_pos (ln.1.mpr q)]
    by_cases q2 : w.1 158 s = a
    · rw [if_pos q2, if_pos q2]
      by_cases q3 : b < 0
      · rw [if_pos q3, if_pos q3]
      · rw [if_neg q3, if_neg q3]
        obtain ⟨i, hi, rfl⟩ := nI_of q3
        rw [nI_clamp hi, nI_l hi, nI_l hm, nI_l (by omega), lN_add]
        by_cases q5 : i + m ≤ z
        · rw [if_pos q5, if_pos]
          rw [← Int32.not_lt, lg_cmp_gt, pk_lLT (by omega) (by omega)]
          omega
        · rw [if_neg q5, if_neg]
          rw [← Int32.not_lt, lg_cmp_gt, pk_lLT (by omega) (by omega)]
          omega
    · rw [if_neg q2, if_neg q2]
