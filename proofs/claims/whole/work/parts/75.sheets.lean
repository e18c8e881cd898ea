/-! month; sheets -/
def cnt (a b : Int32) : Bool := !(decide (a < 0)) && !(decide (b < a)) && !(decide (9999 < b))
theorem isCount_eq (a b : Int32) : f_X0_isCount a b = some (if cnt a b = true then 1 else 0) := by
  unfold f_X0_isCount cnt
  by_cases h1 : a < 0
  · simp [h1]
  · by_cases h2 : b < a
    · simp [h1, h2]
    · by_cases h3 : 9999 < b
      · simp [h1, h2, h3]
      · simp [h1, h2, h3]
theorem cnt_iff {a b : Int32} : cnt a b = true ↔ (0 ≤ b ∧ b ≤ 9999) ∧ (0 ≤ a ∧ a ≤ b) := by
  unfold cnt
  simp only [Bool.and_eq_true, Bool.not_eq_true', decide_eq_false_iff_not, Int32.lt_iff_toInt_lt, Int32.le_iff_toInt_le]
  have h0 : (0 : Int32).toInt = 0 := rfl
  have h9 : (9999 : Int32).toInt = 9999 := rfl
  rw [h0, h9]
  omega
theorem isMonth_eq (a b : Int32) : f_X12_isMonth a b = some (if cnt a b = true then 1 else 0) := by
  have one : (0 : Int64) = (0 : Int32).toInt64 := by decide
  have two : (9999 : Int64) = (9999 : Int32).toInt64 := by decide
  unfold f_X12_isMonth
  rw [in_eq, in_eq, one, two]
  simp only [Option.bind_some, w_le]
  by_cases q1 : 0 ≤ b ∧ b ≤ 9999
  · rw [show (if 0 ≤ b ∧ b ≤ 9999 then (1 : Int32) else 0) = 1 from if_pos q1, if_neg i10]
    by_cases q2 : 0 ≤ a ∧ a ≤ b
    · rw [show (if 0 ≤ a ∧ a ≤ b then (1 : Int32) else 0) = 1 from if_pos q2, if_neg i10, if_pos (cnt_iff.mpr ⟨q1, q2⟩)]
    · rw [show (if 0 ≤ a ∧ a ≤ b then (1 : Int32) else 0) = 0 from if_neg q2, if_pos rfl, if_neg (fun h => q2 (cnt_iff.mp h).2)]
  · rw [show (if 0 ≤ b ∧ b ≤ 9999 then (1 : Int32) else 0) = 0 from if_neg q1, if_pos rfl, if_neg (fun h => q1 (cnt_iff.mp h).1)]
theorem cnt_t {a b : Int32} (h : cnt a b = true) : ∃ x y, a = nI x ∧ b = nI y ∧ x ≤ y ∧ y ≤ 9999 := by
  unfold cnt at h
  simp only [Bool.and_eq_true, Bool.not_eq_true', decide_eq_false_iff_not] at h
  obtain ⟨⟨h1, h2⟩, h3⟩ := h
  obtain ⟨x, hx, rfl⟩ := nI_of h1
  have g2 : nI x ≤ b := Classical.not_not.mp (fun h => h2 ((lt_nle _ _).mpr h))
  have g4 : b ≤ nI 9999 := Classical.not_not.mp (fun h => h3 ((lt_nle _ _).mpr h))
  obtain ⟨y, y1, y2, rfl⟩ := nI_rng (lo := x) (hi := 9999) (by decide) ⟨g2, g4⟩ hx
  exact ⟨x, y, rfl, rfl, y1, y2⟩
/-- one month told -/
def grR (S : ST) (k x y : Nat) : ST := sup (sup (sup S 0 k 1) 1 k x) 2 k y
def grC (w : ZW) (k : Nat) (a b : Int32) : ZW := z_upI (z_upI w 54 k a) 55 k b
def grM (w : ZW) (k : Nat) (a b : Int32) : ZW := z_upI (z_upI w 153 k a) 154 k b
theorem grR_k {S : ST} {k x y : Nat} : grR S k x y 0 k = 1 ∧ grR S k x y 1 k = x ∧ grR S k x y 2 k = y := by
  unfold grR sup
  simp
theorem grR_o {S : ST} {k x y i a : Nat} (h : i ≠ k) : grR S k x y a i = S a i := by
  unfold grR
  rw [sup_n (by omega), sup_n (by omega), sup_n (by omega)]
theorem grI {S : ST} {k x y : Nat} (h : GrowI S) (hxy : x ≤ y) (hy : y ≤ 9999) : GrowI (grR S k x y) := by
  intro i hi hne
  by_cases e : i = k
  · subst e
    obtain ⟨g0, g1, g2⟩ := grR_k (S := S) (k := i) (x := x) (y := y)
    rw [g1, g2]
    exact ⟨hxy, hy⟩
  · rw [grR_o e] at hne
    rw [grR_o e, grR_o e]
    exact h i hi hne
theorem grCC {S : ST} {w : ZW} {k x y : Nat} (h : GrowC S w.1) : GrowC (grR S k x y) (grC w k (nI x) (nI y)).1 := by
  intro i hi
  unfold grC
  by_cases e : i = k
  · subst e
    obtain ⟨g0, g1, g2⟩ := grR_k (S := S) (k := i) (x := x) (y := y)
    simp [z_upI, g0, g1, g2]
  · rw [grR_o e, grR_o e, grR_o e, upc (by omega), upc (by omega), upc (by omega), upc (by omega)]
    exact h i hi
theorem grMM {S : ST} {w : ZW} {k x y : Nat} (h : GrowM S w.1) : GrowM (grR S k x y) (grM w k (nI x) (nI y)).1 := by
  intro i hi
  unfold grM
  by_cases e : i = k
  · subst e
    obtain ⟨g0, g1, g2⟩ := grR_k (S := S) (k := i) (x := x) (y := y)
    simp [z_upI, g0, g1, g2]
  · rw [grR_o e, grR_o e, grR_o e, upc (by omega), upc (by omega), upc (by omega), upc (by omega)]
    exact h i hi
theorem put0_eq {w : ZW} {k : Nat} (hk : k < 12) (a b : Int32) : f_X0_put w (nI k) a b = some (grC w k a b) := by
  unfold f_X0_put
  rw [z_in_t hk (by omega), if_pos rfl, nI_clamp (show k < 2 ^ 31 by omega)]
  rfl
theorem sim_month {w : ZW} (h : Rel w) (a b c : Int32) : ∃ r w1 w2, f_X11_month w a b c = some (r, w1) ∧ f_X12_month w1 a b c = some (r, w2) ∧ Rel w2 := by
  have h0 := h
  obtain ⟨A, hA⟩ := h
  obtain ⟨hI, hC, hM, -⟩ := id hA
  have c1 : f_X11_month w a b c = if (rg 0 11 a && cnt b c) = true then (f_X0_put w a b c).bind (fun r3 : ZW => some ((1 : Int32), r3)) else some (-1, w) := by
    unfold f_X11_month
    rw [within_rg, isCount_eq]
    simp only [Option.bind_some, if10]
    cases rg 0 11 a <;> cases cnt b c <;> rfl
  have m1 : ∀ w', f_X12_month w' a b c = if (rg 0 11 a && cnt b c) = true then (if z_in a 12 = true then some (1, grM w' a.toNatClampNeg b c) else none) else some (-1, w') := by
    intro w'
    unfold f_X12_month
    rw [in_rg _ _ _ (by decide) (by decide), isMonth_eq]
    simp only [Option.bind_some, if10]
    cases rg 0 11 a <;> cases cnt b c <;> try rfl
    cases z_in a 12 <;> rfl
  rw [c1]
  by_cases g : (rg 0 11 a && cnt b c) = true
  · rw [if_pos g]
    have g' := g
    simp only [Bool.and_eq_true] at g'
    obtain ⟨k, hk, rfl⟩ := rg_0 g'.1 (by decide)
    obtain ⟨x, y, rfl, rfl, hxy, hy⟩ := cnt_t g'.2
    rw [put0_eq (by omega)]
    refine ⟨1, grC w k (nI x) (nI y), grM (grC w k (nI x) (nI y)) k (nI x) (nI y), rfl, ?_, ?_⟩
    · rw [m1, if_pos g, z_in_t (show k < 12 by omega) (by omega), if_pos rfl, nI_clamp (show k < 2 ^ 31 by omega)]
    · refine Rel_grow (S' := grR (A 4) k x y) hA (grI hI.2.2.2.2 hxy hy) ?_ ?_ (fun a j q => ?_) rfl
      · have := grCC (k := k) (x := x) (y := y) hC.2.2.2.2
        exact fr_GC (fun a j q => by unfold grM; unfold cGC at q; rw [upc (by omega), upc (by omega)]) this
      · exact grMM (fr_GM (fun a j q => by unfold grC; unfold cGM at q; rw [upc (by omega), upc (by omega)]) hM.2.2.2.2)
      · unfold grM grC
        rw [upc (by omega), upc (by omega), upc (by omega), upc (by omega)]
  · rw [if_neg g]
    exact ⟨_, _, _, rfl, (m1 w).trans (if_neg g), h0⟩
theorem isSheet11 (a : Int32) : f_X11_isSheet a = some (if rg 0 3 a = true then 1 else 0) := by
  unfold f_X11_isSheet
  rw [within_rg]
  simp only [Option.bind_some, bo_if, if_true]
theorem isSheet12 (a : Int32) : f_X12_isSheet a = some (if rg 0 3 a = true then 1 else 0) := by
  unfold f_X12_isSheet
  rw [in_rg _ _ _ (by decide) (by decide)]
  simp only [Option.bind_some, bo_if, if_true]
theorem isLane11 (a : Int32) : f_X11_isLane a = some (if rg 0 2 a = true then 1 else 0) := by
  unfold f_X11_isLane
  rw [within_rg]
  simp only [Option.bind_some, bo_if, if_true]
theorem isLane12 (a : Int32) : f_X12_isLane a = some (if rg 0 2 a = true then 1 else 0) := by
  unfold f_X12_isLane
  rw [in_rg _ _ _ (by decide) (by decide)]
  simp only [Option.bind_some, bo_if, if_true]
/-- one sheet, and all else -/
def Sh1 (s : Nat) (w : ZW) : Prop := w.1 123 s = w.1 158 s ∧ (w.1 158 s = -1 ∨ ∃ l, l ≤ 2 ∧ w.1 158 s = nI l) ∧ (∃ z, z ≤ 24 ∧ w.1 124 s = nI z ∧ w.1 159 s = nI z) ∧ ∀ i, i < 24 → w.1 (126 + s) i = w.1 160 (24 * s + i)
theorem Rel_sheet {A : AST} {w w' : ZW} {s : Nat} (hA : RelA A w) (hs : s < 4) (h1 : Sh1 s w') (fr : ∀ a j, ¬ ((a = 123 ∧ j = s) ∨ (a = 124 ∧ j = s) ∨ a = 126 + s ∨ (a = 158 ∧ j = s) ∨ (a = 159 ∧ j = s) ∨ (a = 160 ∧ 24 * s ≤ j ∧ j < 24 * s + 24) ∨ a = 161) → w'.1 a j = w.1 a j) (fl : w'.2 = w.2) : Rel w' := by
  obtain ⟨hI, hC, hM, hT, hS, hIm⟩ := hA
  refine ⟨A, hI, fr_StC (fun c j q => fr c j (by unfold cRC cSC cNC cNiC cGC at q; omega)) (fun c j _ => by rw [fl]) hC, fr_StM (fun c j q => fr c j (by unfold cRM cSM cNM cNiM cGM at q; omega)) hM, fr_T (fun c j q => fr c j (by unfold cT at q; omega)) hT, fun r hr => ?_, fr_Im (fun c j q => fr c j (by unfold cIm at q; omega)) (fun c j _ => by rw [fl]) hIm⟩
  by_cases e : r = s
  · subst e
    exact h1
  · obtain ⟨a1, a2, a3, a4⟩ := hS r hr
    rw [fr 123 r (by omega), fr 158 r (by omega), fr 124 r (by omega), fr 159 r (by omega)]
    refine ⟨a1, a2, a3, fun i hi => ?_⟩
    rw [fr (126 + r) i (by omega), fr 160 (24 * r + i) (by omega)]
    exact a4 i hi
theorem fill24 {w : ZW} {b : Nat} : f_J7_fill_53178 w b 24 0 = some (fillo w b 0 24 (fun _ => 0)) := by
  unfold f_J7_fill_53178
  rw [show ((0 : Int32), w) = (nI 0, fillo w b 0 0 (fun _ => 0)) by rw [fillo_0]; rfl, it_count (fun i => (nI i, fillo w b 0 i (fun _ => 0))) 24 (fillo w b 0 24 (fun _ => 0)) ?_ ?_ (zf (by omega))]
  · rfl
  · intro i hi
    unfold f_J7_fill_53178_L5
    simp only []
    rw [show (Int32.ofNat 24) = nI 24 from rfl, if_neg (nnle hi), z_in_t hi (by omega), if_pos rfl, nI_clamp (show i < 2 ^ 31 by omega), nI_1]
    simp only [z_let]
    have := fillo_s w b 0 i (fun _ => 0)
    rw [Nat.zero_add] at this
    rw [this]
  · unfold f_J7_fill_53178_L5
    simp only []
    rw [show (Int32.ofNat 24) = nI 24 from rfl, if_pos (Int32.le_refl _)]
