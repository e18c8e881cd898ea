def bC (a j : Nat) : Prop := (a = 2 ∧ (j = 0 ∨ j = 4 ∨ j = 5)) ∨ (3 ≤ a ∧ a ≤ 5 ∧ j < 6) ∨ (6 ≤ a ∧ a ≤ 11 ∧ j < 14) ∨ (a = 12 ∧ j = 0) ∨ (13 ≤ a ∧ a ≤ 15 ∧ j < 6) ∨ (a = 16 ∧ (j = 0 ∨ j = 1)) ∨ (a = 20 ∧ j = 0) ∨ (21 ≤ a ∧ a ≤ 23 ∧ j < 6) ∨ ((a = 54 ∨ a = 55) ∧ j < 12)
def bL (a j : Nat) : Prop := (a = 17 ∧ j < 8) ∨ ((a = 18 ∨ a = 19) ∧ j < 14)
theorem fb_StC {A : AST} {c c' : Nat → Nat → Int32} {d d' : Nat → Nat → Int64} (hI : StI A) (f : ∀ a j, bC a j → c' a j = c a j) (g : ∀ a j, bL a j → d' a j = d a j) (h : StC A c d) : StC A c' d' := by
  obtain ⟨⟨iP, iL, iG, iLim, iLk⟩, ⟨iS, iSk⟩, ⟨iN, iLt, -⟩, -⟩ := hI
  obtain ⟨⟨a1, a2, a3, a4, a5⟩, ⟨b1, b2⟩, ⟨c1, c2, c3, c4⟩, ⟨d1, d2⟩, e1⟩ := h
  refine ⟨⟨(f _ _ (by unfold bC; omega)).trans a1, (f _ _ (by unfold bC; omega)).trans a2, (f _ _ (by unfold bC; omega)).trans a3, fun p hp => ?_, fun i hi => ?_⟩, ⟨(f _ _ (by unfold bC; omega)).trans b1, fun p hp => ?_⟩, ⟨(f _ _ (by unfold bC; omega)).trans c1, (f _ _ (by unfold bC; omega)).trans c2, fun p hp => ?_, fun l hl => ?_⟩, ⟨(f _ _ (by unfold bC; omega)).trans d1, fun p hp => ?_⟩, fun k hk => ?_⟩
  · obtain ⟨g1, g2, g3⟩ := a4 p hp
    exact ⟨(f _ _ (by unfold bC; omega)).trans g1, (f _ _ (by unfold bC; omega)).trans g2, (f _ _ (by unfold bC; omega)).trans g3⟩
  · obtain ⟨g1, g2, g3, g4, g5, g6⟩ := a5 i hi
    exact ⟨(f _ _ (by unfold bC; omega)).trans g1, (f _ _ (by unfold bC; omega)).trans g2, (f _ _ (by unfold bC; omega)).trans g3, (f _ _ (by unfold bC; omega)).trans g4, (f _ _ (by unfold bC; omega)).trans g5, (f _ _ (by unfold bC; omega)).trans g6⟩
  · obtain ⟨g1, g2⟩ := b2 p hp
    exact ⟨(f _ _ (by unfold bC; omega)).trans g1, fun q => ⟨(f _ _ (by unfold bC; omega)).trans (g2 q).1, (f _ _ (by unfold bC; omega)).trans (g2 q).2⟩⟩
  · exact (g _ _ (by unfold bL; omega)).trans (c3 p hp)
  · have hl14 := bit_lt iLt hl
    exact ⟨(g _ _ (by unfold bL; omega)).trans (c4 l hl).1, (g _ _ (by unfold bL; omega)).trans (c4 l hl).2⟩
  · obtain ⟨g1, g2, g3⟩ := d2 p hp
    exact ⟨(f _ _ (by unfold bC; omega)).trans g1, (f _ _ (by unfold bC; omega)).trans g2, (f _ _ (by unfold bC; omega)).trans g3⟩
  · exact ⟨(f _ _ (by unfold bC; omega)).trans (e1 k hk).1, (f _ _ (by unfold bC; omega)).trans (e1 k hk).2⟩
/-! copies between cells of the class -/
def Cp {α : Type} (f : Nat → Nat) (T : Nat → Nat → Prop) (F F1 : Nat → Nat → α) : Prop := (∀ b k, T b k → F1 b k = F (f b) k) ∧ ∀ b k, ¬ T b k → F1 b k = F b k
theorem cp0 {α : Type} {f : Nat → Nat} {F : Nat → Nat → α} : Cp f (fun _ k => k + 1 = 0) F F := ⟨fun b k h => by omega, fun b k _ => rfl⟩
theorem cpU {f : Nat → Nat} {T : Nat → Nat → Prop} {F : Nat → Nat → Int32} {w1 : ZW} (b a k : Nat) (c : Cp f T F w1.1) (e : f b = a) (n : ¬ T a k) : Cp f (fun x y => T x y ∨ (x = b ∧ y = k)) F (z_upI w1 b k (w1.1 a k)).1 := by
  refine ⟨fun x y h => ?_, fun x y h => ?_⟩
  · by_cases q : x = b ∧ y = k
    · obtain ⟨rfl, rfl⟩ := q
      rw [upc_e, c.2 a y n, e]
    · rw [upc q]
      exact c.1 x y (h.resolve_right q)
  · rw [upc (fun q => h (Or.inr q))]
    exact c.2 x y (fun q => h (Or.inl q))
theorem cpR {f : Nat → Nat} {T : Nat → Nat → Prop} {F : Nat → Nat → Int32} {w1 : ZW} (b a n : Nat) (c : Cp f T F w1.1) (e : f b = a) (h : ∀ k, k < n → ¬ T a k) : Cp f (fun x y => T x y ∨ (x = b ∧ y < n)) F (z_cpI w1 a b 0 0 n).1 := by
  have ev : ∀ x y, (z_cpI w1 a b 0 0 n).1 x y = if x = b ∧ 0 ≤ y ∧ y < 0 + n then w1.1 a (0 + (y - 0)) else w1.1 x y := fun x y => rfl
  refine ⟨fun x y g => ?_, fun x y g => ?_⟩
  · rw [ev]
    by_cases q : x = b ∧ y < n
    · obtain ⟨rfl, q⟩ := q
      rw [if_pos ⟨rfl, by omega, by omega⟩, Nat.zero_add, Nat.sub_zero, c.2 a y (h y q), e]
    · rw [if_neg (by omega)]
      exact c.1 x y (g.resolve_right q)
  · rw [ev, if_neg (fun q => g (Or.inr ⟨q.1, by omega⟩))]
    exact c.2 x y (fun q => g (Or.inl q))
theorem cpJ {f : Nat → Nat} {T : Nat → Nat → Prop} {F : Nat → Nat → Int64} {w1 : ZW} (b a n : Nat) (c : Cp f T F w1.2) (e : f b = a) (h : ∀ k, k < n → ¬ T a k) : Cp f (fun x y => T x y ∨ (x = b ∧ y < n)) F (z_cpJ w1 a b 0 0 n).2 := by
  have ev : ∀ x y, (z_cpJ w1 a b 0 0 n).2 x y = if x = b ∧ 0 ≤ y ∧ y < 0 + n then w1.2 a (0 + (y - 0)) else w1.2 x y := fun x y => rfl
  refine ⟨fun x y g => ?_, fun x y g => ?_⟩
  · rw [ev]
    by_cases q : x = b ∧ y < n
    · obtain ⟨rfl, q⟩ := q
      rw [if_pos ⟨rfl, by omega, by omega⟩, Nat.zero_add, Nat.sub_zero, c.2 a y (h y q), e]
    · rw [if_neg (by omega)]
      exact c.1 x y (g.resolve_right q)
  · rw [ev, if_neg (fun q => g (Or.inr ⟨q.1, by omega⟩))]
    exact c.2 x y (fun q => g (Or.inl q))
theorem cpT {α : Type} {f : Nat → Nat} {T1 T2 T : Nat → Nat → Prop} {F F1 F2 : Nat → Nat → α} (c1 : Cp f T1 F F1) (c2 : Cp f T2 F1 F2) (h : ∀ b k, T2 b k → ¬ T1 (f b) k) (e : ∀ b k, T b k ↔ T1 b k ∨ T2 b k) : Cp f T F F2 := by
  refine ⟨fun x y g => ?_, fun x y g => ?_⟩
  · by_cases q : T2 x y
    · rw [c2.1 x y q, c1.2 _ _ (h x y q)]
    · rw [c2.2 x y q, c1.1 x y (((e x y).mp g).resolve_right q)]
  · rw [c2.2 x y (fun q => g ((e x y).mpr (Or.inr q))), c1.2 x y (fun q => g ((e x y).mpr (Or.inl q)))]
theorem cpM {α : Type} {f : Nat → Nat} {T1 T : Nat → Nat → Prop} {F F1 : Nat → Nat → α} (c1 : Cp f T1 F F1) (e : ∀ b k, T b k ↔ T1 b k) : Cp f T F F1 :=
  ⟨fun x y g => c1.1 x y ((e x y).mp g), fun x y g => c1.2 x y (fun q => g ((e x y).mpr q))⟩
theorem cin6 : z_cin (0 : Int32) (0 : Int32) (6 : Int32) 6 6 = true := by decide
theorem cin8 : z_cin (0 : Int32) (0 : Int32) (8 : Int32) 8 8 = true := by decide
theorem cin12 : z_cin (0 : Int32) (0 : Int32) (12 : Int32) 12 12 = true := by decide
theorem cin14 : z_cin (0 : Int32) (0 : Int32) (14 : Int32) 14 14 = true := by decide
theorem tn0 : (0 : Int32).toNatClampNeg = 0 := by decide
theorem tn6 : (6 : Int32).toNatClampNeg = 6 := by decide
theorem tn8 : (8 : Int32).toNatClampNeg = 8 := by decide
theorem tn12 : (12 : Int32).toNatClampNeg = 12 := by decide
theorem tn14 : (14 : Int32).toNatClampNeg = 14 := by decide
