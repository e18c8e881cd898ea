theorem ushr_lit {n : Nat} (hn : n < 2 ^ 32) (k : Nat) (hk : ((nI k).toUInt32 &&& Int32.toUInt32 31).toBitVec % 32 = BitVec.ofNat 32 k) (hk2 : k < 32) : ((nI n).toUInt32 >>> ((nI k).toUInt32 &&& Int32.toUInt32 31)).toInt32 = nI (n / 2 ^ k) :=
  pk_ushrN hn _ k (by rw [hk]; simp; omega)
theorem bitCount_eq {b : Nat} (h : b < 2 ^ 14) : f_J6_bitCount_0f7a4 (nI b) = some (nI (pc14 b)) := by
  rw [← swN_pc h]
  unfold f_J6_bitCount_0f7a4 swN
  simp only [z_let]
  have a1 : (b / 2 &&& 1431655765) ≤ b / 2 := Nat.and_le_left
  rw [show (1 : Int32) = nI 1 from rfl, show (1431655765 : Int32) = nI 1431655765 from rfl, ushr_lit (by omega) 1 (by decide) (by omega), Nat.pow_one, nI_and, pk_sub (show (b / 2 &&& 1431655765) ≤ b by omega)]
  generalize hy1 : b - (b / 2 &&& 1431655765) = y1
  have b1 : y1 < 2 ^ 14 := by omega
  rw [show (2 : Int32) = nI 2 from rfl, show (858993459 : Int32) = nI 858993459 from rfl, ushr_lit (by omega) 2 (by decide) (by omega), nI_and, nI_and, nI_add, show 2 ^ 2 = 4 from rfl]
  have a2 : (y1 &&& 858993459) ≤ y1 := Nat.and_le_left
  have a3 : (y1 / 4 &&& 858993459) ≤ y1 / 4 := Nat.and_le_left
  generalize hy2 : (y1 &&& 858993459) + (y1 / 4 &&& 858993459) = y2
  have b2 : y2 < 2 ^ 15 := by omega
  rw [show (4 : Int32) = nI 4 from rfl, show (252645135 : Int32) = nI 252645135 from rfl, ushr_lit (by omega) 4 (by decide) (by omega), nI_add, nI_and, show 2 ^ 4 = 16 from rfl]
  have a4 : (y2 + y2 / 16 &&& 252645135) ≤ y2 + y2 / 16 := Nat.and_le_left
  generalize hy3 : (y2 + y2 / 16 &&& 252645135) = y3
  have b3 : y3 < 2 ^ 16 := by omega
  rw [show (8 : Int32) = nI 8 from rfl, ushr_lit (by omega) 8 (by decide) (by omega), nI_add, show 2 ^ 8 = 256 from rfl]
  generalize hy4 : y3 + y3 / 256 = y4
  have b4 : y4 < 2 ^ 17 := by omega
  rw [show (16 : Int32) = nI 16 from rfl, show (63 : Int32) = nI 63 from rfl, ushr_lit (by omega) 16 (by decide) (by omega), nI_add, nI_and, show 2 ^ 16 = 65536 from rfl]
theorem pcf_le : ∀ (k b : Nat), pcf k b ≤ k
  | 0, _ => Nat.le_refl _
  | k + 1, b => by
    have := pcf_le k (b / 2)
    unfold pcf
    omega
/-- bits one by one -/
theorem pcf_bits : ∀ (k b : Nat), pcf k b = ((List.range k).map (fun i => if b.testBit i = true then 1 else 0)).sum
  | 0, _ => rfl
  | k + 1, b => by
    unfold pcf
    rw [pcf_bits k (b / 2), List.range_succ_eq_map, List.map_cons, List.sum_cons, List.map_map]
    congr 1
    · rw [Nat.testBit_zero]
      have : b % 2 = 0 ∨ b % 2 = 1 := by omega
      rcases this with q | q <;> simp [q]
    · congr 1
      apply List.map_congr_left
      intro i _
      simp [Nat.testBit_succ]
theorem pc_disj {a b : Nat} (h : ∀ i, a.testBit i = true → b.testBit i = false) : pc14 (a ||| b) = pc14 a + pc14 b := by
  unfold pc14
  rw [pcf_bits, pcf_bits, pcf_bits]
  have : ∀ l : List Nat, (l.map (fun i => if (a ||| b).testBit i = true then 1 else 0)).sum = (l.map (fun i => if a.testBit i = true then 1 else 0)).sum + (l.map (fun i => if b.testBit i = true then 1 else 0)).sum := by
    intro l
    induction l with
    | nil => rfl
    | cons x l ih =>
      simp only [List.map_cons, List.sum_cons]
      rw [ih, Nat.testBit_or]
      have hx := h x
      cases q1 : a.testBit x
      · cases q2 : b.testBit x
        · simp only [Bool.false_eq_true, if_false, Bool.or_self]; omega
        · simp only [Bool.false_eq_true, if_false, if_true, Bool.false_or]; omega
      · have := hx q1
        simp only [this, Bool.or_false, Bool.false_eq_true, if_false, if_true]
        omega
  exact this _
theorem pc_mono {a b : Nat} (h : ∀ i, a.testBit i = true → b.testBit i = true) : pc14 a ≤ pc14 b := by
  unfold pc14
  rw [pcf_bits, pcf_bits]
  have : ∀ l : List Nat, (l.map (fun i => if a.testBit i = true then 1 else 0)).sum ≤ (l.map (fun i => if b.testBit i = true then 1 else 0)).sum := by
    intro l
    induction l with
    | nil => exact Nat.le_refl _
    | cons x l ih =>
      simp only [List.map_cons, List.sum_cons]
      have hx := h x
      cases q1 : a.testBit x
      · cases q2 : b.testBit x
        · simp only [Bool.false_eq_true, if_false]; omega
        · simp only [Bool.false_eq_true, if_false, if_true]; omega
      · have := hx q1
        simp only [this, if_true]
        omega
  exact this _
theorem pc_pos {b : Nat} (h : b < 2 ^ 14) (h0 : b ≠ 0) : 1 ≤ pc14 b := by
  have := pc_low h h0
  omega
