/-! sets of locks: one without another; whether a set is one of locks that hang -/
def ndn (a b : Nat) : Nat := a &&& (b ^^^ (2 ^ 32 - 1))
theorem nI_ndn (a b : Nat) : nI a &&& (nI b ^^^ (-1 : Int32)) = nI (ndn a b) := by
  rw [show (-1 : Int32) = nI (2 ^ 32 - 1) from rfl, nI_xor, nI_and]
  rfl
theorem ndn_le {a b : Nat} : ndn a b ≤ a := Nat.and_le_left
theorem bit_hi {a i n : Nat} (ha : a < 2 ^ n) (hi : n ≤ i) : a.testBit i = false := Nat.testBit_lt_two_pow (Nat.lt_of_lt_of_le ha (Nat.pow_le_pow_right (by omega) hi))
theorem bit_lt {a i n : Nat} (ha : a < 2 ^ n) (h : a.testBit i = true) : i < n := by
  cases Nat.lt_or_ge i n with
  | inl q => exact q
  | inr q => rw [bit_hi ha q] at h; cases h
theorem ndn_bit {a b i : Nat} (ha : a < 2 ^ 32) : (ndn a b).testBit i = (a.testBit i && !(b.testBit i)) := by
  unfold ndn
  rw [Nat.testBit_and, Nat.testBit_xor, Nat.testBit_two_pow_sub_one]
  by_cases q : i < 32
  · simp [q]
  · rw [bit_hi ha (by omega)]
    simp
theorem z_bits {n : Nat} : n = 0 ↔ ∀ i, n.testBit i = false :=
  ⟨fun h i => by rw [h, Nat.zero_testBit], fun h => Nat.eq_of_testBit_eq (fun i => by rw [h i, Nat.zero_testBit])⟩
theorem pw14 {L : Nat} (h : L ≤ 14) : 2 ^ L ≤ 16384 := Nat.pow_le_pow_right (n := 2) (by omega) h
def sgt (R : ST) (n : Nat) : Bool := decide (n ≠ 0) && decide (ndn n (ndn (2 ^ R 0 1 - 1) (R 0 2)) = 0)
theorem sgt_iff {R : ST} (hL : R 0 1 ≤ 14) {n : Nat} (hn : n < 2 ^ 31) : sgt R n = true ↔ n ≠ 0 ∧ ∀ i, n.testBit i = true → i < R 0 1 ∧ (R 0 2).testBit i = false := by
  have h14 := pw14 hL
  unfold sgt
  simp only [Bool.and_eq_true, decide_eq_true_eq]
  rw [z_bits (n := ndn n _)]
  have e : ∀ i, (ndn n (ndn (2 ^ R 0 1 - 1) (R 0 2))).testBit i = false ↔ (n.testBit i = true → i < R 0 1 ∧ (R 0 2).testBit i = false) := fun i => by
    rw [ndn_bit (by omega), ndn_bit (by omega), Nat.testBit_two_pow_sub_one]
    cases n.testBit i <;> cases (R 0 2).testBit i <;> by_cases q : i < R 0 1 <;> simp [q]
  simp only [e]
def sgA (R : ST) (a : Int32) : Bool := !(decide (a ≤ 0)) && sgt R a.toNatClampNeg
theorem sgA_t {R : ST} (hL : R 0 1 ≤ 14) {a : Int32} (h : sgA R a = true) : ∃ n, a = nI n ∧ n ≠ 0 ∧ n < 2 ^ R 0 1 ∧ ∀ i, n.testBit i = true → (R 0 2).testBit i = false := by
  unfold sgA at h
  simp only [Bool.and_eq_true, Bool.not_eq_true', decide_eq_false_iff_not] at h
  obtain ⟨h1, h2⟩ := h
  obtain ⟨n, hn, rfl⟩ := nI_of (fun q => h1 (Int32.le_of_lt q))
  rw [nI_clamp hn] at h2
  obtain ⟨h3, h4⟩ := (sgt_iff hL hn).mp h2
  refine ⟨n, rfl, h3, Nat.lt_pow_two_of_testBit n (fun i hi => ?_), fun i hi => (h4 i hi).2⟩
  cases q : n.testBit i
  · rfl
  · have := (h4 i q).1
    omega
theorem sought11 {R : ST} {w : ZW} (hI : RailI R) (hC : RailC R w.1) (a : Int32) : f_X11_isSought w a = some (if sgA R a = true then 1 else 0) := by
  have hL := hI.2.1
  have h14 := pw14 hL
  unfold f_X11_isSought
  rw [hC.2.1, hC.2.2.1, nI_shl1 (by omega), show nI (2 ^ R 0 1) - (1 : Int32) = nI (2 ^ R 0 1 - 1) from pk_sub (Nat.pow_pos (by omega)), nI_ndn]
  simp only [z_let]
  unfold sgA
  by_cases h : a ≤ 0
  · rw [if_pos h]
    simp [h]
  · obtain ⟨n, hn, rfl⟩ := nI_of (fun q => h (Int32.le_of_lt q))
    have nz : n ≠ 0 := fun q => h (by rw [q]; exact Int32.le_refl _)
    rw [if_neg h, nI_ndn, nI_clamp hn]
    unfold sgt
    have e : nI (ndn n (ndn (2 ^ R 0 1 - 1) (R 0 2))) = 0 ↔ ndn n (ndn (2 ^ R 0 1 - 1) (R 0 2)) = 0 := by
      have := ndn_le (a := n) (b := ndn (2 ^ R 0 1 - 1) (R 0 2))
      rw [show (0 : Int32) = nI 0 from rfl, nI_inj (by omega) (by omega)]
    simp only [e, h, nz]
    by_cases q : ndn n (ndn (2 ^ R 0 1 - 1) (R 0 2)) = 0 <;> simp [q, nz]
def okS (G n : Nat) (r : Bool) : Nat → Bool
  | 0 => r
  | k + 1 => okS G n r k && (!(n.testBit k) || !(G.testBit k))
theorem okS_s {G n : Nat} {r : Bool} {k : Nat} : okS G n r (k + 1) = (okS G n r k && (!(n.testBit k) || !(G.testBit k))) := rfl
theorem okS_iff {G n : Nat} {r : Bool} : ∀ k, okS G n r k = true ↔ r = true ∧ ∀ i, i < k → n.testBit i = true → G.testBit i = false
  | 0 => by
    unfold okS
    exact ⟨fun h => ⟨h, fun i hi => by omega⟩, fun h => h.1⟩
  | k + 1 => by
    unfold okS
    rw [Bool.and_eq_true, okS_iff k]
    constructor
    · rintro ⟨⟨h1, h2⟩, h3⟩
      refine ⟨h1, fun i hi hb => ?_⟩
      by_cases e : i = k
      · subst e
        rw [hb] at h3
        simpa using h3
      · exact h2 i (by omega) hb
    · rintro ⟨h1, h2⟩
      refine ⟨⟨h1, fun i hi => h2 i (by omega)⟩, ?_⟩
      have := h2 k (by omega)
      cases q : n.testBit k
      · simp
      · simp [this q]
