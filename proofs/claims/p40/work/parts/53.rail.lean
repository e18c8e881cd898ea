theorem it_at {σ ρ : Type} {B : σ → Option (σ ⊕ ρ)} {s0 : σ} (I : Nat → σ) (i0 n : Nat) (r : ρ) (h0 : s0 = I i0) (hi : i0 ≤ n) (hs : ∀ i, i0 ≤ i → i < n → B (I i) = some (.inl (I (i + 1)))) (he : B (I n) = some (.inr r)) {N : Nat} (hN : n - i0 < N) : z_iter B N s0 = some r := by
  subst h0
  exact it_from I i0 n r hi hs he hN
/-! the rail: what hangs where, weights, loads -/
theorem nI_b0 (b : Bool) : (nI (if b = true then 1 else 0) = 0) ↔ b = false := by cases b <;> decide
theorem nI_b1 (b : Bool) : (nI (if b = true then 1 else 0) = 1) ↔ b = true := by cases b <;> decide
theorem i10 : ¬ ((1 : Int32) = 0) := by decide
theorem hol_0 : hol 0 = -4 := rfl
theorem hol_p {n : Nat} (h : n ≠ 0) : hol n = nI (n - 1) := by unfold hol; rw [if_neg h]
theorem hol_neg {n : Nat} (hn : n < 2 ^ 31) : hol n < 0 ↔ n = 0 := by
  by_cases h : n = 0
  · subst h
    rw [hol_0]
    exact ⟨fun _ => rfl, fun _ => by decide⟩
  · rw [hol_p h]
    exact ⟨fun q => absurd q (nI_pos (by omega)), fun q => absurd q h⟩
theorem X4_isGone_eq {G i : Nat} {w : ZW} (h : w.1 2 5 = nI G) (hG : G < 2 ^ 31) (hi : i < 32) : f_X4_isGone w (nI i) = some (if G.testBit i = true then 1 else 0) := by
  unfold f_X4_isGone
  rw [h]
  simp only [nI_bit0 hG hi]
  cases G.testBit i <;> rfl
def rUn (R : ST) (l : Nat) : Nat → Nat
  | 0 => 2 ^ l
  | k + 1 => if (!((R 0 2).testBit (l + 1 + k)) && decide (R 9 (l + 1 + k) ≠ 0) && (rUn R l k).testBit (R 9 (l + 1 + k) - 1)) = true then rUn R l k ||| 2 ^ (l + 1 + k) else rUn R l k
def rU (R : ST) (l : Nat) : Nat := rUn R l (R 0 1 - (l + 1))
def rWn (R : ST) (b : Nat) : Nat → Nat
  | 0 => 0
  | k + 1 => rWn R b k + if b.testBit k = true then R 4 k else 0
def rW (R : ST) (b : Nat) : Nat := rWn R b (R 0 1)
def rHn (R : ST) (p q : Nat) : Nat → Nat
  | 0 => 0
  | k + 1 => if (!((R 0 2).testBit k) && decide (R 7 k = p) && (decide (q = 3) || decide (R 8 k = q))) = true then rHn R p q k ||| 2 ^ k else rHn R p q k
def rH (R : ST) (p q : Nat) : Nat := rHn R p q (R 0 1)
theorem rUn_lt {R : ST} {l k n : Nat} (h : l + 1 + k ≤ n) : rUn R l k < 2 ^ n := by
  induction k with
  | zero => exact Nat.pow_lt_pow_right (by omega) (by omega)
  | succ k ih =>
    unfold rUn
    split
    · exact or_pow_lt (ih (by omega)) (by omega)
    · exact ih (by omega)
theorem rHn_lt {R : ST} {p q k n : Nat} (h : k ≤ n) : rHn R p q k < 2 ^ n := by
  induction k with
  | zero => exact Nat.pow_pos (by omega)
  | succ k ih =>
    unfold rHn
    split
    · exact or_pow_lt (ih (by omega)) (by omega)
    · exact ih (by omega)
theorem rWn_le {R : ST} (hI : RailI R) (b : Nat) : ∀ k, k ≤ R 0 1 → rWn R b k ≤ 999 * k
  | 0, _ => Nat.le_refl _
  | k + 1, h => by
    have := rWn_le hI b k (by omega)
    have h4 := (hI.2.2.2.2 k (by omega)).1
    unfold rWn
    split <;> omega
theorem p31 {L : Nat} (h : L ≤ 14) {x : Nat} (hx : x < 2 ^ L) : x < 2 ^ 31 := Nat.lt_of_lt_of_le hx (Nat.pow_le_pow_right (by omega) (by omega))
theorem X4_withAllOn_eq {R : ST} {w : ZW} (hI : RailI R) (hC : RailC R w.1) {l : Nat} (hl : l < R 0 1) : f_X4_withAllOn w (nI l) = some (nI (rU R l)) := by
  obtain ⟨hP, hL, hG, -, hi⟩ := hI
  obtain ⟨-, cL, cG, -, ci⟩ := hC
  unfold f_X4_withAllOn
  simp only [z_let]
  rw [nI_shl1 (by omega), nI_1, it_at (fun i => (nI (rUn R l (i - (l + 1))), nI i)) (l + 1) (R 0 1) (nI (rU R l)) (by rw [Nat.sub_self]; rfl) (by omega) ?_ ?_ (zf (by omega))]
  · rfl
  · intro i h1 h2
    obtain ⟨k, rfl⟩ : ∃ k, i = l + 1 + k := ⟨i - (l + 1), by omega⟩
    rw [show l + 1 + k - (l + 1) = k by omega, show l + 1 + k + 1 - (l + 1) = k + 1 by omega]
    obtain ⟨-, -, -, -, -, e9⟩ := ci (l + 1 + k) h2
    obtain ⟨-, -, -, -, -, h9, -⟩ := hi (l + 1 + k) h2
    have hb : rUn R l k < 2 ^ 31 := p31 hL (rUn_lt (by omega))
    unfold f_X4_withAllOn_L8
    simp only [cL, nI_leI (show R 0 1 < 2 ^ 31 by omega) (show l + 1 + k < 2 ^ 31 by omega), show ¬ R 0 1 ≤ l + 1 + k by omega, if_false]
    rw [X4_isGone_eq cG (p31 hL hG) (by omega)]
    simp only [Option.bind_some, if10, nI_1, z_in_t (show l + 1 + k < 14 by omega) (by omega), if_true, nI_clamp (show l + 1 + k < 2 ^ 31 by omega), e9, hol_neg (show R 9 (l + 1 + k) < 2 ^ 31 by omega), rUn]
    by_cases g1 : (R 0 2).testBit (l + 1 + k) = true
    · simp [g1]
    · simp only [Bool.not_eq_true] at g1
      by_cases g2 : R 9 (l + 1 + k) = 0
      · simp [g1, g2]
      · rw [hol_p g2]
        simp only [nI_bit0 hb (show R 9 (l + 1 + k) - 1 < 32 by omega), nI_shl1 (show l + 1 + k < 31 by omega), z_let]
        by_cases g3 : (rUn R l k).testBit (R 9 (l + 1 + k) - 1) = true
        · simp [g1, g2, g3, nI_or]
        · simp only [Bool.not_eq_true] at g3
          simp [g1, g2, g3]
  · unfold f_X4_withAllOn_L8
    simp only [cL, nI_leI (show R 0 1 < 2 ^ 31 by omega) (show R 0 1 < 2 ^ 31 by omega), Nat.le_refl, if_true]
    rfl
theorem X4_weightOf_eq {R : ST} {w : ZW} (hI : RailI R) (hC : RailC R w.1) {b : Nat} (hb : b < 2 ^ 14) : f_X4_weightOf w (nI b) = some (nI (rW R b)) := by
  obtain ⟨hP, hL, hG, -, hi⟩ := hI
  obtain ⟨-, cL, cG, -, ci⟩ := hC
  unfold f_X4_weightOf
  rw [show ((0 : Int32), (0 : Int32)) = (nI (rWn R b 0), nI 0) from rfl, it_count (fun i => (nI (rWn R b i), nI i)) (R 0 1) (nI (rW R b)) ?_ ?_ (zf (by omega))]
  · rfl
  · intro i h2
    obtain ⟨e4, -⟩ := ci i h2
    unfold f_X4_weightOf_L4
    simp only [cL, nI_leI (show R 0 1 < 2 ^ 31 by omega) (show i < 2 ^ 31 by omega), show ¬ R 0 1 ≤ i by omega, if_false, nI_bit0 (show b < 2 ^ 31 by omega) (show i < 32 by omega), z_in_t (show i < 14 by omega) (by omega), if_true, nI_clamp (show i < 2 ^ 31 by omega), e4, z_let, nI_1, nI_add, rWn]
    by_cases g : b.testBit i = true
    · simp [g]
    · simp only [Bool.not_eq_true] at g
      simp [g]
  · unfold f_X4_weightOf_L4
    simp only [cL, nI_leI (show R 0 1 < 2 ^ 31 by omega) (show R 0 1 < 2 ^ 31 by omega), Nat.le_refl, if_true]
    rfl
theorem X4_hangingAt_eq {R : ST} {w : ZW} (hI : RailI R) (hC : RailC R w.1) {p q : Nat} (hp : p < R 0 0) (hq : q ≤ 2) : f_X4_hangingAt w (nI p) (nI q) = some (nI (rH R p q)) := by
  obtain ⟨hP, hL, hG, -, hi⟩ := hI
  obtain ⟨-, cL, cG, -, ci⟩ := hC
  unfold f_X4_hangingAt
  rw [show ((0 : Int32), (0 : Int32)) = (nI (rHn R p q 0), nI 0) from rfl, it_count (fun i => (nI (rHn R p q i), nI i)) (R 0 1) (nI (rH R p q)) ?_ ?_ (zf (by omega))]
  · rfl
  · intro i h2
    obtain ⟨-, -, -, e7, e8, -⟩ := ci i h2
    obtain ⟨-, -, -, h7, h8, -⟩ := hi i h2
    unfold f_X4_hangingAt_L5
    simp only [cL, nI_leI (show R 0 1 < 2 ^ 31 by omega) (show i < 2 ^ 31 by omega), show ¬ R 0 1 ≤ i by omega, if_false]
    rw [X4_isGone_eq cG (p31 hL hG) (by omega)]
    simp only [Option.bind_some, if10, nI_1, z_in_t (show i < 14 by omega) (by omega), if_true, nI_clamp (show i < 2 ^ 31 by omega), e7, e8, nI_inj (show R 7 i < 2 ^ 31 by omega) (show p < 2 ^ 31 by omega), nI_inj (show R 8 i < 2 ^ 31 by omega) (show q < 2 ^ 31 by omega), nI_shl1 (show i < 31 by omega), z_let, nI_or, rHn]
    have q3 : ¬ q = 3 := by omega
    by_cases g1 : (R 0 2).testBit i = true
    · simp [g1]
    · simp only [Bool.not_eq_true] at g1
      by_cases g2 : R 7 i = p
      · by_cases g3 : R 8 i = q
        · simp [g1, g2, g3]
        · simp [g1, g2, g3, q3]
      · simp [g1, g2]
  · unfold f_X4_hangingAt_L5
    simp only [cL, nI_leI (show R 0 1 < 2 ^ 31 by omega) (show R 0 1 < 2 ^ 31 by omega), Nat.le_refl, if_true]
    rfl
