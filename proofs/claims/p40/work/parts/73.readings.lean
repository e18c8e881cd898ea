/-! readings -/
def oka (ok : Nat → Bool) : Nat → Nat → Bool
  | _, 0 => true
  | i, d + 1 => ok i && oka ok (i + 1) d
theorem oka_all {ok : Nat → Bool} : ∀ d i, oka ok i d = true ↔ ∀ m, i ≤ m → m < i + d → ok m = true
  | 0, i => by unfold oka; exact ⟨fun _ m h1 h2 => by omega, fun _ => rfl⟩
  | d + 1, i => by
    unfold oka
    rw [Bool.and_eq_true, oka_all d (i + 1)]
    constructor
    · rintro ⟨h1, h2⟩ m h3 h4
      by_cases e : m = i
      · subst e; exact h1
      · exact h2 m (by omega) (by omega)
    · intro h
      exact ⟨h i (by omega) (by omega), fun m h1 h2 => h m (by omega) (by omega)⟩
/-- who can be first, who second -/
def wB1 (S : ST) (l : Nat) : Nat := whoB S (fun k => S 5 (12 * l + k)) (S 3 l) (S 0 0)
def wB2 (S : ST) (l : Nat) : Nat := whoB S (fun k => S 5 (12 * l + 6 + k)) (S 4 l) (S 0 0)
def cb (S : ST) (l p q : Nat) : Bool := ((wB1 S l).testBit p && (wB2 S l).testBit q) || ((wB1 S l).testBit q && (wB2 S l).testBit p)
theorem wB1_lt {L : Nat} {S : ST} (hI : NamesI L S) {l : Nat} : wB1 S l < 2 ^ 8 := Nat.lt_of_lt_of_le (whoB_lt _) (Nat.pow_le_pow_right (by omega) hI.1)
theorem wB2_lt {L : Nat} {S : ST} (hI : NamesI L S) {l : Nat} : wB2 S l < 2 ^ 8 := Nat.lt_of_lt_of_le (whoB_lt _) (Nat.pow_le_pow_right (by omega) hI.1)
theorem worn_ok {L : Nat} {S : ST} (hI : NamesI L S) {l : Nat} (hb : (S 0 1).testBit l = true) : (∀ m, m < S 3 l → 63 ≤ S 5 (12 * l + m) ∧ S 5 (12 * l + m) < 256) ∧ ∀ m, m < S 4 l → 63 ≤ S 5 (12 * l + 6 + m) ∧ S 5 (12 * l + 6 + m) < 256 := by
  obtain ⟨-, -, b3, b4⟩ := hI.2.2.2.2 l hb
  exact ⟨fun m hm => by have := b3 m hm; omega, fun m hm => by have := b4 m hm; omega⟩
theorem and_bit {a b : Bool} : ((nI (if a = true then 1 else 0) &&& nI (if b = true then 1 else 0)) = 0) ↔ (a && b) = false := by cases a <;> cases b <;> decide
theorem canBe_eq {x y p q : Nat} (hx : x < 2 ^ 8) (hy : y < 2 ^ 8) (hp : p < 8) (hq : q < 8) : f_X2_canBe (nI x) (nI y) (nI p) (nI q) = some (if ((x.testBit p && y.testBit q) || (x.testBit q && y.testBit p)) = true then 1 else 0) := by
  have key : ∀ i j, i < 8 → j < 8 → ((((nI x >>> (nI i &&& 31)) &&& (nI y >>> (nI j &&& 31))) &&& (1 : Int32)) = 0 ↔ (x.testBit i && y.testBit j) = false) := by
    intro i j hi hj
    rw [nI_shr (by omega) (by omega), nI_shr (by omega) (by omega), nI_and, nI_one, show (0 : Int32) = nI 0 from rfl, nI_inj (by omega) (by omega)]
    have e : ((x >>> i) &&& (y >>> j)) % 2 = if ((x >>> i) &&& (y >>> j)).testBit 0 = true then 1 else 0 := by
      rw [Nat.testBit_zero]
      have : ((x >>> i) &&& (y >>> j)) % 2 < 2 := Nat.mod_lt _ (by omega)
      by_cases q : ((x >>> i) &&& (y >>> j)) % 2 = 1
      · simp [q]
      · simp [show ((x >>> i) &&& (y >>> j)) % 2 = 0 by omega]
    rw [e, Nat.testBit_and, Nat.testBit_shiftRight, Nat.testBit_shiftRight, Nat.add_zero, Nat.add_zero]
    cases x.testBit i <;> cases y.testBit j <;> simp
  unfold f_X2_canBe
  simp only [key p q hp hq, key q p hq hp]
  cases x.testBit p <;> cases y.testBit q <;> cases x.testBit q <;> cases y.testBit p <;> simp
/-- pairs counted -/
def cq (g : Nat → Nat → Bool) (p : Nat) : Nat → Nat → Nat
  | _, 0 => 0
  | q, d + 1 => (if g p q = true then 1 else 0) + cq g p (q + 1) d
def rdn (g : Nat → Nat → Bool) (n : Nat) : Nat → Nat
  | 0 => 0
  | p + 1 => rdn g n p + cq g p (p + 1) (n - (p + 1))
theorem it_cq {B : Int32 × Int32 → Option ((Int32 × Int32) ⊕ Int32)} {g : Nat → Nat → Bool} {n p : Nat} (hs : ∀ a q, q < n → p < q → B (nI a, nI q) = some (.inl (nI (a + (if g p q = true then 1 else 0)), nI (q + 1)))) (he : ∀ a, B (nI a, nI n) = some (.inr (nI a))) : ∀ (d q a N : Nat), p < q → q + d = n → d < N → z_iter B N (nI a, nI q) = some (nI (a + cq g p q d)) := by
  intro d
  induction d with
  | zero =>
    intro q a N hq h1 h2
    obtain ⟨N, rfl⟩ : ∃ M, N = M + 1 := ⟨N - 1, by omega⟩
    have : q = n := by omega
    subst this
    simp [z_iter, he, cq]
  | succ d ih =>
    intro q a N hq h1 h2
    obtain ⟨N, rfl⟩ : ∃ M, N = M + 1 := ⟨N - 1, by omega⟩
    simp only [z_iter, hs a q (by omega) hq, Option.bind_some, Sum.elim_inl]
    show z_iter _ N _ = _
    rw [ih (q + 1) _ N (by omega) (by omega) (by omega), Nat.add_assoc]
    rfl
theorem it_rd {B : Int32 × Int32 → Option ((Int32 × Int32) ⊕ Int32)} {g : Nat → Nat → Bool} {n : Nat} (hn : n < 1000) (hs : ∀ a p, p < n → B (nI a, nI p) = some (.inl (nI (a + cq g p (p + 1) (n - (p + 1))), nI (p + 1)))) (he : ∀ a, B (nI a, nI n) = some (.inr (nI a))) : z_iter B z_fuel ((0 : Int32), (0 : Int32)) = some (nI (rdn g n n)) := by
  rw [show ((0 : Int32), (0 : Int32)) = (nI (rdn g n 0), nI 0) from rfl]
  exact it_count (fun p => (nI (rdn g n p), nI p)) n _ (fun p hp => hs _ p hp) (he _) (zf (by omega))
theorem hasLetters_eq {S : ST} {w : ZW} (hC : NamesC S w.1 w.2) {L l : Nat} (hI : NamesI L S) (hL : L ≤ 14) (hl : l < 32) : f_X2_hasLetters w (nI l) = some (if (S 0 1).testBit l = true then 1 else 0) := by
  unfold f_X2_hasLetters
  rw [hC.2.1]
  simp only [nI_bit0 (p31 hL hI.2.1) hl]
  cases (S 0 1).testBit l <;> rfl
theorem readingsOf_eq {L : Nat} {S : ST} {w : ZW} (hI : NamesI L S) (hC : NamesC S w.1 w.2) {l : Nat} (hl : l < 14) (hb : (S 0 1).testBit l = true) : f_X2_readingsOf w (nI l) = some (nI (rdn (cb S l) (S 0 0) (S 0 0))) := by
  have hq := hI.1
  obtain ⟨b1, b2, -⟩ := hI.2.2.2.2 l hb
  obtain ⟨v1, v2⟩ := worn_ok hI hb
  obtain ⟨c1, c2⟩ := hC.2.2.2 l hb
  have e1 : f_X2_peopleOfFirst w (nI l) = some (nI (wB1 S l)) := by
    unfold f_X2_peopleOfFirst
    rw [z_in_t hl (by omega), if_pos rfl, nI_clamp (show l < 2 ^ 31 by omega), c1, who_eq hI hC b1.2 v1]
    rfl
  have e2 : f_X2_peopleOfSecond w (nI l) = some (nI (wB2 S l)) := by
    unfold f_X2_peopleOfSecond
    rw [z_in_t hl (by omega), if_pos rfl, nI_clamp (show l < 2 ^ 31 by omega), c2, who_eq hI hC b2.2 v2]
    rfl
  unfold f_X2_readingsOf
  rw [e1, e2]
  simp only [Option.bind_some]
  rw [it_rd (g := cb S l) (n := S 0 0) (by omega) (fun a p hp => ?_) (fun a => ?_)]
  · rfl
  · unfold f_X2_readingsOf_L18
    simp only []
    rw [hC.1, if_neg (nnle hp), nI_1, it_cq (g := cb S l) (n := S 0 0) (p := p) (fun a' q hq' hpq => ?_) (fun a' => ?_) (S 0 0 - (p + 1)) (p + 1) a z_fuel (by omega) (by omega) (zf (by omega))]
    · rfl
    · unfold f_X2_readingsOf_L33
      simp only []
      rw [hC.1, if_neg (nnle hq'), canBe_eq (wB1_lt hI) (wB2_lt hI) (by omega) (by omega)]
      simp only [Option.bind_some, if10, nI_1]
      show (if cb S l p q = true then _ else _) = _
      by_cases z : cb S l p q = true
      · rw [if_pos z, if_pos z]
      · rw [if_neg z, if_neg z]
        rfl
    · unfold f_X2_readingsOf_L33
      simp only []
      rw [hC.1, if_pos (Int32.le_refl _)]
  · unfold f_X2_readingsOf_L18
    simp only []
    rw [hC.1, if_pos (Int32.le_refl _)]
