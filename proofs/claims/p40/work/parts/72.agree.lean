/-! whose letters agree -/
theorem itg {σ ρ : Type} {B : σ → Option (σ ⊕ (ρ ⊕ Unit))} (I : Nat → σ) (g : Nat → ρ ⊕ Unit) (n : Nat) (hs : ∀ i, i < n → B (I i) = some ((g i).elim (fun r => .inr (.inl r)) (fun _ => .inl (I (i + 1))))) (he : B (I n) = some (.inr (.inr ()))) : ∀ (k i N : Nat), i + k = n → k < N → z_iter B N (I i) = some (fd g i k) := by
  intro k
  induction k with
  | zero =>
    intro i N h1 h2
    have e : i = n := by omega
    subst e
    cases N with
    | zero => omega
    | succ N => simp [z_iter, he, fd]
  | succ k ih =>
    intro i N h1 h2
    cases N with
    | zero => omega
    | succ N =>
      have e := hs i (by omega)
      cases hg : g i with
      | inl r => rw [hg] at e; simp [z_iter, e, fd, hg]
      | inr u => rw [hg] at e; simp [z_iter, e, fd, hg, ih (i + 1) N (by omega) (by omega)]
theorem l_shr {n : Nat} (h : n < 2 ^ 63) (s : Int64) (k : Nat) (hs : (s.toBitVec.smod 64).toNat = k) : lN n >>> s = lN (n / 2 ^ k) := by
  have e : (lN n >>> s).toInt = (lN n).toInt >>> k := by
    rw [← hs, Int64.toInt, Int64.toBitVec_shiftRight, BitVec.sshiftRight', BitVec.toInt_sshiftRight]
    rfl
  apply Int64.toInt_inj.mp
  have h2 : n / 2 ^ k ≤ n := Nat.div_le_self _ _
  rw [e, pk_lT h, pk_lT (by omega), Int.shiftRight_eq_div_pow]
  rfl
theorem s_mod : ∀ j, j < 6 → (((nI (8 * j)).toInt64 &&& 63).toBitVec.smod 64).toNat = 8 * j := by decide +kernel
def byt (f : Nat → Nat) (k j : Nat) : Nat := if j < k then f (k - 1 - j) else 0
theorem pack_byt {f : Nat → Nat} : ∀ (k j : Nat), (∀ m, m < k → f m < 256) → pack f k / 2 ^ (8 * j) % 256 = byt f k j
  | 0, j, _ => by unfold pack byt; simp
  | k + 1, 0, h => by
    have := h k (by omega)
    unfold pack byt
    rw [if_pos (by omega)]
    simp
    omega
  | k + 1, j + 1, h => by
    have ih := pack_byt k j (fun m hm => h m (by omega))
    have hk := h k (by omega)
    have e : byt f (k + 1) (j + 1) = byt f k j := by
      unfold byt
      by_cases q : j < k
      · rw [if_pos q, if_pos (by omega), show k + 1 - 1 - (j + 1) = k - 1 - j by omega]
      · rw [if_neg q, if_neg (by omega)]
    rw [e, ← ih]
    show (pack f k * 256 + f k) / 2 ^ (8 * (j + 1)) % 256 = _
    rw [show 8 * (j + 1) = 8 + 8 * j by omega, Nat.pow_add, ← Nat.div_div_eq_div_mul, show (pack f k * 256 + f k) / 2 ^ 8 = pack f k by omega]
theorem byte_eq {f : Nat → Nat} {k j : Nat} (hk : k ≤ 6) (hj : j < 6) (hf : ∀ m, m < k → f m < 256) : (lN (pack f k) >>> ((nI (8 * j)).toInt64 &&& 63)) &&& (255 : Int64) = lN (byt f k j) := by
  have h1 := pack_lt k hf
  have h2 : (256 : Nat) ^ k ≤ 256 ^ 6 := Nat.pow_le_pow_right (by omega) hk
  have h3 : (256 : Nat) ^ 6 < 2 ^ 63 := by decide
  rw [l_shr (by omega) _ (8 * j) (s_mod j hj), show (255 : Int64) = (OfNat.ofNat (2 ^ 8 - 1) : Int64) from rfl, l_and _ 8 (by omega)]
  have h4 : pack f k / 2 ^ (8 * j) ≤ pack f k := Nat.div_le_self _ _
  have e : (lN (pack f k / 2 ^ (8 * j))).toBitVec.toNat = pack f k / 2 ^ (8 * j) := by
    show (BitVec.ofNat 64 _).toNat = _
    rw [BitVec.toNat_ofNat]
    exact Nat.mod_eq_of_lt (by omega)
  rw [e, show (2 : Nat) ^ 8 = 256 from rfl, pack_byt k j hf]
def okb (f g : Nat → Nat) (k1 k2 j : Nat) : Bool := decide (byt f k1 j = byt g k2 j) || (decide (byt f k1 j = 63) && !(decide (byt g k2 j = 0)))
def agb (f g : Nat → Nat) (k1 k2 : Nat) : Bool := decide (k1 = k2 ∧ ∀ m, m < k1 → f m = 63 ∨ f m = g m)
theorem okb_ag {f g : Nat → Nat} {k1 k2 : Nat} (h1 : k1 ≤ 6) (h2 : k2 ≤ 6) (hf : ∀ m, m < k1 → 63 ≤ f m ∧ f m < 256) (hg : ∀ m, m < k2 → 63 ≤ g m ∧ g m < 256) : (∀ j, j < 6 → okb f g k1 k2 j = true) ↔ agb f g k1 k2 = true := by
  unfold okb agb
  simp only [Bool.or_eq_true, Bool.and_eq_true, Bool.not_eq_true', decide_eq_true_eq, decide_eq_false_iff_not]
  constructor
  · intro h
    have e : k1 = k2 := by
      rcases Nat.lt_trichotomy k1 k2 with q | q | q
      · exfalso
        have := h k1 (by omega)
        unfold byt at this
        rw [if_neg (by omega), if_pos q] at this
        have := hg (k2 - 1 - k1) (by omega)
        omega
      · exact q
      · exfalso
        have := h k2 (by omega)
        unfold byt at this
        rw [if_pos q, if_neg (by omega)] at this
        have := hf (k1 - 1 - k2) (by omega)
        omega
    subst e
    refine ⟨rfl, fun m hm => ?_⟩
    have := h (k1 - 1 - m) (by omega)
    unfold byt at this
    rw [if_pos (by omega), if_pos (by omega), show k1 - 1 - (k1 - 1 - m) = m by omega] at this
    omega
  · rintro ⟨rfl, h⟩ j hj
    unfold byt
    by_cases q : j < k1
    · rw [if_pos q, if_pos q]
      have := h (k1 - 1 - j) (by omega)
      have := hg (k1 - 1 - j) (by omega)
      omega
    · rw [if_neg q, if_neg q]
      exact Or.inl rfl
theorem agree_eq {f g : Nat → Nat} {k1 k2 : Nat} (h1 : k1 ≤ 6) (h2 : k2 ≤ 6) (hf : ∀ m, m < k1 → 63 ≤ f m ∧ f m < 256) (hg : ∀ m, m < k2 → 63 ≤ g m ∧ g m < 256) : f_X2_agree (lN (pack f k1)) (lN (pack g k2)) = some (if agb f g k1 k2 = true then 1 else 0) := by
  have b1 : ∀ j, byt f k1 j < 256 := fun j => by
    unfold byt
    split
    · exact (hf _ (by omega)).2
    · omega
  have b2 : ∀ j, byt g k2 j < 256 := fun j => by
    unfold byt
    split
    · exact (hg _ (by omega)).2
    · omega
  unfold f_X2_agree
  have lp := itg (B := f_X2_agree_L3 (lN (pack f k1)) (lN (pack g k2))) (fun j => nI (8 * j)) (fun j => if okb f g k1 k2 j = true then .inr () else .inl (0 : Int32)) 6 (fun j hj => by
    unfold f_X2_agree_L3
    rw [if_neg (show ¬ (48 : Int32) ≤ nI (8 * j) from nnle (a := 48) (by omega)), byte_eq h1 hj (fun m hm => (hf m hm).2), byte_eq h2 hj (fun m hm => (hg m hm).2), show nI (8 * j) + (8 : Int32) = nI (8 * (j + 1)) from nI_add (8 * j) 8]
    have p1 := b1 j
    have p2 := b2 j
    unfold okb
    simp only [z_let, lg_cmp_eq]
    rw [show (63 : Int64) = lN 63 from rfl, show (0 : Int64) = lN 0 from rfl]
    simp only [pk_lEQ (show byt f k1 j < 2 ^ 63 by omega) (show byt g k2 j < 2 ^ 63 by omega), pk_lEQ (show byt f k1 j < 2 ^ 63 by omega) (show 63 < 2 ^ 63 by omega), pk_lEQ (show byt g k2 j < 2 ^ 63 by omega) (show 0 < 2 ^ 63 by omega)]
    by_cases q1 : byt f k1 j = byt g k2 j
    · simp [q1]
    · by_cases q2 : byt f k1 j = 63
      · by_cases q3 : byt g k2 j = 0
        · simp [q1, q2, q3]
        · simp [q2, q3]
      · simp [q1, q2]) (by
    unfold f_X2_agree_L3
    rw [if_pos (by decide)]) 6 0 z_fuel (by omega) (zf (by omega))
  rw [show (0 : Int32) = nI (8 * 0) from rfl, lp]
  simp only [Option.bind_some]
  have key := okb_ag h1 h2 hf hg
  rcases fd_all (ρ := Int32) (r := 0) (ok := fun j => okb f g k1 k2 j) 6 0 with ⟨e1, e2⟩ | e1
  · rw [e1, if_pos (key.mp (fun j hj => e2 j (by omega) (by omega)))]
    rfl
  · rw [e1]
    have : ¬ agb f g k1 k2 = true := fun h => by
      obtain ⟨j, j1, j2, j3⟩ := fd_inl _ _ e1
      rw [key.mpr h j (by omega)] at j3
      cases j3
    rw [if_neg this]
    rfl
/-- who agrees, as a set -/
def whoB (S : ST) (f : Nat → Nat) (k : Nat) : Nat → Nat
  | 0 => 0
  | p + 1 => whoB S f k p ||| (if agb f (fun m => S 2 (6 * p + m)) k (S 1 p) = true then 2 ^ p else 0)
theorem whoB_lt {S : ST} {f : Nat → Nat} {k : Nat} : ∀ p, whoB S f k p < 2 ^ p
  | 0 => by unfold whoB; omega
  | p + 1 => by
    have h1 := whoB_lt (S := S) (f := f) (k := k) p
    have h2 : 2 ^ p < 2 ^ (p + 1) := Nat.pow_lt_pow_right (by omega) (by omega)
    unfold whoB
    apply Nat.or_lt_two_pow (by omega)
    split
    · exact h2
    · omega
theorem whoB_bit {S : ST} {f : Nat → Nat} {k i : Nat} : ∀ p, (whoB S f k p).testBit i = (decide (i < p) && agb f (fun m => S 2 (6 * i + m)) k (S 1 i))
  | 0 => by unfold whoB; simp
  | p + 1 => by
    unfold whoB
    rw [Nat.testBit_or, whoB_bit p]
    by_cases e : i = p
    · subst e
      by_cases q : agb f (fun m => S 2 (6 * i + m)) k (S 1 i) = true
      · rw [if_pos q, Nat.testBit_two_pow_self]
        simp [q]
      · rw [if_neg q, Nat.zero_testBit]
        simp [q]
    · have : (if agb f (fun m => S 2 (6 * p + m)) k (S 1 p) = true then 2 ^ p else 0).testBit i = false := by
        split
        · rw [Nat.testBit_two_pow]
          simp [show ¬ p = i by omega]
        · exact Nat.zero_testBit i
      rw [this, Bool.or_false]
      by_cases q : i < p
      · simp [q, show i < p + 1 by omega]
      · simp [q, show ¬ i < p + 1 by omega]
theorem who_eq {L : Nat} {S : ST} {w : ZW} (hI : NamesI L S) (hC : NamesC S w.1 w.2) {f : Nat → Nat} {k : Nat} (hk : k ≤ 6) (hf : ∀ m, m < k → 63 ≤ f m ∧ f m < 256) : f_X2_allWhoAgree w (lN (pack f k)) = some (nI (whoB S f k (S 0 0))) := by
  have hq := hI.1
  unfold f_X2_allWhoAgree
  rw [show ((0 : Int32), (0 : Int32)) = (nI (whoB S f k 0), nI 0) from rfl, it_count (fun p => (nI (whoB S f k p), nI p)) (S 0 0) (nI (whoB S f k (S 0 0))) ?_ ?_ (zf (by omega))]
  · rfl
  · intro p hp
    obtain ⟨i1, i2, i3⟩ := hI.2.2.2.1 p hp
    unfold f_X2_allWhoAgree_L5
    simp only []
    rw [hC.1, if_neg (nnle hp), z_in_t (show p < 8 by omega) (by omega), if_pos rfl, nI_clamp (show p < 2 ^ 31 by omega), hC.2.2.1 p hp, agree_eq hk i2 hf (fun m hm => by have := i3 m hm; omega)]
    simp only [Option.bind_some, if10, nI_1]
    rw [nI_shl1 (by omega), nI_or]
    show _ = some (Sum.inl (nI (whoB S f k p ||| (if agb f (fun m => S 2 (6 * p + m)) k (S 1 p) = true then 2 ^ p else 0)), nI (p + 1)))
    by_cases q : agb f (fun m => S 2 (6 * p + m)) k (S 1 p) = true
    · rw [if_pos q, if_pos q]
      rfl
    · rw [if_neg q, if_neg q, Nat.or_zero]
  · unfold f_X2_allWhoAgree_L5
    simp only []
    rw [hC.1, if_pos (Int32.le_refl _)]
