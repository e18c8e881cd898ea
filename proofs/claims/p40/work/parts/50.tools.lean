/-! PLAIN LEAN FROM HERE: loops, numbers, bits -/
theorem it_from {σ ρ : Type} {B : σ → Option (σ ⊕ ρ)} (I : Nat → σ) (i0 n : Nat) (r : ρ) (hi : i0 ≤ n) (hs : ∀ i, i0 ≤ i → i < n → B (I i) = some (.inl (I (i + 1)))) (he : B (I n) = some (.inr r)) {N : Nat} (hN : n - i0 < N) : z_iter B N (I i0) = some r := by
  have main : ∀ (k i N : Nat), i0 ≤ i → i + k = n → k < N → z_iter B N (I i) = some r := by
    intro k
    induction k with
    | zero =>
      intro i N h0 h1 h2
      have e : i = n := by omega
      subst e
      cases N with
      | zero => omega
      | succ N => simp [z_iter, he]
    | succ k ih =>
      intro i N h0 h1 h2
      cases N with
      | zero => omega
      | succ N =>
        simp only [z_iter, hs i h0 (by omega), Option.bind_some, Sum.elim_inl]
        exact ih (i + 1) N (by omega) (by omega) (by omega)
  exact main (n - i0) i0 N (Nat.le_refl _) (by omega) hN
theorem it_count {σ ρ : Type} {B : σ → Option (σ ⊕ ρ)} (I : Nat → σ) (n : Nat) (r : ρ) (hs : ∀ i, i < n → B (I i) = some (.inl (I (i + 1)))) (he : B (I n) = some (.inr r)) {N : Nat} (hN : n < N) : z_iter B N (I 0) = some r :=
  it_from I 0 n r (Nat.zero_le n) (fun i _ h => hs i h) he (by omega)
theorem it_inv {σ ρ : Type} {B : σ → Option (σ ⊕ ρ)} (P : Nat → σ → Prop) (Q : ρ → Prop) (n : Nat) (hs : ∀ i s, i < n → P i s → (∃ s', B s = some (.inl s') ∧ P (i + 1) s') ∨ (∃ r, B s = some (.inr r) ∧ Q r)) (he : ∀ s, P n s → ∃ r, B s = some (.inr r) ∧ Q r) {N : Nat} (hN : n < N) {s0 : σ} (h0 : P 0 s0) : ∃ r, z_iter B N s0 = some r ∧ Q r := by
  have main : ∀ (k i N : Nat) (s : σ), i + k = n → k < N → P i s → ∃ r, z_iter B N s = some r ∧ Q r := by
    intro k
    induction k with
    | zero =>
      intro i N s h1 h2 hP
      have e : i = n := by omega
      subst e
      obtain ⟨r, hr, hq⟩ := he s hP
      cases N with
      | zero => omega
      | succ N => exact ⟨r, by simp [z_iter, hr], hq⟩
    | succ k ih =>
      intro i N s h1 h2 hP
      cases N with
      | zero => omega
      | succ N =>
        rcases hs i s (by omega) hP with ⟨s', hb, hp⟩ | ⟨r, hb, hq⟩
        · obtain ⟨r, hr, hq⟩ := ih (i + 1) N s' (by omega) (by omega) hp
          exact ⟨r, by simp [z_iter, hb, hr], hq⟩
        · exact ⟨r, by simp [z_iter, hb], hq⟩
  exact main n 0 N s0 (by omega) hN h0
theorem zf {n : Nat} (h : n < 100000) : n < z_fuel := h
theorem z_in_nI {k n : Nat} (h : k < 2 ^ 31) : z_in (nI k) n = decide (k < n) := by
  unfold z_in
  rw [nI_clamp h]
  have := nI_pos h
  simp [this]
theorem z_in_t {k n : Nat} (h : k < n) (hn : n < 2 ^ 31) : z_in (nI k) n = true := by
  rw [z_in_nI (by omega)]
  simpa using h
theorem nI_lit (n : Nat) : (OfNat.ofNat n : Int32) = nI n := rfl
theorem nI_inj {a b : Nat} (ha : a < 2 ^ 31) (hb : b < 2 ^ 31) : nI a = nI b ↔ a = b := nI_eq ha hb
theorem nI_toNat {n : Nat} (h : n < 2 ^ 32) : (nI n).toBitVec.toNat = n := pk_tn h
theorem nI_ofBV (x : Int32) : ∃ n, n < 2 ^ 32 ∧ x = nI n := by
  refine ⟨x.toBitVec.toNat, x.toBitVec.isLt, ?_⟩
  apply Int32.toBitVec_inj.mp
  apply BitVec.eq_of_toNat_eq
  rw [nI_toNat x.toBitVec.isLt]
theorem nI_bv (n : Nat) : (nI n).toBitVec = BitVec.ofNat 32 n := rfl
theorem nI_and (a b : Nat) : nI a &&& nI b = nI (a &&& b) := by
  apply Int32.toBitVec_inj.mp
  show (nI a).toBitVec &&& (nI b).toBitVec = (nI (a &&& b)).toBitVec
  rw [nI_bv, nI_bv, nI_bv]
  apply BitVec.eq_of_toNat_eq
  simp [BitVec.toNat_and, BitVec.toNat_ofNat, Nat.and_mod_two_pow]
theorem nI_or (a b : Nat) : nI a ||| nI b = nI (a ||| b) := by
  apply Int32.toBitVec_inj.mp
  show (nI a).toBitVec ||| (nI b).toBitVec = (nI (a ||| b)).toBitVec
  rw [nI_bv, nI_bv, nI_bv]
  apply BitVec.eq_of_toNat_eq
  simp [BitVec.toNat_or, BitVec.toNat_ofNat, Nat.or_mod_two_pow]
theorem z_sm : ∀ n, n < 32 → ((nI n &&& 31).toBitVec.smod 32).toNat = n := by decide +kernel
theorem nI_shr {n k : Nat} (h : n < 2 ^ 31) (hk : k < 32) : nI n >>> (nI k &&& 31) = nI (n >>> k) := by
  rw [pk_shrN h _ k, Nat.shiftRight_eq_div_pow]
  have e : (nI k &&& 31) = nI k := by
    rw [show (31 : Int32) = nI 31 from rfl, nI_and]
    congr 1
    rw [show 31 = 2 ^ 5 - 1 from rfl, Nat.and_two_pow_sub_one_eq_mod]
    omega
  have := z_sm k hk
  first | exact this | (rw [e] at this ⊢; exact this)
theorem nI_shl1 {k : Nat} (hk : k < 31) : (1 : Int32) <<< (nI k &&& 31) = nI (2 ^ k) := by
  have h2 : 2 ^ k ≤ 2 ^ 30 := Nat.pow_le_pow_right (by omega) (by omega)
  have := pk_shlN (n := 1) (nI k &&& 31) k (z_sm k (by omega)) (by omega)
  rw [Nat.one_mul] at this
  exact this
theorem nI_one (n : Nat) : nI n &&& 1 = nI (n % 2) := by
  rw [show (1 : Int32) = nI 1 from rfl, nI_and, Nat.and_one_is_mod]
/-- the bit test of the code -/
theorem nI_bit0 {b k : Nat} (hb : b < 2 ^ 31) (hk : k < 32) : ((nI b >>> (nI k &&& 31)) &&& 1) = 0 ↔ b.testBit k = false := by
  rw [nI_shr hb hk, nI_one, show (0 : Int32) = nI 0 from rfl, nI_inj (by omega) (by omega)]
  rw [Nat.testBit_eq_decide_div_mod_eq, Nat.shiftRight_eq_div_pow]
  have : b / 2 ^ k % 2 < 2 := Nat.mod_lt _ (by omega)
  simp
theorem nI_bit1 {b k : Nat} (hb : b < 2 ^ 31) (hk : k < 32) : ((nI b >>> (nI k &&& 31)) &&& 1) = 1 ↔ b.testBit k = true := by
  rw [nI_shr hb hk, nI_one, show (1 : Int32) = nI 1 from rfl, nI_inj (by omega) (by omega)]
  rw [Nat.testBit_eq_decide_div_mod_eq, Nat.shiftRight_eq_div_pow]
  simp
theorem or_pow_lt {a k n : Nat} (h : a < 2 ^ n) (hk : k < n) : a ||| 2 ^ k < 2 ^ n := Nat.or_lt_two_pow h (Nat.pow_lt_pow_right (by omega) hk)
theorem within_eq (a lo hi : Int32) : f_X11_within a lo hi = some (if lo ≤ a ∧ a ≤ hi then 1 else 0) := by
  unfold f_X11_within
  by_cases h1 : a < lo
  · rw [if_pos h1, if_neg (fun h => by
      have := Int32.lt_iff_toInt_lt.mp h1
      have := Int32.le_iff_toInt_le.mp h.1
      omega)]
  · by_cases h2 : hi < a
    · rw [if_neg h1, if_pos h2, if_neg (fun h => by
        have := Int32.lt_iff_toInt_lt.mp h2
        have := Int32.le_iff_toInt_le.mp h.2
        omega)]
    · rw [if_neg h1, if_neg h2, if_pos ⟨by
        have : ¬ a.toInt < lo.toInt := fun h => h1 (Int32.lt_iff_toInt_lt.mpr h)
        exact Int32.le_iff_toInt_le.mpr (by omega), by
        have : ¬ hi.toInt < a.toInt := fun h => h2 (Int32.lt_iff_toInt_lt.mpr h)
        exact Int32.le_iff_toInt_le.mpr (by omega)⟩]
theorem nI_rng {x : Int32} {lo hi : Nat} (hh : hi < 2 ^ 31) (h : nI lo ≤ x ∧ x ≤ nI hi) (hl : lo < 2 ^ 31) : ∃ j, lo ≤ j ∧ j ≤ hi ∧ x = nI j := by
  have h1 := Int32.le_iff_toInt_le.mp h.1
  have h2 := Int32.le_iff_toInt_le.mp h.2
  rw [nI_toInt hl] at h1
  rw [nI_toInt hh] at h2
  refine ⟨x.toInt.toNat, by omega, by omega, ?_⟩
  apply Int32.toInt_inj.mp
  rw [nI_toInt (by omega)]
  omega
theorem up_ne {w : ZW} {a b j : Nat} {x : Int32} (h : b ≠ a) : (z_upI w a j x).1 b = w.1 b := by
  funext k
  simp [z_upI, h]
theorem up_eq {w : ZW} {a j : Nat} {x : Int32} : (z_upI w a j x).1 a = upd (w.1 a) j x := by
  funext k
  simp [z_upI, upd]
theorem up_2 {w : ZW} {a j : Nat} {x : Int32} : (z_upI w a j x).2 = w.2 := rfl
theorem upJ_1 {w : ZW} {a j : Nat} {x : Int64} : (z_upJ w a j x).1 = w.1 := rfl
theorem upJ_ne {w : ZW} {a b j : Nat} {x : Int64} (h : b ≠ a) : (z_upJ w a j x).2 b = w.2 b := by
  funext k
  simp [z_upJ, h]
theorem upJ_eq {w : ZW} {a j : Nat} {x : Int64} : (z_upJ w a j x).2 a = vp_updL (w.2 a) j x := by
  funext k
  simp [z_upJ, vp_updL]
theorem upd_s {f : Nat → Int32} {k : Nat} {x : Int32} : upd f k x k = x := by simp [upd]
theorem upd_n {f : Nat → Int32} {k j : Nat} {x : Int32} (h : j ≠ k) : upd f k x j = f j := by simp [upd, h]
