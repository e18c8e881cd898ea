/-! what falls: cut, giveWay -/
def rG (R : ST) (G : Nat) : ST := fun a j => if a = 0 ∧ j = 2 then G else R a j
def fillo (w : ZW) (a o k : Nat) (f : Nat → Int32) : ZW := (fun b j => if b = a ∧ o ≤ j ∧ j < o + k then f (j - o) else w.1 b j, w.2)
theorem fillo_0 (w : ZW) (a o : Nat) (f : Nat → Int32) : fillo w a o 0 f = w := by
  unfold fillo
  have : (fun b j => if b = a ∧ o ≤ j ∧ j < o + 0 then f (j - o) else w.1 b j) = w.1 := by
    funext b j
    rw [if_neg (by omega)]
  rw [this]
theorem fillo_s (w : ZW) (a o k : Nat) (f : Nat → Int32) : z_upI (fillo w a o k f) a (o + k) (f k) = fillo w a o (k + 1) f := by
  unfold fillo z_upI
  have : (fun b j => if b = a ∧ j = o + k then f k else if b = a ∧ o ≤ j ∧ j < o + k then f (j - o) else w.1 b j) = (fun b j => if b = a ∧ o ≤ j ∧ j < o + (k + 1) then f (j - o) else w.1 b j) := by
    funext b j
    by_cases h : b = a ∧ j = o + k
    · rw [if_pos h, if_pos (by omega)]
      congr 1
      omega
    · rw [if_neg h]
      by_cases h2 : b = a ∧ o ≤ j ∧ j < o + k
      · rw [if_pos h2, if_pos (by omega)]
      · rw [if_neg h2, if_neg (by omega)]
  rw [this]
theorem fillo_in {w : ZW} {a o k : Nat} {f : Nat → Int32} {j : Nat} (h1 : o ≤ j) (h2 : j < o + k) : (fillo w a o k f).1 a j = f (j - o) := by
  show (if a = a ∧ o ≤ j ∧ j < o + k then f (j - o) else w.1 a j) = _
  rw [if_pos ⟨rfl, h1, h2⟩]
theorem fillo_out {w : ZW} {a o k : Nat} {f : Nat → Int32} {b j : Nat} (h : ¬ (b = a ∧ o ≤ j ∧ j < o + k)) : (fillo w a o k f).1 b j = w.1 b j := by
  show (if b = a ∧ o ≤ j ∧ j < o + k then f (j - o) else w.1 b j) = _
  rw [if_neg h]
theorem fall_eq {R : ST} {w : ZW} (hI : RailI R) (hC : RailC R w.1) {S : Nat} (hS : S < 2 ^ R 0 1) (hd : ∀ i, (R 0 2).testBit i = true → S.testBit i = false) : f_X4_fall w (nI S) = some (nI (pc14 S), z_upI w 2 5 (nI (R 0 2 ||| S))) := by
  have hL := hI.2.1
  have hG := le14 hL hI.2.2.1
  have hS2 := le14 hL hS
  have ho : R 0 2 ||| S < 2 ^ 14 := Nat.or_lt_two_pow hG hS2
  unfold f_X4_fall
  rw [hC.2.2.1, bitCount_eq hG]
  simp only [Option.bind_some, z_let, nI_or]
  rw [show (z_upI w 2 5 (nI (R 0 2 ||| S))).1 2 5 = nI (R 0 2 ||| S) by simp [z_upI], bitCount_eq ho]
  simp only [Option.bind_some]
  have := pc_disj hd
  rw [pk_sub (by omega)]
  congr 3
  omega
theorem bit_or1 (a b : Bool) : nI (if a = true then 1 else 0) ||| nI (if b = true then 1 else 0) = nI (if (a || b) = true then 1 else 0) := by cases a <;> cases b <;> decide
theorem bit_get {b k : Nat} (hb : b < 2 ^ 31) (hk : k < 32) : (nI b >>> (nI k &&& 31)) &&& 1 = nI (if b.testBit k = true then 1 else 0) := by
  rw [nI_shr hb hk, nI_one]
  congr 1
  rw [Nat.testBit_eq_decide_div_mod_eq, Nat.shiftRight_eq_div_pow]
  have : b / 2 ^ k % 2 < 2 := Nat.mod_lt _ (by omega)
  by_cases h : b / 2 ^ k % 2 = 1
  · simp [h]
  · simp [show b / 2 ^ k % 2 = 0 by omega]
/-- a set that may fall: of what hangs, with all that hangs on it -/
def rCl (R : ST) (S : Nat) : Prop := S < 2 ^ R 0 1 ∧ (∀ i, (R 0 2).testBit i = true → S.testBit i = false) ∧ ∀ i, i < R 0 1 → R 9 i ≠ 0 → S.testBit (R 9 i - 1) = true → (R 0 2).testBit i = false → S.testBit i = true
theorem rG_I {R : ST} (hI : RailI R) {S : Nat} (h : rCl R S) : RailI (rG R (R 0 2 ||| S)) := by
  obtain ⟨h1, h2, h3, h4, h5⟩ := hI
  refine ⟨h1, h2, ?_, h4, fun i hi => ?_⟩
  · show (rG R (R 0 2 ||| S)) 0 2 < 2 ^ R 0 1
    show R 0 2 ||| S < 2 ^ R 0 1
    exact Nat.or_lt_two_pow h3 h.1
  · obtain ⟨a1, a2, a3, a4, a5, a6, a7⟩ := h5 i hi
    refine ⟨a1, a2, a3, a4, a5, a6, fun q => ?_⟩
    obtain ⟨b1, b2, b3⟩ := a7 q
    refine ⟨b1, b2, fun t => ?_⟩
    have t' : (R 0 2 ||| S).testBit (R 9 i - 1) = true := t
    show (R 0 2 ||| S).testBit i = true
    rw [Nat.testBit_or, Bool.or_eq_true] at t' ⊢
    rcases t' with t' | t'
    · exact Or.inl (b3 t')
    · cases g : (R 0 2).testBit i
      · exact Or.inr (h.2.2 i hi q t' g)
      · exact Or.inl rfl
theorem rG_C {R : ST} {w : ZW} (hC : RailC R w.1) (G : Nat) : RailC (rG R G) (z_upI w 2 5 (nI G)).1 := by
  obtain ⟨h1, h2, h3, h4, h5⟩ := hC
  refine ⟨?_, ?_, ?_, fun p hp => ?_, fun i hi => ?_⟩
  · show (z_upI w 2 5 (nI G)).1 2 0 = _
    simp [z_upI, h1, rG]
  · simp [z_upI, h2, rG]
  · simp [z_upI, rG]
  · simp only [up_ne (show 3 ≠ 2 by omega), up_ne (show 4 ≠ 2 by omega), up_ne (show 5 ≠ 2 by omega)]
    exact h4 p hp
  · simp only [up_ne (show 6 ≠ 2 by omega), up_ne (show 7 ≠ 2 by omega), up_ne (show 8 ≠ 2 by omega), up_ne (show 9 ≠ 2 by omega), up_ne (show 10 ≠ 2 by omega), up_ne (show 11 ≠ 2 by omega)]
    exact h5 i hi
theorem rUn_keep {R : ST} {l j : Nat} : ∀ m k, j < l + 1 + k → (rUn R l (k + m)).testBit j = (rUn R l k).testBit j
  | 0, _, _ => rfl
  | m + 1, k, h => by
    have e : rUn R l (k + (m + 1)) = if !(R 0 2).testBit (l + 1 + (k + m)) && decide (R 9 (l + 1 + (k + m)) ≠ 0) && (rUn R l (k + m)).testBit (R 9 (l + 1 + (k + m)) - 1) then rUn R l (k + m) ||| 2 ^ (l + 1 + (k + m)) else rUn R l (k + m) := rfl
    rw [e]
    split
    · rw [Nat.testBit_or, Nat.testBit_two_pow, rUn_keep m k h]
      simp [show ¬ l + 1 + (k + m) = j by omega]
    · exact rUn_keep m k h
theorem rUn_ge {R : ST} {l j : Nat} : ∀ k, (rUn R l k).testBit j = true → l ≤ j
  | 0, h => by
    have h : (2 ^ l).testBit j = true := h
    rw [Nat.testBit_two_pow, decide_eq_true_eq] at h
    omega
  | k + 1, h => by
    unfold rUn at h
    split at h
    · rw [Nat.testBit_or, Bool.or_eq_true] at h
      rcases h with h | h
      · exact rUn_ge k h
      · rw [Nat.testBit_two_pow, decide_eq_true_eq] at h
        omega
    · exact rUn_ge k h
theorem rUn_ng {R : ST} {l j : Nat} (hg : (R 0 2).testBit l = false) : ∀ k, (rUn R l k).testBit j = true → (R 0 2).testBit j = false
  | 0, h => by
    have h : (2 ^ l).testBit j = true := h
    rw [Nat.testBit_two_pow, decide_eq_true_eq] at h
    subst h
    exact hg
  | k + 1, h => by
    unfold rUn at h
    split at h
    · rename_i q
      rw [Nat.testBit_or, Bool.or_eq_true] at h
      rcases h with h | h
      · exact rUn_ng hg k h
      · rw [Nat.testBit_two_pow, decide_eq_true_eq] at h
        subst h
        simp only [Bool.and_eq_true, Bool.not_eq_true'] at q
        exact q.1.1
    · exact rUn_ng hg k h
theorem rU_cl {R : ST} (hI : RailI R) {l : Nat} (hl : l < R 0 1) (hg : (R 0 2).testBit l = false) : rCl R (rU R l) := by
  refine ⟨rU_lt hI hl, fun i h => ?_, fun i hi h9 hb hgi => ?_⟩
  · cases q : (rU R l).testBit i
    · rfl
    · rw [rUn_ng hg _ q] at h
      cases h
  · have hle := (hI.2.2.2.2 i hi).2.2.2.2.2.1
    have hge : l ≤ R 9 i - 1 := rUn_ge _ hb
    have hi2 : l + 1 ≤ i := by omega
    unfold rU at hb ⊢
    have e1 : R 0 1 - (l + 1) = (i - (l + 1)) + (R 0 1 - i) := by omega
    rw [e1, rUn_keep _ _ (by omega)] at hb
    have e2 : R 0 1 - (l + 1) = (i - (l + 1) + 1) + (R 0 1 - i - 1) := by omega
    rw [e2, rUn_keep _ _ (by omega)]
    have e3 : l + 1 + (i - (l + 1)) = i := by omega
    unfold rUn
    rw [e3, if_pos (by simp [hgi, h9, hb]), Nat.testBit_or, Nat.testBit_two_pow_self]
    simp
theorem rH_cl {R : ST} (hI : RailI R) (p q : Nat) : rCl R (rH R p q) := by
  refine ⟨rH_lt, fun i h => ?_, fun i hi h9 hb hgi => ?_⟩
  · unfold rH
    rw [rH3_bit, h]
    simp
  · have hle := (hI.2.2.2.2 i hi).2.2.2.2.2.1
    obtain ⟨b1, b2, -⟩ := (hI.2.2.2.2 i hi).2.2.2.2.2.2 h9
    unfold rH at hb ⊢
    rw [rH3_bit] at hb ⊢
    simp only [Bool.and_eq_true, Bool.or_eq_true, Bool.not_eq_true', decide_eq_true_eq] at hb ⊢
    rw [b1, b2]
    exact ⟨hi, ⟨⟨hgi, hb.2.1.2⟩, hb.2.2⟩⟩
theorem RailC_fill {R : ST} {w : ZW} (h : RailC R w.1) (k : Nat) (f : Nat → Int32) : RailC R (fillo w 138 0 k f).1 := fr_RC (fun a j q => fillo_out (by unfold cRC at q; omega)) h
