/-! what falls: cut, giveWay -/
def rG (R : ST) (G : Nat) : ST := fun a j => if a = 0 ∧ j = 2 then G else R a j
def fillo (w : ZW) (a o k : Nat) (f : Nat → Int32) : ZW := (fun b j => if b = a ∧ o ≤ j ∧ j < o + k then f (j - o) else w.1 b j, w.2)
theorem fillo_0 (w : ZW) (a o : Nat) (f : Nat → Int32) : fillo w a o 0 f = w := by
  unfold fillo
  have : (fun b j => if b = a ∧ o ≤ j ∧ j < o + 0 then f (j - o) else w.1 b j) = w.1 := by
    funext b j
    rw [if_neg (by omega)]
  rw [this]
theorem fillo_s (w : ZW) (a o k : Nat) (f : Nat → Int32) : z_upI (fillo w a o k f) a (o + k) (f k) = fillo w a o (k + 1) f := by
  unfold fillo z_upI
  have : (fun b j => if b = a ∧ j = o + k then f k else if b = a ∧ o ≤ j ∧ j < o + k then f (j - o) else w.1 b j) = (fun b j => if b = a ∧ o ≤ j ∧ j < o + (k + 1) then f (j - o) else w.1 b j) := by
    funext b j
    by_cases h : b = a ∧ j = o + k
    · rw [if_pos h, if_pos (by omega)]
      congr 1
      omega
    · rw [if_neg h]
      by_cases h2 : b = a ∧ o ≤ j ∧ j < o + k
      · rw [if_pos h2, if_pos (by omega)]
      · rw [if_neg h2, if_neg (by omega)]
  rw [this]
theorem fillo_in {w : ZW} {a o k : Nat} {f : Nat → Int32} {j : Nat} (h1 : o ≤ j) (h2 : j < o + k) : (fillo w a o k f).1 a j = f (j - o) := by
  show (if a = a ∧ o ≤ j ∧ j < o + k then f (j - o) else w.1 a j) = _
  rw [if_pos ⟨rfl, h1, h2⟩]
theorem fillo_out {w : ZW} {a o k : Nat} {f : Nat → Int32} {b j : Nat} (h : ¬ (b = a ∧ o ≤ j ∧ j < o + k)) : (fillo w a o k f).1 b j = w.1 b j := by
  show (if b = a ∧ o ≤ j ∧ j < o + k then f (j - o) else w.1 b j) = _
  rw [if_neg h]
theorem fall_eq {R : ST} {w : ZW} (hI : RailI R) (hC : RailC R w.1) {S : Nat} (hS : S < 2 ^ R 0 1) (hd : ∀ i, (R 0 2).testBit i = true → S.testBit i = false) : f_X4_fall w (nI S) = some (nI (pc14 S), z_upI w 2 5 (nI (R 0 2 ||| S))) := by
  have hL := hI.2.1
  have hG := le14 hL hI.2.2.1
  have hS2 := le14 hL hS
  have ho : R 0 2 ||| S < 2 ^ 14 := Nat.or_lt_two_pow hG hS2
  unfold f_X4_fall
  rw [hC.2.2.1, bitCount_eq hG]
  simp only [Option.bind_some, z_let, nI_or]
  rw [show (z_upI w 2 5 (nI (R 0 2 ||| S))).1 2 5 = nI (R 0 2 ||| S) by simp [z_upI], bitCount_eq ho]
  simp only [Option.bind_some]
  have := pc_disj hd
  rw [pk_sub (by omega)]
  congr 3
  omega
theorem bit_or1 (a b : Bool) : nI (if a = true then 1 else 0) ||| nI (if b = true then 1 else 0) = nI (if (a || b) = true then 1 else 0) := by cases a <;> cases b <;> decide
theorem bit_get {b k : Nat} (hb : b < 2 ^ 31) (hk : k < 32) : (nI b >>> (nI k &&& 31)) &&& 1 = nI (if b.testBit k = true then 1 else 0) := by
  rw [nI_shr hb hk, nI_one]
  congr 1
  rw [Nat.testBit_eq_decide_div_mod_eq, Nat.shiftRight_eq_div_pow]
  have : b / 2 ^ k % 2 < 2 := Nat.mod_lt _ (by omega)
  by_cases h : b / 2 ^ k % 2 = 1
  · simp [h]
  · simp [show b / 2 ^ k % 2 = 0 by omega]
theorem falls_eq {R : ST} {w : ZW} (hI : RailI R) (hM : RailM R w.1) {S : Nat} (hS : S < 2 ^ R 0 1) : f_X12_falls w (nI S) = some (nI (pc14 S), fillo w 138 0 (R 0 1) (fun i => nI (if (R 0 2 ||| S).testBit i = true then 1 else 0))) := by
  have hL := hI.2.1
  have hS2 := le14 hL hS
  unfold f_X12_falls
  rw [show ((0 : Int32), w) = (nI 0, fillo w 138 0 0 (fun i => nI (if (R 0 2 ||| S).testBit i = true then 1 else 0))) by rw [fillo_0]; rfl, it_count (fun i => (nI i, fillo w 138 0 i (fun i => nI (if (R 0 2 ||| S).testBit i = true then 1 else 0)))) (R 0 1) (fillo w 138 0 (R 0 1) (fun i => nI (if (R 0 2 ||| S).testBit i = true then 1 else 0))) ?_ ?_ (zf (by omega))]
  · simp only [Option.bind_some]
    rw [size_eq hS2]
    rfl
  · intro i hi
    unfold f_X12_falls_L2
    have e1 : (fillo w 138 0 i (fun i => nI (if (R 0 2 ||| S).testBit i = true then 1 else 0))).1 130 2 = nI (R 0 1) := by rw [fillo_out (by omega)]; exact hM.2.1
    have e2 : (fillo w 138 0 i (fun i => nI (if (R 0 2 ||| S).testBit i = true then 1 else 0))).1 138 i = nI (if (R 0 2).testBit i = true then 1 else 0) := by rw [fillo_out (by omega)]; exact (hM.2.2.2 i hi).2.2.2.2.2.2
    simp only [e1, nI_leI (show R 0 1 < 2 ^ 31 by omega) (show i < 2 ^ 31 by omega), show ¬ R 0 1 ≤ i by omega, if_false, z_in_t (show i < 14 by omega) (by omega), if_true, nI_clamp (show i < 2 ^ 31 by omega), e2, bit_get (show S < 2 ^ 31 by omega) (show i < 32 by omega), bit_or1, z_let, nI_1]
    rw [← Nat.testBit_or]
    have := fillo_s w 138 0 i (fun i => nI (if (R 0 2 ||| S).testBit i = true then 1 else 0))
    rw [Nat.zero_add] at this
    rw [this]
  · unfold f_X12_falls_L2
    have e1 : (fillo w 138 0 (R 0 1) (fun i => nI (if (R 0 2 ||| S).testBit i = true then 1 else 0))).1 130 2 = nI (R 0 1) := by rw [fillo_out (by omega)]; exact hM.2.1
    rw [if_pos (by rw [e1]; exact Int32.le_refl _)]
/-- a set that may fall: of what hangs, with all that hangs on it -/
def rCl (R : ST) (S : Nat) : Prop := S < 2 ^ R 0 1 ∧ (∀ i, (R 0 2).testBit i = true → S.testBit i = false) ∧ ∀ i, i < R 0 1 → R 9 i ≠ 0 → S.testBit (R 9 i - 1) = true → (R 0 2).testBit i = false → S.testBit i = true
theorem rG_I {R : ST} (hI : RailI R) {S : Nat} (h : rCl R S) : RailI (rG R (R 0 2 ||| S)) := by
  obtain ⟨h1, h2, h3, h4, h5⟩ := hI
  refine ⟨h1, h2, ?_, h4, fun i hi => ?_⟩
  · show (rG R (R 0 2 ||| S)) 0 2 < 2 ^ R 0 1
    show R 0 2 ||| S < 2 ^ R 0 1
    exact Nat.or_lt_two_pow h3 h.1
  · obtain ⟨a1, a2, a3, a4, a5, a6, a7⟩ := h5 i hi
    refine ⟨a1, a2, a3, a4, a5, a6, fun q => ?_⟩
    obtain ⟨b1, b2, b3⟩ := a7 q
    refine ⟨b1, b2, fun t => ?_⟩
    have t' : (R 0 2 ||| S).testBit (R 9 i - 1) = true := t
    show (R 0 2 ||| S).testBit i = true
    rw [Nat.testBit_or, Bool.or_eq_true] at t' ⊢
    rcases t' with t' | t'
    · exact Or.inl (b3 t')
    · cases g : (R 0 2).testBit i
      · exact Or.inr (h.2.2 i hi q t' g)
      · exact Or.inl rfl
theorem rG_C {R : ST} {w : ZW} (hC : RailC R w.1) (G : Nat) : RailC (rG R G) (z_upI w 2 5 (nI G)).1 := by
  obtain ⟨h1, h2, h3, h4, h5⟩ := hC
  refine ⟨?_, ?_, ?_, fun p hp => ?_, fun i hi => ?_⟩
  · show (z_upI w 2 5 (nI G)).1 2 0 = _
    simp [z_upI, h1, rG]
  · simp [z_upI, h2, rG]
  · simp [z_upI, rG]
  · simp only [up_ne (show 3 ≠ 2 by omega), up_ne (show 4 ≠ 2 by omega), up_ne (show 5 ≠ 2 by omega)]
    exact h4 p hp
  · simp only [up_ne (show 6 ≠ 2 by omega), up_ne (show 7 ≠ 2 by omega), up_ne (show 8 ≠ 2 by omega), up_ne (show 9 ≠ 2 by omega), up_ne (show 10 ≠ 2 by omega), up_ne (show 11 ≠ 2 by omega)]
    exact h5 i hi
theorem rG_M {R : ST} {w : ZW} (hM : RailM R w.1) (G : Nat) : RailM (rG R G) (fillo w 138 0 (R 0 1) (fun i => nI (if G.testBit i = true then 1 else 0))).1 := by
  obtain ⟨h1, h2, h4, h5⟩ := hM
  have e : ∀ b j, b ≠ 138 → (fillo w 138 0 (R 0 1) (fun i => nI (if G.testBit i = true then 1 else 0))).1 b j = w.1 b j := fun b j h => fillo_out (by omega)
  refine ⟨(e _ _ (by omega)).trans h1, (e _ _ (by omega)).trans h2, fun p hp => ?_, fun i hi => ?_⟩
  · rw [e _ _ (by omega), e _ _ (by omega), e _ _ (by omega)]
    exact h4 p hp
  · rw [e _ _ (by omega), e _ _ (by omega), e _ _ (by omega), e _ _ (by omega), e _ _ (by omega), e _ _ (by omega), fillo_in (Nat.zero_le i) (by have : i < R 0 1 := hi; omega)]
    obtain ⟨a1, a2, a3, a4, a5, a6, -⟩ := h5 i hi
    exact ⟨a1, a2, a3, a4, a5, a6, rfl⟩
theorem rUn_keep {R : ST} {l j : Nat} : ∀ m k, j < l + 1 + k → (rUn R l (k + m)).testBit j = (rUn R l k).testBit j
  | 0, _, _ => rfl
  | m + 1, k, h => by
    have e : rUn R l (k + (m + 1)) = if !(R 0 2).testBit (l + 1 + (k + m)) && decide (R 9 (l + 1 + (k + m)) ≠ 0) && (rUn R l (k + m)).testBit (R 9 (l + 1 + (k + m)) - 1) then rUn R l (k + m) ||| 2 ^ (l + 1 + (k + m)) else rUn R l (k + m) := rfl
    rw [e]
    split
    · rw [Nat.testBit_or, Nat.testBit_two_pow, rUn_keep m k h]
      simp [show ¬ l + 1 + (k + m) = j by omega]
    · exact rUn_keep m k h
theorem rUn_ge {R : ST} {l j : Nat} : ∀ k, (rUn R l k).testBit j = true → l ≤ j
  | 0, h => by
    have h : (2 ^ l).testBit j = true := h
    rw [Nat.testBit_two_pow, decide_eq_true_eq] at h
    omega
  | k + 1, h => by
    unfold rUn at h
    split at h
    · rw [Nat.testBit_or, Bool.or_eq_true] at h
      rcases h with h | h
      · exact rUn_ge k h
      · rw [Nat.testBit_two_pow, decide_eq_true_eq] at h
        omega
    · exact rUn_ge k h
theorem rUn_ng {R : ST} {l j : Nat} (hg : (R 0 2).testBit l = false) : ∀ k, (rUn R l k).testBit j = true → (R 0 2).testBit j = false
  | 0, h => by
    have h : (2 ^ l).testBit j = true := h
    rw [Nat.testBit_two_pow, decide_eq_true_eq] at h
    subst h
    exact hg
  | k + 1, h => by
    unfold rUn at h
    split at h
    · rename_i q
      rw [Nat.testBit_or, Bool.or_eq_true] at h
      rcases h with h | h
      · exact rUn_ng hg k h
      · rw [Nat.testBit_two_pow, decide_eq_true_eq] at h
        subst h
        simp only [Bool.and_eq_true, Bool.not_eq_true'] at q
        exact q.1.1
    · exact rUn_ng hg k h
theorem rU_cl {R : ST} (hI : RailI R) {l : Nat} (hl : l < R 0 1) (hg : (R 0 2).testBit l = false) : rCl R (rU R l) := by
  refine ⟨rU_lt hI hl, fun i h => ?_, fun i hi h9 hb hgi => ?_⟩
  · cases q : (rU R l).testBit i
    · rfl
    · rw [rUn_ng hg _ q] at h
      cases h
  · have hle := (hI.2.2.2.2 i hi).2.2.2.2.2.1
    have hge : l ≤ R 9 i - 1 := rUn_ge _ hb
    have hi2 : l + 1 ≤ i := by omega
    unfold rU at hb ⊢
    have e1 : R 0 1 - (l + 1) = (i - (l + 1)) + (R 0 1 - i) := by omega
    rw [e1, rUn_keep _ _ (by omega)] at hb
    have e2 : R 0 1 - (l + 1) = (i - (l + 1) + 1) + (R 0 1 - i - 1) := by omega
    rw [e2, rUn_keep _ _ (by omega)]
    have e3 : l + 1 + (i - (l + 1)) = i := by omega
    unfold rUn
    rw [e3, if_pos (by simp [hgi, h9, hb]), Nat.testBit_or, Nat.testBit_two_pow_self]
    simp
theorem rH_cl {R : ST} (hI : RailI R) (p q : Nat) : rCl R (rH R p q) := by
  refine ⟨rH_lt, fun i h => ?_, fun i hi h9 hb hgi => ?_⟩
  · unfold rH
    rw [rH3_bit, h]
    simp
  · have hle := (hI.2.2.2.2 i hi).2.2.2.2.2.1
    obtain ⟨b1, b2, -⟩ := (hI.2.2.2.2 i hi).2.2.2.2.2.2 h9
    unfold rH at hb ⊢
    rw [rH3_bit] at hb ⊢
    simp only [Bool.and_eq_true, Bool.or_eq_true, Bool.not_eq_true', decide_eq_true_eq] at hb ⊢
    rw [b1, b2]
    exact ⟨hi, ⟨⟨hgi, hb.2.1.2⟩, hb.2.2⟩⟩
/-- what both have done when the set S has fallen -/
theorem Rel_fall {A : AST} {w w' : ZW} (h : RelA A w) {R' : ST} (hI : RailI R') (hP : R' 0 0 = A 0 0 0) (hL : R' 0 1 = A 0 0 1) (hC : RailC R' w'.1) (hM : RailM R' w'.1) (f : ∀ a j, ¬ (a = 2 ∧ j = 5) → a ≠ 138 → w'.1 a j = w.1 a j) (g : w'.2 = w.2) : Rel w' := by
  obtain ⟨⟨-, i2, i3, i4, i5⟩, ⟨-, c2, c3, c4, c5⟩, ⟨-, m2, m3, m4, m5⟩, hT, hS, hIm⟩ := h
  refine ⟨fun k => if k = 0 then R' else A k, ⟨hI, ?_, ?_, ?_, i5⟩, ⟨hC, fr_SC (fun a j q => f _ _ (by unfold cSC at q; omega) (by unfold cSC at q; omega)) c2, fr_NC (fun a j q => f _ _ (by unfold cNC at q; omega) (by unfold cNC at q; omega)) (fun a j _ => by rw [g]) c3, fr_NiC (fun a j q => f _ _ (by unfold cNiC at q; omega) (by unfold cNiC at q; omega)) c4, fr_GC (fun a j q => f _ _ (by unfold cGC at q; omega) (by unfold cGC at q; omega)) c5⟩, ⟨hM, fr_SM (fun a j q => f _ _ (by unfold cSM at q; omega) (by unfold cSM at q; omega)) m2, ?_, ?_, fr_GM (fun a j q => f _ _ (by unfold cGM at q; omega) (by unfold cGM at q; omega)) m5⟩, fr_T (fun a j q => f _ _ (by unfold cT at q; omega) (by unfold cT at q; omega)) hT, fr_Sh (fun a j q => f _ _ (by unfold cSh at q; omega) (by unfold cSh at q; omega)) hS, fr_Im (fun a j q => f _ _ (by unfold cIm at q; omega) (by unfold cIm at q; omega)) (fun a j _ => by rw [g]) hIm⟩
  · show SightI (R' 0 0) (A 1)
    rw [hP]; exact i2
  · show NamesI (R' 0 1) (A 2)
    rw [hL]; exact i3
  · show NightI (R' 0 0) (A 3)
    rw [hP]; exact i4
  · show NamesM (R' 0 1) (A 2) _
    rw [hL]
    exact fr_NM (fun a j q => f _ _ (by unfold cNM at q; omega) (by unfold cNM at q; omega)) m3
  · show NightM (R' 0 0) (A 3) _
    rw [hP]
    exact fr_NiM (fun a j q => f _ _ (by unfold cNiM at q; omega) (by unfold cNiM at q; omega)) m4
theorem RailM_up {R : ST} {w : ZW} (h : RailM R w.1) (x : Int32) : RailM R (z_upI w 2 5 x).1 := fr_RM (fun a j q => by rw [up_ne (by unfold cRM at q; omega)]) h
theorem RailC_fill {R : ST} {w : ZW} (h : RailC R w.1) (k : Nat) (f : Nat → Int32) : RailC R (fillo w 138 0 k f).1 := fr_RC (fun a j q => fillo_out (by unfold cRC at q; omega)) h
theorem sim_cut {w : ZW} (h : Rel w) (a : Int32) : ∃ r w1 w2, f_X11_cut w a = some (r, w1) ∧ f_X12_cut w1 a = some (r, w2) ∧ Rel w2 := by
  have h0 := h
  obtain ⟨A, hA⟩ := h
  obtain ⟨hI, hC, hM, -⟩ := id hA
  have hI := hI.1
  have hC := hC.1
  have hM := hM.1
  have hL := hI.2.1
  unfold f_X11_cut
  rw [X4_hasLock_eq hC.2.1]
  simp only [Option.bind_some, if10]
  by_cases hb : ixb (A 0 0 1) a = true
  · simp only [hb, if_true]
    obtain ⟨l, hl, rfl⟩ := ix_t (by omega) hb
    rw [X4_isGone_eq hC.2.2.1 (p31 hL hI.2.2.1) (by omega)]
    simp only [Option.bind_some, if10]
    by_cases g : (A 0 0 2).testBit l = true
    · simp only [g, if_true]
      refine ⟨_, _, w, rfl, ?_, h0⟩
      unfold f_X12_cut
      rw [X12_isLock_eq (by omega) hM.2.1]
      simp only [Option.bind_some, if10, hb, if_true, z_in_t (show l < 14 by omega) (by omega), nI_clamp (show l < 2 ^ 31 by omega), (hM.2.2.2 l hl).2.2.2.2.2.2, nI_b1, g]
      rw [if_neg i10, if_pos (show nI 1 = 1 from rfl)]
    · simp only [g, if_false]
      simp only [Bool.not_eq_true] at g
      have cl := rU_cl hI hl g
      rw [X4_withAllOn_eq hI hC hl]
      simp only [Option.bind_some]
      rw [fall_eq hI hC cl.1 cl.2.1]
      refine ⟨_, _, fillo (z_upI w 2 5 (nI (A 0 0 2 ||| rU (A 0) l))) 138 0 (A 0 0 1) (fun i => nI (if (A 0 0 2 ||| rU (A 0) l).testBit i = true then 1 else 0)), rfl, ?_, ?_⟩
      · have hM2 := RailM_up hM (nI (A 0 0 2 ||| rU (A 0) l))
        unfold f_X12_cut
        rw [X12_isLock_eq (by omega) hM2.2.1]
        simp only [Option.bind_some, if10, hb, if_true, z_in_t (show l < 14 by omega) (by omega), nI_clamp (show l < 2 ^ 31 by omega), (hM2.2.2.2 l hl).2.2.2.2.2.2, nI_b1, g, X12_under_eq hI hM2 hl g, falls_eq hI hM2 cl.1]
        simp
      · refine Rel_fall hA (R' := rG (A 0) (A 0 0 2 ||| rU (A 0) l)) (rG_I hI cl) rfl rfl (RailC_fill (rG_C hC _) _ _) (rG_M (RailM_up hM _) _) (fun a j q1 q2 => ?_) rfl
        rw [fillo_out (by omega)]
        simp only [z_upI]
        rw [if_neg q1]
  · simp only [hb]
    refine ⟨_, _, w, rfl, ?_, h0⟩
    unfold f_X12_cut
    rw [X12_isLock_eq (by omega) hM.2.1]
    simp [hb]
