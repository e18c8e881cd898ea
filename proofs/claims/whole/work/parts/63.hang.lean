/-! hang, hangOn -/
def lkR (R : ST) (L p q m x y z : Nat) : ST := fun a j => if a = 0 ∧ j = 1 then L + 1 else if j = L then (if a = 4 then x else if a = 5 then y else if a = 6 then z else if a = 7 then p else if a = 8 then q else if a = 9 then m else R a j) else R a j
theorem lkR_o {R : ST} {L p q m x y z a j : Nat} (h : ¬ (a = 0 ∧ j = 1)) (h2 : j ≠ L ∨ a < 4 ∨ 9 < a) : lkR R L p q m x y z a j = R a j := by
  unfold lkR
  rw [if_neg h]
  by_cases e : j = L
  · rw [if_pos e, if_neg (by omega), if_neg (by omega), if_neg (by omega), if_neg (by omega), if_neg (by omega), if_neg (by omega)]
  · rw [if_neg e]
theorem lkR_L {R : ST} {L p q m x y z : Nat} : lkR R L p q m x y z 0 1 = L + 1 := rfl
theorem lkR_n {R : ST} {L p q m x y z : Nat} : lkR R L p q m x y z 4 L = x ∧ lkR R L p q m x y z 5 L = y ∧ lkR R L p q m x y z 6 L = z ∧ lkR R L p q m x y z 7 L = p ∧ lkR R L p q m x y z 8 L = q ∧ lkR R L p q m x y z 9 L = m := by
  unfold lkR
  simp
theorem Rel_lock {A : AST} {w w' : ZW} {L p q m x y z : Nat} (hA : RelA A w) (hL : A 0 0 1 = L) (hL6 : L < 14) (hx : 1 ≤ x ∧ x ≤ 999) (hy : y ≤ 1) (hz : z ≤ 19) (hp : p < A 0 0 0) (hq : q ≤ 2) (hm : m ≤ L) (hm0 : m ≠ 0 → p = A 0 7 (m - 1) ∧ q = A 0 8 (m - 1) ∧ (A 0 0 2).testBit (m - 1) = false)
    (fr : ∀ a j, ¬ ((a = 2 ∧ j = 4) ∨ (6 ≤ a ∧ a ≤ 11 ∧ j = L) ∨ (a = 130 ∧ j = 2) ∨ (132 ≤ a ∧ a ≤ 138 ∧ j = L) ∨ (a = 144 ∧ j = L)) → w'.1 a j = w.1 a j) (fl : w'.2 = w.2)
    (c0 : w'.1 2 4 = nI (L + 1)) (cn : w'.1 6 L = nI x ∧ w'.1 7 L = nI y ∧ w'.1 8 L = nI z ∧ w'.1 9 L = nI p ∧ w'.1 10 L = nI q ∧ w'.1 11 L = hol m)
    (m0 : w'.1 130 2 = nI (L + 1)) (mn : w'.1 132 L = nI x ∧ w'.1 133 L = nI y ∧ w'.1 134 L = nI z ∧ w'.1 135 L = nI p ∧ w'.1 136 L = nI q ∧ w'.1 137 L = hol m ∧ w'.1 138 L = 0) (ml : w'.1 144 L = 0) : Rel w' := by
  obtain ⟨hI, hC, hM, hT, hS, hIm⟩ := hA
  subst hL
  generalize hR : lkR (A 0) (A 0 0 1) p q m x y z = R'
  have o : ∀ a j, ¬ (a = 0 ∧ j = 1) → (j ≠ A 0 0 1 ∨ a < 4 ∨ 9 < a) → R' a j = A 0 a j := fun a j h h2 => by rw [← hR]; exact lkR_o h h2
  have eL : R' 0 1 = A 0 0 1 + 1 := by rw [← hR]; rfl
  have en : R' 4 (A 0 0 1) = x ∧ R' 5 (A 0 0 1) = y ∧ R' 6 (A 0 0 1) = z ∧ R' 7 (A 0 0 1) = p ∧ R' 8 (A 0 0 1) = q ∧ R' 9 (A 0 0 1) = m := by rw [← hR]; exact lkR_n
  clear hR
  have hG := hI.1.2.2.1
  have hGL : (A 0 0 2).testBit (A 0 0 1) = false := Nat.testBit_lt_two_pow hG
  have hK := hI.2.2.1.2.1
  have hKL : (A 2 0 1).testBit (A 0 0 1) = false := Nat.testBit_lt_two_pow hK
  have h2 : 2 ^ A 0 0 1 ≤ 2 ^ (A 0 0 1 + 1) := Nat.pow_le_pow_right (by omega) (by omega)
  refine ⟨aup A 0 R', ⟨?_, ?_, ?_, ?_, hI.2.2.2.2⟩, ⟨?_, ?_, ?_, ?_, ?_⟩, ⟨?_, ?_, ?_, ?_, ?_⟩, ?_, ?_, ?_⟩
  · obtain ⟨i1, i2, i3, i4, i5⟩ := hI.1
    refine ⟨?_, ?_, ?_, fun p hp => ?_, fun i hi => ?_⟩
    · show R' 0 0 ≤ 6
      rw [o _ _ (by omega) (by omega)]
      exact i1
    · show R' 0 1 ≤ 14
      omega
    · show R' 0 2 < 2 ^ R' 0 1
      rw [o _ _ (by omega) (by omega), eL]
      omega
    · have hp : p < R' 0 0 := hp
      rw [o _ _ (by omega) (by omega)] at hp
      show (1 ≤ R' 1 p ∧ R' 1 p ≤ 99999) ∧ (1 ≤ R' 2 p ∧ R' 2 p ≤ 99999) ∧ (1 ≤ R' 3 p ∧ R' 3 p ≤ 99999)
      rw [o 1 _ (by omega) (by omega), o 2 _ (by omega) (by omega), o 3 _ (by omega) (by omega)]
      exact i4 p hp
    · have hi : i < R' 0 1 := hi
      show (1 ≤ R' 4 i ∧ R' 4 i ≤ 999) ∧ R' 5 i ≤ 1 ∧ R' 6 i ≤ 19 ∧ R' 7 i < R' 0 0 ∧ R' 8 i ≤ 2 ∧ R' 9 i ≤ i ∧ (R' 9 i ≠ 0 → R' 7 i = R' 7 (R' 9 i - 1) ∧ R' 8 i = R' 8 (R' 9 i - 1) ∧ ((R' 0 2).testBit (R' 9 i - 1) = true → (R' 0 2).testBit i = true))
      rw [o 0 0 (by omega) (by omega), o 0 2 (by omega) (by omega)]
      by_cases e : i = A 0 0 1
      · subst e
        obtain ⟨e4, e5, e6, e7, e8, e9⟩ := en
        rw [e4, e5, e6, e7, e8, e9]
        refine ⟨hx, hy, hz, hp, hq, hm, fun q0 => ?_⟩
        obtain ⟨a1, a2, a3⟩ := hm0 q0
        rw [o 7 _ (by omega) (by omega), o 8 _ (by omega) (by omega)]
        exact ⟨a1, a2, fun t => by rw [a3] at t; cases t⟩
      · obtain ⟨a1, a2, a3, a4, a5, a6, a7⟩ := i5 i (by omega)
        rw [o 4 i (by omega) (by omega), o 5 i (by omega) (by omega), o 6 i (by omega) (by omega), o 7 i (by omega) (by omega), o 8 i (by omega) (by omega), o 9 i (by omega) (by omega)]
        refine ⟨a1, a2, a3, a4, a5, a6, fun q0 => ?_⟩
        rw [o 7 _ (by omega) (by omega), o 8 _ (by omega) (by omega)]
        exact a7 q0
  · show SightI (R' 0 0) (A 1)
    rw [o _ _ (by omega) (by omega)]
    exact hI.2.1
  · show NamesI (R' 0 1) (A 2)
    rw [eL]
    obtain ⟨n1, n2, n3⟩ := hI.2.2.1
    exact ⟨n1, by omega, n3⟩
  · show NightI (R' 0 0) (A 3)
    rw [o _ _ (by omega) (by omega)]
    exact hI.2.2.2.1
  · obtain ⟨c1, c2, c3, c4, c5⟩ := hC.1
    refine ⟨?_, ?_, ?_, fun p hp => ?_, fun i hi => ?_⟩
    · show w'.1 2 0 = nI (R' 0 0)
      rw [o _ _ (by omega) (by omega), fr _ _ (by omega)]
      exact c1
    · show w'.1 2 4 = nI (R' 0 1)
      rw [eL]
      exact c0
    · show w'.1 2 5 = nI (R' 0 2)
      rw [o _ _ (by omega) (by omega), fr _ _ (by omega)]
      exact c3
    · have hp : p < R' 0 0 := hp
      rw [o _ _ (by omega) (by omega)] at hp
      show w'.1 3 p = nI (R' 1 p) ∧ w'.1 4 p = nI (R' 2 p) ∧ w'.1 5 p = nI (R' 3 p)
      rw [fr _ _ (by omega), fr _ _ (by omega), fr _ _ (by omega), o 1 _ (by omega) (by omega), o 2 _ (by omega) (by omega), o 3 _ (by omega) (by omega)]
      exact c4 p hp
    · have hi : i < R' 0 1 := hi
      show w'.1 6 i = nI (R' 4 i) ∧ w'.1 7 i = nI (R' 5 i) ∧ w'.1 8 i = nI (R' 6 i) ∧ w'.1 9 i = nI (R' 7 i) ∧ w'.1 10 i = nI (R' 8 i) ∧ w'.1 11 i = hol (R' 9 i)
      by_cases e : i = A 0 0 1
      · subst e
        obtain ⟨e4, e5, e6, e7, e8, e9⟩ := en
        rw [e4, e5, e6, e7, e8, e9]
        exact cn
      · rw [fr 6 i (by omega), fr 7 i (by omega), fr 8 i (by omega), fr 9 i (by omega), fr 10 i (by omega), fr 11 i (by omega), o 4 i (by omega) (by omega), o 5 i (by omega) (by omega), o 6 i (by omega) (by omega), o 7 i (by omega) (by omega), o 8 i (by omega) (by omega), o 9 i (by omega) (by omega)]
        exact c5 i (by omega)
  · exact fr_SC (fun a j q => fr a j (by unfold cSC at q; omega)) hC.2.1
  · exact fr_NC (fun a j q => fr a j (by unfold cNC at q; omega)) (fun a j _ => by rw [fl]) hC.2.2.1
  · exact fr_NiC (fun a j q => fr a j (by unfold cNiC at q; omega)) hC.2.2.2.1
  · exact fr_GC (fun a j q => fr a j (by unfold cGC at q; omega)) hC.2.2.2.2
  · obtain ⟨c1, c2, c4, c5⟩ := hM.1
    refine ⟨?_, ?_, fun p hp => ?_, fun i hi => ?_⟩
    · show w'.1 130 0 = nI (R' 0 0)
      rw [o _ _ (by omega) (by omega), fr _ _ (by omega)]
      exact c1
    · show w'.1 130 2 = nI (R' 0 1)
      rw [eL]
      exact m0
    · have hp : p < R' 0 0 := hp
      rw [o _ _ (by omega) (by omega)] at hp
      show w'.1 131 (3 * p) = nI (R' 1 p) ∧ w'.1 131 (3 * p + 1) = nI (R' 2 p) ∧ w'.1 131 (3 * p + 2) = nI (R' 3 p)
      rw [fr _ _ (by omega), fr _ _ (by omega), fr _ _ (by omega), o 1 _ (by omega) (by omega), o 2 _ (by omega) (by omega), o 3 _ (by omega) (by omega)]
      exact c4 p hp
    · have hi : i < R' 0 1 := hi
      show w'.1 132 i = nI (R' 4 i) ∧ w'.1 133 i = nI (R' 5 i) ∧ w'.1 134 i = nI (R' 6 i) ∧ w'.1 135 i = nI (R' 7 i) ∧ w'.1 136 i = nI (R' 8 i) ∧ w'.1 137 i = hol (R' 9 i) ∧ w'.1 138 i = nI (if (R' 0 2).testBit i = true then 1 else 0)
      rw [o 0 2 (by omega) (by omega)]
      by_cases e : i = A 0 0 1
      · subst e
        obtain ⟨e4, e5, e6, e7, e8, e9⟩ := en
        rw [e4, e5, e6, e7, e8, e9, hGL]
        exact mn
      · rw [fr 132 i (by omega), fr 133 i (by omega), fr 134 i (by omega), fr 135 i (by omega), fr 136 i (by omega), fr 137 i (by omega), fr 138 i (by omega), o 4 i (by omega) (by omega), o 5 i (by omega) (by omega), o 6 i (by omega) (by omega), o 7 i (by omega) (by omega), o 8 i (by omega) (by omega), o 9 i (by omega) (by omega)]
        exact c5 i (by omega)
  · exact fr_SM (fun a j q => fr a j (by unfold cSM at q; omega)) hM.2.1
  · show NamesM (R' 0 1) (A 2) _
    rw [eL]
    obtain ⟨n1, n2, n3, n4⟩ := hM.2.2.1
    have nf : ∀ l, (A 2 0 1).testBit l = true → l < A 0 0 1 := fun l t => by
      cases Nat.lt_or_ge l (A 0 0 1) with
      | inl h => exact h
      | inr h =>
        rw [Nat.testBit_lt_two_pow (Nat.lt_of_lt_of_le hK (Nat.pow_le_pow_right (by omega) h))] at t
        cases t
    refine ⟨?_, fun p hp => ⟨?_, fun k hk => ?_⟩, fun l hl => ?_, fun l hl => ⟨?_, fun k hk => ?_, fun k hk => ?_⟩⟩
    · rw [fr _ _ (by omega)]; exact n1
    · rw [fr _ _ (by omega)]; exact (n2 p hp).1
    · rw [fr _ _ (by omega)]; exact (n2 p hp).2 k hk
    · by_cases e : l = A 0 0 1
      · subst e
        rw [ml, hKL]
        rfl
      · rw [fr _ _ (by omega)]
        exact n3 l (by omega)
    · rw [fr _ _ (by omega)]; exact (n4 l hl).1
    · rw [fr _ _ (by omega)]; exact (n4 l hl).2.1 k hk
    · rw [fr _ _ (by omega)]; exact (n4 l hl).2.2 k hk
  · show NightM (R' 0 0) (A 3) _
    rw [o _ _ (by omega) (by omega)]
    exact fr_NiM (fun a j q => fr a j (by unfold cNiM at q; omega)) hM.2.2.2.1
  · exact fr_GM (fun a j q => fr a j (by unfold cGM at q; omega)) hM.2.2.2.2
  · exact fr_T (fun a j q => fr a j (by unfold cT at q; omega)) hT
  · exact fr_Sh (fun a j q => fr a j (by unfold cSh at q; omega)) hS
  · exact fr_Im (fun a j q => fr a j (by unfold cIm at q; omega)) (fun a j _ => by rw [fl]) hIm
def lkC (w : ZW) (L : Nat) (a1 a2 a3 a4 a5 : Int32) : ZW := z_upI (z_upI (z_upI (z_upI (z_upI (z_upI (z_upI w 9 L a1) 10 L a2) 11 L (-4)) 6 L a3) 7 L a4) 8 L a5) 2 4 (nI (L + 1))
def lkM (w : ZW) (L : Nat) (a1 a2 a3 a4 a5 a6 : Int32) : ZW := z_upI (z_upI (z_upI (z_upI (z_upI (z_upI (z_upI (z_upI (z_upI w 135 L a1) 136 L a2) 137 L a3) 132 L a4) 133 L a5) 134 L a6) 138 L 0) 144 L 0) 130 2 (nI (L + 1))
theorem addToBar_eq {w : ZW} {L : Nat} (h : w.1 2 4 = nI L) (hL : L ≤ 14) (a1 a2 a3 a4 a5 : Int32) : f_X4_addToBar w a1 a2 a3 a4 a5 = if L < 14 then some (nI L, lkC w L a1 a2 a3 a4 a5) else some (-3, w) := by
  unfold f_X4_addToBar
  simp only [h, show (14 : Int32) = nI 14 from rfl, nI_ltI (show L < 2 ^ 31 by omega) (show 14 < 2 ^ 31 by omega)]
  by_cases q : L < 14
  · simp only [q, if_true, z_in_t q (by omega), nI_clamp (show L < 2 ^ 31 by omega), z_let, h, fun w x => upc (w := w) (x := x) (show ¬ (2 = 9 ∧ 4 = L) by omega), fun w x => upc (w := w) (x := x) (show ¬ (2 = 10 ∧ 4 = L) by omega), fun w x => upc (w := w) (x := x) (show ¬ (2 = 11 ∧ 4 = L) by omega), fun w x => upc (w := w) (x := x) (show ¬ (2 = 6 ∧ 4 = L) by omega), fun w x => upc (w := w) (x := x) (show ¬ (2 = 7 ∧ 4 = L) by omega), fun w x => upc (w := w) (x := x) (show ¬ (2 = 8 ∧ 4 = L) by omega), nI_1]
    rfl
  · simp only [q, if_false]
theorem comes_eq {w : ZW} {L : Nat} (h : w.1 130 2 = nI L) (hL : L < 14) (a1 a2 a3 a4 a5 a6 : Int32) : f_X12_comes w a1 a2 a3 a4 a5 a6 = some (nI L, lkM w L a1 a2 a3 a4 a5 a6) := by
  unfold f_X12_comes
  simp only [h, if_true, z_in_t hL (by omega), nI_clamp (show L < 2 ^ 31 by omega), z_let, fun w x => upc (w := w) (x := x) (show ¬ (130 = 135 ∧ 2 = L) by omega), fun w x => upc (w := w) (x := x) (show ¬ (130 = 136 ∧ 2 = L) by omega), fun w x => upc (w := w) (x := x) (show ¬ (130 = 137 ∧ 2 = L) by omega), fun w x => upc (w := w) (x := x) (show ¬ (130 = 132 ∧ 2 = L) by omega), fun w x => upc (w := w) (x := x) (show ¬ (130 = 133 ∧ 2 = L) by omega), fun w x => upc (w := w) (x := x) (show ¬ (130 = 134 ∧ 2 = L) by omega), fun w x => upc (w := w) (x := x) (show ¬ (130 = 138 ∧ 2 = L) by omega), fun w x => upc (w := w) (x := x) (show ¬ (130 = 144 ∧ 2 = L) by omega), nI_1, upc_e]
  rw [show (1 : Int32) = nI 1 from rfl, pk_sub (show 1 ≤ L + 1 by omega), Nat.add_sub_cancel]
  rfl
theorem X12_hang_eq {w : ZW} {P L : Nat} (h : w.1 130 0 = nI P) (hP : P ≤ 6) (h2 : w.1 130 2 = nI L) (hL : L ≤ 14) (a1 a2 a3 a4 a5 : Int32) : f_X12_hang w a1 a2 a3 a4 a5 = if (ixb P a1 && rg 0 2 a2) = true then (if (rg 1 999 a3 && rg 0 1 a4 && rg 0 19 a5) = true then (if L < 14 then some (nI L, lkM w L a1 a2 (-4) a3 a4 a5) else some (-3, w)) else some (-1, w)) else some (-1, w) := by
  unfold f_X12_hang
  rw [X12_isPanel_eq (by omega) h, in_rg _ _ _ (by decide) (by decide), X12_isTold_eq]
  simp only [Option.bind_some, if10]
  by_cases q1 : ixb P a1 = true
  · by_cases q2 : rg 0 2 a2 = true
    · by_cases q3 : (rg 1 999 a3 && rg 0 1 a4 && rg 0 19 a5) = true
      · simp only [q1, q2, q3, if_true, h2, show (14 : Int32) = nI 14 from rfl, nI_inj (show L < 2 ^ 31 by omega) (show 14 < 2 ^ 31 by omega), Bool.and_self]
        by_cases q4 : L < 14
        · rw [if_neg (by omega), if_pos q4, comes_eq h2 q4]
          rfl
        · rw [if_pos (by omega), if_neg q4]
      · simp only [q1, q2, q3, if_true, if_false, Bool.and_self]
        rfl
    · simp [q1, q2]
  · simp [q1]
theorem X11_hang_eq {w : ZW} {P L : Nat} (h : w.1 2 0 = nI P) (h2 : w.1 2 4 = nI L) (hL : L ≤ 14) (a1 a2 a3 a4 a5 : Int32) : f_X11_hang w a1 a2 a3 a4 a5 = if (ixb P a1 && rg 0 2 a2) = true then (if (rg 1 999 a3 && rg 0 1 a4 && rg 0 19 a5) = true then (if L < 14 then some (nI L, lkC w L a1 a2 a3 a4 a5) else some (-3, w)) else some (-1, w)) else some (-1, w) := by
  unfold f_X11_hang
  rw [X11_isBar_eq h, X11_isLock_eq]
  simp only [Option.bind_some, if10]
  by_cases q1 : (ixb P a1 && rg 0 2 a2) = true
  · by_cases q3 : (rg 1 999 a3 && rg 0 1 a4 && rg 0 19 a5) = true
    · rw [if_pos q1, if_pos q1, if_pos q3, if_pos q3, addToBar_eq h2 hL]
      by_cases q4 : L < 14
      · rw [if_pos q4]
        rfl
      · rw [if_neg q4]
        rfl
    · rw [if_pos q1, if_pos q1, if_neg q3, if_neg q3]
  · rw [if_neg q1, if_neg q1]
theorem rg_0 {hi : Nat} {a : Int32} (h : rg 0 hi a = true) (hh : hi < 2 ^ 31) : ∃ j, j ≤ hi ∧ a = nI j := by
  obtain ⟨j, -, h1, h2⟩ := rg_t h (by decide) hh
  exact ⟨j, h1, h2⟩
theorem sim_hang {w : ZW} (h : Rel w) (a1 a2 a3 a4 a5 : Int32) : ∃ r w1 w2, f_X11_hang w a1 a2 a3 a4 a5 = some (r, w1) ∧ f_X12_hang w1 a1 a2 a3 a4 a5 = some (r, w2) ∧ Rel w2 := by
  have h0 := h
  obtain ⟨A, hA⟩ := h
  obtain ⟨hI, hC, hM, -⟩ := id hA
  have hP := hI.1.1
  have hL := hI.1.2.1
  rw [X11_hang_eq hC.1.1 hC.1.2.1 hL]
  by_cases q1 : (ixb (A 0 0 0) a1 && rg 0 2 a2) = true
  · by_cases q3 : (rg 1 999 a3 && rg 0 1 a4 && rg 0 19 a5) = true
    · by_cases q4 : A 0 0 1 < 14
      · rw [if_pos q1, if_pos q3, if_pos q4]
        have q1' := q1
        have q3' := q3
        simp only [Bool.and_eq_true] at q1' q3'
        obtain ⟨p, hp, rfl⟩ := ix_t (by omega) q1'.1
        obtain ⟨q, hq, rfl⟩ := rg_0 q1'.2 (by decide)
        obtain ⟨x, x1, x2, rfl⟩ := rg_t q3'.1.1 (by decide) (by decide)
        obtain ⟨y, hy, rfl⟩ := rg_0 q3'.1.2 (by decide)
        obtain ⟨z, hz, rfl⟩ := rg_0 q3'.2 (by decide)
        have f0 : ∀ a j, 12 ≤ a → (lkC w (A 0 0 1) (nI p) (nI q) (nI x) (nI y) (nI z)).1 a j = w.1 a j := by
          intro a j h
          unfold lkC
          rw [upc (by omega), upc (by omega), upc (by omega), upc (by omega), upc (by omega), upc (by omega), upc (by omega)]
        refine ⟨_, _, _, rfl, (X12_hang_eq (P := A 0 0 0) (L := A 0 0 1) ((f0 _ _ (by omega)).trans hM.1.1) hP ((f0 _ _ (by omega)).trans hM.1.2.1) hL _ _ _ _ _).trans ((if_pos q1).trans ((if_pos q3).trans (if_pos q4))), ?_⟩
        refine Rel_lock hA rfl q4 ⟨x1, x2⟩ hy hz hp hq (Nat.zero_le _) (fun h => absurd rfl h) (fun a j h => ?_) rfl ?_ ?_ ?_ ?_ ?_
        · unfold lkM lkC
          rw [upc (by omega), upc (by omega), upc (by omega), upc (by omega), upc (by omega), upc (by omega), upc (by omega), upc (by omega), upc (by omega), upc (by omega), upc (by omega), upc (by omega), upc (by omega), upc (by omega), upc (by omega), upc (by omega)]
        · simp [lkM, lkC, z_upI]
        · simp [lkM, lkC, z_upI, hol]
        · simp [lkM, lkC, z_upI]
        · simp [lkM, lkC, z_upI, hol]
        · simp [lkM, lkC, z_upI]
      · rw [if_pos q1, if_pos q3, if_neg q4]
        exact ⟨_, _, _, rfl, (X12_hang_eq hM.1.1 hP hM.1.2.1 hL _ _ _ _ _).trans ((if_pos q1).trans ((if_pos q3).trans (if_neg q4))), h0⟩
    · rw [if_pos q1, if_neg q3]
      exact ⟨_, _, _, rfl, (X12_hang_eq hM.1.1 hP hM.1.2.1 hL _ _ _ _ _).trans ((if_pos q1).trans (if_neg q3)), h0⟩
  · rw [if_neg q1]
    exact ⟨_, _, _, rfl, (X12_hang_eq hM.1.1 hP hM.1.2.1 hL _ _ _ _ _).trans (if_neg q1), h0⟩
theorem n11 : (nI 1 = (1 : Int32)) ↔ True := ⟨fun _ => trivial, fun _ => rfl⟩
theorem n01 : (nI 0 = (1 : Int32)) ↔ False := ⟨fun h => by revert h; decide, fun h => h.elim⟩
theorem sim_hangOn {w : ZW} (h : Rel w) (a1 a2 a3 a4 : Int32) : ∃ r w1 w2, f_X11_hangOn w a1 a2 a3 a4 = some (r, w1) ∧ f_X12_hangOn w1 a1 a2 a3 a4 = some (r, w2) ∧ Rel w2 := by
  have h0 := h
  obtain ⟨A, hA⟩ := h
  obtain ⟨hI, hC, hM, -⟩ := id hA
  have hP := hI.1.1
  have hL := hI.1.2.1
  have bail : ∀ r : Int32, f_X11_hangOn w a1 a2 a3 a4 = some (r, w) → f_X12_hangOn w a1 a2 a3 a4 = some (r, w) → ∃ r w1 w2, f_X11_hangOn w a1 a2 a3 a4 = some (r, w1) ∧ f_X12_hangOn w1 a1 a2 a3 a4 = some (r, w2) ∧ Rel w2 := fun r e1 e2 => ⟨r, w, w, e1, e2, h0⟩
  have e1 : ∀ w' : ZW, w'.1 130 2 = nI (A 0 0 1) → f_X12_isLock w' a1 = some (if ixb (A 0 0 1) a1 = true then 1 else 0) := fun w' h => X12_isLock_eq (by omega) h a1
  by_cases q1 : ixb (A 0 0 1) a1 = true
  · by_cases q3 : (rg 1 999 a2 && rg 0 1 a3 && rg 0 19 a4) = true
    · have q3' := q3
      simp only [Bool.and_eq_true] at q3'
      obtain ⟨l, hl, rfl⟩ := ix_t (by omega) q1
      obtain ⟨x, x1, x2, rfl⟩ := rg_t q3'.1.1 (by decide) (by decide)
      obtain ⟨y, hy, rfl⟩ := rg_0 q3'.1.2 (by decide)
      obtain ⟨z, hz, rfl⟩ := rg_0 q3'.2 (by decide)
      have hg := X4_isGone_eq hC.1.2.2.1 (p31 hL hI.1.2.2.1) (show l < 32 by omega)
      obtain ⟨-, -, -, i7, i8, -⟩ := hI.1.2.2.2.2 l hl
      obtain ⟨-, -, -, c7, c8, -⟩ := hC.1.2.2.2.2 l hl
      obtain ⟨-, -, -, m7, m8, -, mg⟩ := hM.1.2.2.2 l hl
      by_cases g : (A 0 0 2).testBit l = true
      · apply bail (-2)
        · unfold f_X11_hangOn
          rw [X4_hasLock_eq hC.1.2.1, X11_isLock_eq, hg]
          simp only [Option.bind_some, if10, i10, n11, n01, if_false, if_true, Bool.false_eq_true, q1, q3, g, if_true]
        · unfold f_X12_hangOn
          rw [e1 w hM.1.2.1, X12_isTold_eq]
          simp only [Option.bind_some, if10, i10, n11, n01, if_false, if_true, Bool.false_eq_true, q1, q3, if_true, z_in_t (show l < 14 by omega) (by omega), nI_clamp (show l < 2 ^ 31 by omega), mg, nI_b1, g]
      · by_cases q4 : A 0 0 1 < 14
        · have f0 : ∀ a j, 12 ≤ a → (z_upI (lkC w (A 0 0 1) (nI (A 0 7 l)) (nI (A 0 8 l)) (nI x) (nI y) (nI z)) 11 (A 0 0 1) (nI l)).1 a j = w.1 a j := by
            intro a j h
            unfold lkC
            rw [upc (by omega), upc (by omega), upc (by omega), upc (by omega), upc (by omega), upc (by omega), upc (by omega), upc (by omega)]
          refine ⟨nI (A 0 0 1), z_upI (lkC w (A 0 0 1) (nI (A 0 7 l)) (nI (A 0 8 l)) (nI x) (nI y) (nI z)) 11 (A 0 0 1) (nI l), lkM (z_upI (lkC w (A 0 0 1) (nI (A 0 7 l)) (nI (A 0 8 l)) (nI x) (nI y) (nI z)) 11 (A 0 0 1) (nI l)) (A 0 0 1) (nI (A 0 7 l)) (nI (A 0 8 l)) (nI l) (nI x) (nI y) (nI z), ?_, ?_, ?_⟩
          · unfold f_X11_hangOn
            rw [X4_hasLock_eq hC.1.2.1, X11_isLock_eq, hg]
            simp only [Option.bind_some, if10, i10, n11, n01, if_false, if_true, Bool.false_eq_true, q1, q3, g]
            unfold f_X4_addToLock
            simp only [z_in_t (show l < 14 by omega) (by omega), if_true, nI_clamp (show l < 2 ^ 31 by omega), c7, c8, addToBar_eq hC.1.2.1 hL, q4, Option.bind_some, nI_pos (show A 0 0 1 < 2 ^ 31 by omega), if_false, z_in_t q4 (by omega), nI_clamp (show A 0 0 1 < 2 ^ 31 by omega), z_let]
          · unfold f_X12_hangOn
            rw [e1 _ ((f0 _ _ (by omega)).trans hM.1.2.1), X12_isTold_eq]
            simp only [Option.bind_some, if10, i10, n11, n01, if_false, if_true, Bool.false_eq_true, q1, q3, if_true, z_in_t (show l < 14 by omega) (by omega), nI_clamp (show l < 2 ^ 31 by omega)]
            rw [f0 138 l (by omega), f0 130 2 (by omega), f0 135 l (by omega), f0 136 l (by omega), mg, m7, m8, hM.1.2.1, comes_eq ((f0 _ _ (by omega)).trans hM.1.2.1) q4]
            simp only [i10, n11, n01, if_true, Bool.false_eq_true, nI_b1, g, if_false, show (14 : Int32) = nI 14 from rfl, nI_inj (show A 0 0 1 < 2 ^ 31 by omega) (show 14 < 2 ^ 31 by omega), show ¬ A 0 0 1 = 14 by omega, Option.bind_some]
          · refine Rel_lock (m := l + 1) hA rfl q4 ⟨x1, x2⟩ hy hz i7 i8 (by omega) (fun h => ⟨rfl, rfl, by simpa using g⟩) (fun a j h => ?_) rfl ?_ ?_ ?_ ?_ ?_
            · unfold lkM lkC
              rw [upc (by omega), upc (by omega), upc (by omega), upc (by omega), upc (by omega), upc (by omega), upc (by omega), upc (by omega), upc (by omega), upc (by omega), upc (by omega), upc (by omega), upc (by omega), upc (by omega), upc (by omega), upc (by omega), upc (by omega)]
            · simp [lkM, lkC, z_upI]
            · simp [lkM, lkC, z_upI, hol]
            · simp [lkM, lkC, z_upI]
            · simp [lkM, lkC, z_upI, hol]
            · simp [lkM, lkC, z_upI]
        · apply bail (-3)
          · unfold f_X11_hangOn
            rw [X4_hasLock_eq hC.1.2.1, X11_isLock_eq, hg]
            simp only [Option.bind_some, if10, i10, n11, n01, if_false, if_true, Bool.false_eq_true, q1, q3, g]
            unfold f_X4_addToLock
            simp only [z_in_t (show l < 14 by omega) (by omega), if_true, nI_clamp (show l < 2 ^ 31 by omega), c7, c8, addToBar_eq hC.1.2.1 hL, q4, Option.bind_some, if_false]
            rw [if_pos (by decide)]
            rfl
          · unfold f_X12_hangOn
            rw [e1 w hM.1.2.1, X12_isTold_eq]
            have : A 0 0 1 = 14 := by omega
            simp only [Option.bind_some, if10, i10, n11, n01, if_false, if_true, Bool.false_eq_true, q1, q3, if_true, z_in_t (show l < 14 by omega) (by omega), nI_clamp (show l < 2 ^ 31 by omega), mg, nI_b1, g, if_false, hM.1.2.1, this]
            rw [this] at q1
            rw [if_pos q1]
            rfl
    · apply bail (-1)
      · unfold f_X11_hangOn
        rw [X4_hasLock_eq hC.1.2.1, X11_isLock_eq]
        simp only [Option.bind_some, if10, i10, n11, n01, if_false, if_true, Bool.false_eq_true, q1, q3]
      · unfold f_X12_hangOn
        rw [e1 w hM.1.2.1, X12_isTold_eq]
        simp only [Option.bind_some, if10, i10, n11, n01, if_false, if_true, Bool.false_eq_true, q1, q3]
  · apply bail (-1)
    · unfold f_X11_hangOn
      rw [X4_hasLock_eq hC.1.2.1]
      simp only [Option.bind_some, if10, i10, n11, n01, if_false, if_true, Bool.false_eq_true, q1]
    · unfold f_X12_hangOn
      rw [e1 w hM.1.2.1]
      simp only [Option.bind_some, if10, i10, n11, n01, if_false, if_true, Bool.false_eq_true, q1]
