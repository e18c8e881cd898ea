/-! the class alone: what its cells hold of the state in numbers -/
def kC (a j : Nat) : Prop := (2 ≤ a ∧ a ≤ 23 ∧ ¬ (a = 20 ∧ j ≠ 0)) ∨ a = 54 ∨ a = 55
theorem fr_K {A : AST} {w w' : ZW} (f : ∀ a j, kC a j → w'.1 a j = w.1 a j) (g : ∀ a j, cL a → w'.2 a j = w.2 a j) (h : StC A w.1 w.2) : StC A w'.1 w'.2 :=
  fr_StC (fun a j q => f a j (by unfold kC; unfold cRC cSC cNC cNiC cGC at q; omega)) g h
/-- the law's own arrays are as they were -/
def sameP (w w' : ZW) : Prop := ∀ a j, 130 ≤ a → w'.1 a j = w.1 a j
theorem sameP.rf {w : ZW} : sameP w w := fun _ _ _ => rfl
theorem sameP.tr {u v w : ZW} (h : sameP u v) (k : sameP v w) : sameP u w := fun a j q => (k a j q).trans (h a j q)
theorem K_lock {A : AST} {w w' : ZW} {L p q m x y z : Nat} (hI : StI A) (hC : StC A w.1 w.2) (hL : A 0 0 1 = L) (hL6 : L < 14) (hx : 1 ≤ x ∧ x ≤ 999) (hy : y ≤ 1) (hz : z ≤ 19) (hp : p < A 0 0 0) (hq : q ≤ 2) (hm : m ≤ L) (hm0 : m ≠ 0 → p = A 0 7 (m - 1) ∧ q = A 0 8 (m - 1) ∧ (A 0 0 2).testBit (m - 1) = false)
    (fr : ∀ a j, ¬ ((a = 2 ∧ j = 4) ∨ (6 ≤ a ∧ a ≤ 11 ∧ j = L)) → w'.1 a j = w.1 a j) (fl : w'.2 = w.2)
    (c0 : w'.1 2 4 = nI (L + 1)) (cn : w'.1 6 L = nI x ∧ w'.1 7 L = nI y ∧ w'.1 8 L = nI z ∧ w'.1 9 L = nI p ∧ w'.1 10 L = nI q ∧ w'.1 11 L = hol m)
    : StI (aup A 0 (lkR (A 0) L p q m x y z)) ∧ StC (aup A 0 (lkR (A 0) L p q m x y z)) w'.1 w'.2 := by
  subst hL
  generalize hR : lkR (A 0) (A 0 0 1) p q m x y z = R'
  have o : ∀ a j, ¬ (a = 0 ∧ j = 1) → (j ≠ A 0 0 1 ∨ a < 4 ∨ 9 < a) → R' a j = A 0 a j := fun a j h h2 => by rw [← hR]; exact lkR_o h h2
  have eL : R' 0 1 = A 0 0 1 + 1 := by rw [← hR]; rfl
  have en : R' 4 (A 0 0 1) = x ∧ R' 5 (A 0 0 1) = y ∧ R' 6 (A 0 0 1) = z ∧ R' 7 (A 0 0 1) = p ∧ R' 8 (A 0 0 1) = q ∧ R' 9 (A 0 0 1) = m := by rw [← hR]; exact lkR_n
  clear hR
  have hG := hI.1.2.2.1
  have hGL : (A 0 0 2).testBit (A 0 0 1) = false := Nat.testBit_lt_two_pow hG
  have hK := hI.2.2.1.2.1
  have hKL : (A 2 0 1).testBit (A 0 0 1) = false := Nat.testBit_lt_two_pow hK
  have h2 : 2 ^ A 0 0 1 ≤ 2 ^ (A 0 0 1 + 1) := Nat.pow_le_pow_right (by omega) (by omega)
  refine ⟨⟨?_, ?_, ?_, ?_, hI.2.2.2.2⟩, ⟨?_, ?_, ?_, ?_, ?_⟩⟩
  · obtain ⟨i1, i2, i3, i4, i5⟩ := hI.1
    refine ⟨?_, ?_, ?_, fun p hp => ?_, fun i hi => ?_⟩
    · show R' 0 0 ≤ 6
      rw [o _ _ (by omega) (by omega)]
      exact i1
    · show R' 0 1 ≤ 14
      omega
    · show R' 0 2 < 2 ^ R' 0 1
      rw [o _ _ (by omega) (by omega), eL]
      omega
    · have hp : p < R' 0 0 := hp
      rw [o _ _ (by omega) (by omega)] at hp
      show (1 ≤ R' 1 p ∧ R' 1 p ≤ 99999) ∧ (1 ≤ R' 2 p ∧ R' 2 p ≤ 99999) ∧ (1 ≤ R' 3 p ∧ R' 3 p ≤ 99999)
      rw [o 1 _ (by omega) (by omega), o 2 _ (by omega) (by omega), o 3 _ (by omega) (by omega)]
      exact i4 p hp
    · have hi : i < R' 0 1 := hi
      show (1 ≤ R' 4 i ∧ R' 4 i ≤ 999) ∧ R' 5 i ≤ 1 ∧ R' 6 i ≤ 19 ∧ R' 7 i < R' 0 0 ∧ R' 8 i ≤ 2 ∧ R' 9 i ≤ i ∧ (R' 9 i ≠ 0 → R' 7 i = R' 7 (R' 9 i - 1) ∧ R' 8 i = R' 8 (R' 9 i - 1) ∧ ((R' 0 2).testBit (R' 9 i - 1) = true → (R' 0 2).testBit i = true))
      rw [o 0 0 (by omega) (by omega), o 0 2 (by omega) (by omega)]
      by_cases e : i = A 0 0 1
      · subst e
        obtain ⟨e4, e5, e6, e7, e8, e9⟩ := en
        rw [e4, e5, e6, e7, e8, e9]
        refine ⟨hx, hy, hz, hp, hq, hm, fun q0 => ?_⟩
        obtain ⟨a1, a2, a3⟩ := hm0 q0
        rw [o 7 _ (by omega) (by omega), o 8 _ (by omega) (by omega)]
        exact ⟨a1, a2, fun t => by rw [a3] at t; cases t⟩
      · obtain ⟨a1, a2, a3, a4, a5, a6, a7⟩ := i5 i (by omega)
        rw [o 4 i (by omega) (by omega), o 5 i (by omega) (by omega), o 6 i (by omega) (by omega), o 7 i (by omega) (by omega), o 8 i (by omega) (by omega), o 9 i (by omega) (by omega)]
        refine ⟨a1, a2, a3, a4, a5, a6, fun q0 => ?_⟩
        rw [o 7 _ (by omega) (by omega), o 8 _ (by omega) (by omega)]
        exact a7 q0
  · show SightI (R' 0 0) (A 1)
    rw [o _ _ (by omega) (by omega)]
    exact hI.2.1
  · show NamesI (R' 0 1) (A 2)
    rw [eL]
    obtain ⟨n1, n2, n3⟩ := hI.2.2.1
    exact ⟨n1, by omega, n3⟩
  · show NightI (R' 0 0) (A 3)
    rw [o _ _ (by omega) (by omega)]
    exact hI.2.2.2.1
  · obtain ⟨c1, c2, c3, c4, c5⟩ := hC.1
    refine ⟨?_, ?_, ?_, fun p hp => ?_, fun i hi => ?_⟩
    · show w'.1 2 0 = nI (R' 0 0)
      rw [o _ _ (by omega) (by omega), fr _ _ (by omega)]
      exact c1
    · show w'.1 2 4 = nI (R' 0 1)
      rw [eL]
      exact c0
    · show w'.1 2 5 = nI (R' 0 2)
      rw [o _ _ (by omega) (by omega), fr _ _ (by omega)]
      exact c3
    · have hp : p < R' 0 0 := hp
      rw [o _ _ (by omega) (by omega)] at hp
      show w'.1 3 p = nI (R' 1 p) ∧ w'.1 4 p = nI (R' 2 p) ∧ w'.1 5 p = nI (R' 3 p)
      rw [fr _ _ (by omega), fr _ _ (by omega), fr _ _ (by omega), o 1 _ (by omega) (by omega), o 2 _ (by omega) (by omega), o 3 _ (by omega) (by omega)]
      exact c4 p hp
    · have hi : i < R' 0 1 := hi
      show w'.1 6 i = nI (R' 4 i) ∧ w'.1 7 i = nI (R' 5 i) ∧ w'.1 8 i = nI (R' 6 i) ∧ w'.1 9 i = nI (R' 7 i) ∧ w'.1 10 i = nI (R' 8 i) ∧ w'.1 11 i = hol (R' 9 i)
      by_cases e : i = A 0 0 1
      · subst e
        obtain ⟨e4, e5, e6, e7, e8, e9⟩ := en
        rw [e4, e5, e6, e7, e8, e9]
        exact cn
      · rw [fr 6 i (by omega), fr 7 i (by omega), fr 8 i (by omega), fr 9 i (by omega), fr 10 i (by omega), fr 11 i (by omega), o 4 i (by omega) (by omega), o 5 i (by omega) (by omega), o 6 i (by omega) (by omega), o 7 i (by omega) (by omega), o 8 i (by omega) (by omega), o 9 i (by omega) (by omega)]
        exact c5 i (by omega)
  · exact fr_SC (fun a j q => fr a j (by unfold cSC at q; omega)) hC.2.1
  · exact fr_NC (fun a j q => fr a j (by unfold cNC at q; omega)) (fun a j _ => by rw [fl]) hC.2.2.1
  · exact fr_NiC (fun a j q => fr a j (by unfold cNiC at q; omega)) hC.2.2.2.1
  · exact fr_GC (fun a j q => fr a j (by unfold cGC at q; omega)) hC.2.2.2.2
theorem K_person {A : AST} {w w' : ZW} {k : Nat} {f : Nat → Nat} (hI : StI A) (hC : StC A w.1 w.2) (hq : A 2 0 0 < 8) (hk : 1 ≤ k ∧ k ≤ 6) (hf : ∀ m, m < k → 65 ≤ f m ∧ f m ≤ 90) (fr : ∀ a j, ¬ ((a = 16 ∧ j = 0)) → w'.1 a j = w.1 a j) (fl : ∀ a j, ¬ (a = 17 ∧ j = A 2 0 0) → w'.2 a j = w.2 a j)
    (c1 : w'.1 16 0 = nI (A 2 0 0 + 1)) (c2 : w'.2 17 (A 2 0 0) = lN (pack f k)) : StI (aup A 2 (psR (A 2) (A 2 0 0) k f)) ∧ StC (aup A 2 (psR (A 2) (A 2 0 0) k f)) w'.1 w'.2 := by
  obtain ⟨i1, i2, i3, i4, i5⟩ := hI.2.2.1
  obtain ⟨d1, d2, d3, d4⟩ := hC.2.2.1
  generalize hS' : psR (A 2) (A 2 0 0) k f = S'
  have o : ∀ a j, ¬ ((a = 0 ∧ j = 0) ∨ (a = 1 ∧ j = A 2 0 0) ∨ (a = 2 ∧ 6 * A 2 0 0 ≤ j ∧ j < 6 * A 2 0 0 + k)) → S' a j = A 2 a j := fun a j h => by rw [← hS']; exact psR_o h
  have s0 : S' 0 0 = A 2 0 0 + 1 := by rw [← hS']; rfl
  have s1 : S' 1 (A 2 0 0) = k := by rw [← hS']; unfold psR; simp
  have s2 : ∀ m, m < k → S' 2 (6 * A 2 0 0 + m) = f m := fun m hm => by
    rw [← hS']
    unfold psR
    rw [if_neg (by omega), if_neg (by omega), if_pos ⟨rfl, by omega, by omega⟩]
    congr 1
    omega
  clear hS'
  refine ⟨⟨hI.1, hI.2.1, ?_, hI.2.2.2.1, hI.2.2.2.2⟩, ⟨fr_RC (fun a j q => fr a j (by unfold cRC at q; omega)) hC.1, fr_SC (fun a j q => fr a j (by unfold cSC at q; omega)) hC.2.1, ?_, fr_NiC (fun a j q => fr a j (by unfold cNiC at q; omega)) hC.2.2.2.1, fr_GC (fun a j q => fr a j (by unfold cGC at q; omega)) hC.2.2.2.2⟩⟩
  · show NamesI (A 0 0 1) S'
    refine ⟨by rw [s0]; omega, ?_, ?_, fun p hp => ?_, fun l hl => ?_⟩
    · rw [o 0 1 (by omega)]; exact i2
    · rw [o 0 1 (by omega)]; exact i3
    · rw [s0] at hp
      by_cases e : p = A 2 0 0
      · subst e
        rw [s1]
        exact ⟨hk.1, hk.2, fun m hm => by rw [s2 m hm]; exact hf m hm⟩
      · obtain ⟨b1, b2, b3⟩ := i4 p (by omega)
        rw [o 1 p (by omega)]
        refine ⟨b1, b2, fun m hm => ?_⟩
        rw [o 2 _ (by omega)]
        exact b3 m hm
    · rw [o 0 1 (by omega)] at hl
      rw [o 3 _ (by omega), o 4 _ (by omega)]
      obtain ⟨b1, b2, b3, b4⟩ := i5 l hl
      refine ⟨b1, b2, fun m hm => ?_, fun m hm => ?_⟩
      · rw [o 5 _ (by omega)]; exact b3 m hm
      · rw [o 5 _ (by omega)]; exact b4 m hm
  · show NamesC S' _ _
    refine ⟨by rw [s0]; exact c1, ?_, fun p hp => ?_, fun l hl => ?_⟩
    · rw [o 0 1 (by omega), fr _ _ (by omega)]; exact d2
    · rw [s0] at hp
      by_cases e : p = A 2 0 0
      · subst e
        rw [s1, c2]
        congr 1
        exact pack_cong k (fun m hm => (s2 m hm).symm)
      · have hb := (i4 p (by omega)).2.1
        rw [o 1 p (by omega), fl _ _ (by omega), d3 p (by omega)]
        congr 1
        exact pack_cong _ (fun m hm => by rw [o 2 _ (by omega)])
    · rw [o 0 1 (by omega)] at hl
      obtain ⟨b1, b2⟩ := d4 l hl
      rw [fl 18 _ (by omega), fl 19 _ (by omega), o 3 _ (by omega), o 4 _ (by omega), b1, b2]
      constructor
      · congr 1
        exact pack_cong _ (fun m hm => by rw [o 5 _ (by omega)])
      · congr 1
        exact pack_cong _ (fun m hm => by rw [o 5 _ (by omega)])
theorem K_letters {A : AST} {w w' : ZW} {l k1 k2 : Nat} {f1 f2 : Nat → Nat} (hI : StI A) (hC : StC A w.1 w.2) (hl : l < A 0 0 1) (hp : pc14 (A 2 0 1 ||| 2 ^ l) ≤ 12) (hk1 : 1 ≤ k1 ∧ k1 ≤ 6) (hk2 : 1 ≤ k2 ∧ k2 ≤ 6) (hf1 : ∀ m, m < k1 → isL true (f1 m) = true) (hf2 : ∀ m, m < k2 → isL true (f2 m) = true)
    (fr : ∀ a j, ¬ ((a = 16 ∧ j = 1)) → w'.1 a j = w.1 a j) (fl : ∀ a j, ¬ (18 ≤ a ∧ a ≤ 19 ∧ j = l) → w'.2 a j = w.2 a j)
    (c1 : w'.1 16 1 = nI (A 2 0 1 ||| 2 ^ l)) (c2 : w'.2 18 l = lN (pack f1 k1)) (c3 : w'.2 19 l = lN (pack f2 k2)) : StI (aup A 2 (ltR (A 2) l k1 k2 f1 f2)) ∧ StC (aup A 2 (ltR (A 2) l k1 k2 f1 f2)) w'.1 w'.2 := by
  obtain ⟨i1, i2, i3, i4, i5⟩ := hI.2.2.1
  obtain ⟨d1, d2, d3, d4⟩ := hC.2.2.1
  generalize hS' : ltR (A 2) l k1 k2 f1 f2 = S'
  have o : ∀ a j, ¬ ((a = 0 ∧ j = 1) ∨ (3 ≤ a ∧ a ≤ 4 ∧ j = l) ∨ (a = 5 ∧ 12 * l ≤ j ∧ j < 12 * l + 12)) → S' a j = A 2 a j := fun a j h => by rw [← hS']; exact ltR_o h
  have s0 : S' 0 1 = A 2 0 1 ||| 2 ^ l := by rw [← hS']; rfl
  have s3 : S' 3 l = k1 := by rw [← hS']; unfold ltR; simp
  have s4 : S' 4 l = k2 := by rw [← hS']; unfold ltR; simp
  have s5 : ∀ m, m < 6 → S' 5 (12 * l + m) = f1 m := fun m hm => by
    rw [← hS']
    unfold ltR
    rw [if_neg (by omega), if_neg (by omega), if_neg (by omega), if_pos ⟨rfl, by omega, by omega⟩]
    congr 1
    omega
  have s6 : ∀ m, m < 6 → S' 5 (12 * l + 6 + m) = f2 m := fun m hm => by
    rw [← hS']
    unfold ltR
    rw [if_neg (by omega), if_neg (by omega), if_neg (by omega), if_neg (by omega), if_pos ⟨rfl, by omega, by omega⟩]
    congr 1
    omega
  clear hS'
  have tb : ∀ i, i ≠ l → (A 2 0 1 ||| 2 ^ l).testBit i = (A 2 0 1).testBit i := fun i hi => by
    rw [Nat.testBit_or, Nat.testBit_two_pow]
    simp [show ¬ l = i by omega]
  have tl : (A 2 0 1 ||| 2 ^ l).testBit l = true := by
    rw [Nat.testBit_or, Nat.testBit_two_pow_self]
    simp
  refine ⟨⟨hI.1, hI.2.1, ?_, hI.2.2.2.1, hI.2.2.2.2⟩, ⟨fr_RC (fun a j q => fr a j (by unfold cRC at q; omega)) hC.1, fr_SC (fun a j q => fr a j (by unfold cSC at q; omega)) hC.2.1, ?_, fr_NiC (fun a j q => fr a j (by unfold cNiC at q; omega)) hC.2.2.2.1, fr_GC (fun a j q => fr a j (by unfold cGC at q; omega)) hC.2.2.2.2⟩⟩
  · show NamesI (A 0 0 1) S'
    refine ⟨by rw [o 0 0 (by omega)]; exact i1, ?_, ?_, fun p hp => ?_, fun i hi => ?_⟩
    · rw [s0]; exact or_pow_lt i2 hl
    · rw [s0]; exact hp
    · rw [o 0 0 (by omega)] at hp
      rw [o 1 p (by omega)]
      obtain ⟨b1, b2, b3⟩ := i4 p hp
      refine ⟨b1, b2, fun m hm => ?_⟩
      rw [o 2 _ (by omega)]
      exact b3 m hm
    · rw [s0] at hi
      by_cases e : i = l
      · subst e
        rw [s3, s4]
        refine ⟨hk1, hk2, fun m hm => ?_, fun m hm => ?_⟩
        · rw [s5 m (by omega)]; exact isL_ok (hf1 m hm)
        · rw [s6 m (by omega)]; exact isL_ok (hf2 m hm)
      · rw [tb i e] at hi
        obtain ⟨b1, b2, b3, b4⟩ := i5 i hi
        rw [o 3 i (by omega), o 4 i (by omega)]
        refine ⟨b1, b2, fun m hm => ?_, fun m hm => ?_⟩
        · rw [o 5 _ (by omega)]; exact b3 m hm
        · rw [o 5 _ (by omega)]; exact b4 m hm
  · show NamesC S' _ _
    refine ⟨by rw [o 0 0 (by omega), fr _ _ (by omega)]; exact d1, by rw [s0]; exact c1, fun p hp => ?_, fun i hi => ?_⟩
    · rw [o 0 0 (by omega)] at hp
      rw [o 1 p (by omega), fl _ _ (by omega), d3 p hp]
      congr 1
      exact pack_cong _ (fun m hm => by rw [o 2 _ (by omega)])
    · rw [s0] at hi
      by_cases e : i = l
      · subst e
        rw [s3, s4, c2, c3]
        constructor
        · congr 1
          exact pack_cong _ (fun m hm => (s5 m (by omega)).symm)
        · congr 1
          exact pack_cong _ (fun m hm => (s6 m (by omega)).symm)
      · rw [tb i e] at hi
        obtain ⟨b1, b2⟩ := d4 i hi
        obtain ⟨x1, x2, -⟩ := i5 i hi
        rw [fl 18 i (by omega), fl 19 i (by omega), o 3 i (by omega), o 4 i (by omega), b1, b2]
        constructor
        · congr 1
          exact pack_cong _ (fun m hm => by rw [o 5 _ (by omega)])
        · congr 1
          exact pack_cong _ (fun m hm => by rw [o 5 _ (by omega)])
theorem K_panel {A : AST} {w : ZW} {P x y z : Nat} (hI : StI A) (hC : StC A w.1 w.2) (hP0 : A 0 0 0 = P) (q : P < 6) (x1 : 1 ≤ x) (x2 : x ≤ 99999) (y1 : 1 ≤ y) (y2 : y ≤ 99999) (z1 : 1 ≤ z) (z2 : z ≤ 99999) : f_X11_panel w (nI x) (nI y) (nI z) = some (nI P, panC w P x y z) ∧ (StI (aup A 0 (panR (A 0) P x y z)) ∧ StC (aup A 0 (panR (A 0) P x y z)) (panC w P x y z).1 (panC w P x y z).2) ∧ ∀ a j, ¬ (a = 3 ∨ a = 4 ∨ a = 5 ∨ (a = 2 ∧ j = 0)) → (panC w P x y z).1 a j = w.1 a j := by
  have hP := hI.1.1
  have g : (rg 1 99999 (nI x) && rg 1 99999 (nI y) && rg 1 99999 (nI z)) = true := by
    rw [rg_nI (by decide) (by decide) (by omega), rg_nI (by decide) (by decide) (by omega), rg_nI (by decide) (by decide) (by omega)]
    simp [x1, x2, y1, y2, z1, z2]
  have fr : ∀ a j, ¬ (a = 3 ∨ a = 4 ∨ a = 5 ∨ (a = 2 ∧ j = 0)) → (panC w P x y z).1 a j = w.1 a j := by
    intro a j q
    unfold panC
    rw [upc (by omega), upc (by omega), upc (by omega), upc (by omega)]
  refine ⟨?_, ?_, fr⟩
  · rw [X11_panel_eq, if_pos g, add_eq hC.1.1 hP, hP0, if_pos q]
  subst hP0
  generalize hP0 : A 0 0 0 = P at *
  refine ⟨⟨?_, ?_, ?_, ?_, hI.2.2.2.2⟩, ⟨?_, ?_, ?_, ?_, ?_⟩⟩
  · obtain ⟨-, i2, i3, i4, i5⟩ := hI.1
    refine ⟨?_, ?_, ?_, fun p hp => ?_, fun i hi => ?_⟩
    · show panR (A 0) P x y z 0 0 ≤ 6
      unfold panR
      rw [sup_e]
      omega
    · show panR (A 0) P x y z 0 1 ≤ 14
      rw [panR_o (by omega)]
      exact i2
    · show panR (A 0) P x y z 0 2 < 2 ^ panR (A 0) P x y z 0 1
      rw [panR_o (by omega), panR_o (by omega)]
      exact i3
    · have hp : p < P + 1 := hp
      show (1 ≤ panR (A 0) P x y z 1 p ∧ panR (A 0) P x y z 1 p ≤ 99999) ∧ (1 ≤ panR (A 0) P x y z 2 p ∧ panR (A 0) P x y z 2 p ≤ 99999) ∧ (1 ≤ panR (A 0) P x y z 3 p ∧ panR (A 0) P x y z 3 p ≤ 99999)
      rw [panR_1, panR_2, panR_3]
      by_cases e : p = P
      · rw [if_pos e, if_pos e, if_pos e]
        exact ⟨⟨x1, x2⟩, ⟨y1, y2⟩, ⟨z1, z2⟩⟩
      · rw [if_neg e, if_neg e, if_neg e]
        exact i4 p (by omega)
    · have hi : i < panR (A 0) P x y z 0 1 := hi
      rw [panR_o (by omega)] at hi
      have := i5 i hi
      show (1 ≤ panR (A 0) P x y z 4 i ∧ panR (A 0) P x y z 4 i ≤ 999) ∧ panR (A 0) P x y z 5 i ≤ 1 ∧ panR (A 0) P x y z 6 i ≤ 19 ∧ panR (A 0) P x y z 7 i < P + 1 ∧ panR (A 0) P x y z 8 i ≤ 2 ∧ panR (A 0) P x y z 9 i ≤ i ∧ (panR (A 0) P x y z 9 i ≠ 0 → panR (A 0) P x y z 7 i = panR (A 0) P x y z 7 (panR (A 0) P x y z 9 i - 1) ∧ panR (A 0) P x y z 8 i = panR (A 0) P x y z 8 (panR (A 0) P x y z 9 i - 1) ∧ ((panR (A 0) P x y z 0 2).testBit (panR (A 0) P x y z 9 i - 1) = true → (panR (A 0) P x y z 0 2).testBit i = true))
      simp only [fun j => panR_o (R := A 0) (P := P) (x := x) (y := y) (z := z) (j := j) (show 3 < 4 ∨ _ from Or.inl (by omega)), fun j => panR_o (R := A 0) (P := P) (x := x) (y := y) (z := z) (j := j) (show 3 < 5 ∨ _ from Or.inl (by omega)), fun j => panR_o (R := A 0) (P := P) (x := x) (y := y) (z := z) (j := j) (show 3 < 6 ∨ _ from Or.inl (by omega)), fun j => panR_o (R := A 0) (P := P) (x := x) (y := y) (z := z) (j := j) (show 3 < 7 ∨ _ from Or.inl (by omega)), fun j => panR_o (R := A 0) (P := P) (x := x) (y := y) (z := z) (j := j) (show 3 < 8 ∨ _ from Or.inl (by omega)), fun j => panR_o (R := A 0) (P := P) (x := x) (y := y) (z := z) (j := j) (show 3 < 9 ∨ _ from Or.inl (by omega)), panR_o (R := A 0) (P := P) (x := x) (y := y) (z := z) (show 3 < 0 ∨ (0 = 0 ∧ 2 ≠ 0) from Or.inr ⟨rfl, by omega⟩)]
      obtain ⟨a1, a2, a3, a4, a5, a6, a7⟩ := this
      exact ⟨a1, a2, a3, by omega, a5, a6, a7⟩
  · obtain ⟨b1, b2⟩ := hI.2.1
    refine ⟨b1, fun k hk => ?_⟩
    obtain ⟨b3, b4, b5⟩ := b2 k hk
    exact ⟨show A 1 1 k < P + 1 by omega, b4, b5⟩
  · have e : panR (A 0) P x y z 0 1 = A 0 0 1 := panR_o (by omega)
    show NamesI (panR (A 0) P x y z 0 1) (A 2)
    rw [e]
    exact hI.2.2.1
  · obtain ⟨b1, b2⟩ := hI.2.2.2.1
    refine ⟨b1, fun p hp => ?_⟩
    obtain ⟨b3, b4, b5, b6⟩ := b2 p hp
    exact ⟨b3, b4, b5, fun q => b6 (by have q : P + 1 ≤ p := q; omega)⟩
  · obtain ⟨c1, c2, c3, c4, c5⟩ := hC.1
    have w0 : (panC w P x y z).1 2 0 = nI (P + 1) := by simp [panC, z_upI]
    refine ⟨w0, ?_, ?_, fun p hp => ?_, fun i hi => ?_⟩
    · exact (fr 2 4 (by omega)).trans (c2.trans (by show _ = nI (panR (A 0) P x y z 0 1); rw [panR_o (by omega)]))
    · exact (fr 2 5 (by omega)).trans (c3.trans (by show _ = nI (panR (A 0) P x y z 0 2); rw [panR_o (by omega)]))
    · have hp : p < P + 1 := hp
      show (panC w P x y z).1 3 p = nI (panR (A 0) P x y z 1 p) ∧ (panC w P x y z).1 4 p = nI (panR (A 0) P x y z 2 p) ∧ (panC w P x y z).1 5 p = nI (panR (A 0) P x y z 3 p)
      rw [panR_1, panR_2, panR_3]
      by_cases e : p = P
      · subst e
        simp [panC, z_upI]
      · have := c4 p (by omega)
        simp [panC, z_upI, e, this]
    · have hi : i < panR (A 0) P x y z 0 1 := hi
      rw [panR_o (by omega)] at hi
      have := c5 i hi
      show (panC w P x y z).1 6 i = nI (panR (A 0) P x y z 4 i) ∧ (panC w P x y z).1 7 i = nI (panR (A 0) P x y z 5 i) ∧ (panC w P x y z).1 8 i = nI (panR (A 0) P x y z 6 i) ∧ (panC w P x y z).1 9 i = nI (panR (A 0) P x y z 7 i) ∧ (panC w P x y z).1 10 i = nI (panR (A 0) P x y z 8 i) ∧ (panC w P x y z).1 11 i = hol (panR (A 0) P x y z 9 i)
      rw [fr _ _ (by omega), fr _ _ (by omega), fr _ _ (by omega), fr _ _ (by omega), fr _ _ (by omega), fr _ _ (by omega), panR_o (by omega), panR_o (by omega), panR_o (by omega), panR_o (by omega), panR_o (by omega), panR_o (by omega)]
      exact this
  · exact fr_SC (fun a j q => fr a j (by unfold cSC at q; omega)) hC.2.1
  · exact fr_NC (fun a j q => fr a j (by unfold cNC at q; omega)) (fun a j _ => rfl) hC.2.2.1
  · exact fr_NiC (fun a j q => fr a j (by unfold cNiC at q; omega)) hC.2.2.2.1
  · exact fr_GC (fun a j q => fr a j (by unfold cGC at q; omega)) hC.2.2.2.2
