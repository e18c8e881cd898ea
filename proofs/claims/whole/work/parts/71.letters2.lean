/-! letters: what is kept -/
theorem nI_xor (a b : Nat) : nI a ^^^ nI b = nI (a ^^^ b) := by
  apply Int32.toBitVec_inj.mp
  rw [Int32.toBitVec_xor, nI_bv, nI_bv, nI_bv]
  apply BitVec.eq_of_toNat_eq
  rw [BitVec.toNat_xor, BitVec.toNat_ofNat, BitVec.toNat_ofNat, BitVec.toNat_ofNat, Nat.xor_mod_two_pow]
def clrb (b l : Nat) : Nat := b &&& (2 ^ l ^^^ (2 ^ 32 - 1))
theorem clrb_bit {b l i : Nat} (hb : b < 2 ^ 14) : (clrb b l).testBit i = (b.testBit i && !(decide (l = i))) := by
  unfold clrb
  rw [Nat.testBit_and, Nat.testBit_xor, Nat.testBit_two_pow, Nat.testBit_two_pow_sub_one]
  by_cases h : i < 32
  · rw [decide_eq_true h, Bool.xor_true]
  · rw [Nat.testBit_lt_two_pow (Nat.lt_of_lt_of_le hb (Nat.pow_le_pow_right (by omega) (by omega)))]
    rfl
theorem clrb_lt {b l : Nat} (hb : b < 2 ^ 14) : clrb b l < 2 ^ 14 := Nat.lt_of_le_of_lt Nat.and_le_left hb
theorem pc_one : ∀ l, l < 14 → pc14 (2 ^ l) = 1 := by decide +kernel
theorem pc_clr {b l : Nat} (hb : b < 2 ^ 14) (hl : l < 14) : pc14 (clrb b l) + (if b.testBit l = true then 1 else 0) = pc14 b := by
  by_cases q : b.testBit l = true
  · rw [if_pos q]
    have e : b = clrb b l ||| 2 ^ l := by
      apply Nat.eq_of_testBit_eq
      intro i
      rw [Nat.testBit_or, clrb_bit hb, Nat.testBit_two_pow]
      by_cases e : l = i
      · subst e; simp [q]
      · simp [e]
    have := pc_disj (a := clrb b l) (b := 2 ^ l) (fun i h => by
      rw [clrb_bit hb] at h
      rw [Nat.testBit_two_pow]
      simp only [Bool.and_eq_true, Bool.not_eq_true', decide_eq_false_iff_not] at h
      simp [h.2])
    rw [← e, pc_one l hl] at this
    omega
  · rw [if_neg q]
    simp only [Bool.not_eq_true] at q
    have e : clrb b l = b := by
      apply Nat.eq_of_testBit_eq
      intro i
      rw [clrb_bit hb]
      by_cases e : l = i
      · subst e; simp [q]
      · simp [e]
    rw [e]
    omega
theorem pc_set {b l : Nat} (hl : l < 14) : pc14 (b ||| 2 ^ l) = pc14 b + (if b.testBit l = true then 0 else 1) := by
  by_cases q : b.testBit l = true
  · rw [if_pos q]
    have e : b ||| 2 ^ l = b := by
      apply Nat.eq_of_testBit_eq
      intro i
      rw [Nat.testBit_or, Nat.testBit_two_pow]
      by_cases e : l = i
      · subst e; simp [q]
      · simp [e]
    rw [e]
    omega
  · rw [if_neg q, pc_disj, pc_one l hl]
    intro i h
    rw [Nat.testBit_two_pow]
    by_cases e : l = i
    · subst e; exact absurd h q
    · simp [e]
theorem put_eq {w : ZW} {b l : Nat} (h : w.1 16 1 = nI b) (hb : b < 2 ^ 14) (hl : l < 14) (x y : Int64) : f_X2_putLetters w (nI l) x y = if pc14 (clrb b l) < 12 then some (1, z_upJ (z_upJ (z_upI w 16 1 (nI (b ||| 2 ^ l))) 18 l x) 19 l y) else some (0, w) := by
  have hc : pc14 (clrb b l) ≤ 14 := pcf_le 14 (clrb b l)
  unfold f_X2_putLetters
  rw [h, nI_shl1 (by omega), show (-1 : Int32) = nI (2 ^ 32 - 1) from rfl, nI_xor, nI_and, show b &&& (2 ^ l ^^^ (2 ^ 32 - 1)) = clrb b l from rfl, bitCount_eq (clrb_lt hb)]
  simp only [Option.bind_some]
  rw [show (12 : Int32) = nI 12 from rfl, ilt (by omega) (by omega), z_in_t hl (by omega), nI_or, nI_clamp (show l < 2 ^ 31 by omega)]
  simp only [z_let, if_true]
def ltR (S : ST) (l k1 k2 : Nat) (f1 f2 : Nat → Nat) : ST := fun a j => if a = 0 ∧ j = 1 then S 0 1 ||| 2 ^ l else if a = 3 ∧ j = l then k1 else if a = 4 ∧ j = l then k2 else if a = 5 ∧ 12 * l ≤ j ∧ j < 12 * l + 6 then f1 (j - 12 * l) else if a = 5 ∧ 12 * l + 6 ≤ j ∧ j < 12 * l + 12 then f2 (j - (12 * l + 6)) else S a j
theorem ltR_o {S : ST} {l k1 k2 a j : Nat} {f1 f2 : Nat → Nat} (h : ¬ ((a = 0 ∧ j = 1) ∨ (3 ≤ a ∧ a ≤ 4 ∧ j = l) ∨ (a = 5 ∧ 12 * l ≤ j ∧ j < 12 * l + 12))) : ltR S l k1 k2 f1 f2 a j = S a j := by
  unfold ltR
  rw [if_neg (by omega), if_neg (by omega), if_neg (by omega), if_neg (by omega), if_neg (by omega)]
theorem isL_ok {c : Nat} (h : isL true c = true) : c = 63 ∨ (65 ≤ c ∧ c ≤ 90) := by
  unfold isL at h
  simp only [Bool.or_eq_true, Bool.and_eq_true, decide_eq_true_eq] at h
  omega
theorem Rel_letters {A : AST} {w w' : ZW} {l k1 k2 : Nat} {f1 f2 : Nat → Nat} (hA : RelA A w) (hl : l < A 0 0 1) (hp : pc14 (A 2 0 1 ||| 2 ^ l) ≤ 12) (hk1 : 1 ≤ k1 ∧ k1 ≤ 6) (hk2 : 1 ≤ k2 ∧ k2 ≤ 6) (hf1 : ∀ m, m < k1 → isL true (f1 m) = true) (hf2 : ∀ m, m < k2 → isL true (f2 m) = true)
    (fr : ∀ a j, ¬ ((a = 16 ∧ j = 1) ∨ (a = 143 ∧ 12 * l ≤ j ∧ j < 12 * l + 12) ∨ (144 ≤ a ∧ a ≤ 145 ∧ j = l)) → w'.1 a j = w.1 a j) (fl : ∀ a j, ¬ (18 ≤ a ∧ a ≤ 19 ∧ j = l) → w'.2 a j = w.2 a j)
    (c1 : w'.1 16 1 = nI (A 2 0 1 ||| 2 ^ l)) (c2 : w'.2 18 l = lN (pack f1 k1)) (c3 : w'.2 19 l = lN (pack f2 k2)) (m1 : w'.1 144 l = nI k1) (m2 : w'.1 145 l = nI k2) (m3 : ∀ m, m < k1 → w'.1 143 (12 * l + m) = nI (f1 m)) (m4 : ∀ m, m < k2 → w'.1 143 (12 * l + 6 + m) = nI (f2 m)) : Rel w' := by
  obtain ⟨hI, hC, hM, hT, hS, hIm⟩ := hA
  obtain ⟨i1, i2, i3, i4, i5⟩ := hI.2.2.1
  obtain ⟨d1, d2, d3, d4⟩ := hC.2.2.1
  obtain ⟨e1, e2, e3, e4⟩ := hM.2.2.1
  generalize hS' : ltR (A 2) l k1 k2 f1 f2 = S'
  have o : ∀ a j, ¬ ((a = 0 ∧ j = 1) ∨ (3 ≤ a ∧ a ≤ 4 ∧ j = l) ∨ (a = 5 ∧ 12 * l ≤ j ∧ j < 12 * l + 12)) → S' a j = A 2 a j := fun a j h => by rw [← hS']; exact ltR_o h
  have s0 : S' 0 1 = A 2 0 1 ||| 2 ^ l := by rw [← hS']; rfl
  have s3 : S' 3 l = k1 := by rw [← hS']; unfold ltR; simp
  have s4 : S' 4 l = k2 := by rw [← hS']; unfold ltR; simp
  have s5 : ∀ m, m < 6 → S' 5 (12 * l + m) = f1 m := fun m hm => by
    rw [← hS']
    unfold ltR
    rw [if_neg (by omega), if_neg (by omega), if_neg (by omega), if_pos ⟨rfl, by omega, by omega⟩]
    congr 1
    omega
  have s6 : ∀ m, m < 6 → S' 5 (12 * l + 6 + m) = f2 m := fun m hm => by
    rw [← hS']
    unfold ltR
    rw [if_neg (by omega), if_neg (by omega), if_neg (by omega), if_neg (by omega), if_pos ⟨rfl, by omega, by omega⟩]
    congr 1
    omega
  clear hS'
  have tb : ∀ i, i ≠ l → (A 2 0 1 ||| 2 ^ l).testBit i = (A 2 0 1).testBit i := fun i hi => by
    rw [Nat.testBit_or, Nat.testBit_two_pow]
    simp [show ¬ l = i by omega]
  have tl : (A 2 0 1 ||| 2 ^ l).testBit l = true := by
    rw [Nat.testBit_or, Nat.testBit_two_pow_self]
    simp
  refine ⟨aup A 2 S', ⟨hI.1, hI.2.1, ?_, hI.2.2.2.1, hI.2.2.2.2⟩, ⟨fr_RC (fun a j q => fr a j (by unfold cRC at q; omega)) hC.1, fr_SC (fun a j q => fr a j (by unfold cSC at q; omega)) hC.2.1, ?_, fr_NiC (fun a j q => fr a j (by unfold cNiC at q; omega)) hC.2.2.2.1, fr_GC (fun a j q => fr a j (by unfold cGC at q; omega)) hC.2.2.2.2⟩, ⟨fr_RM (fun a j q => fr a j (by unfold cRM at q; omega)) hM.1, fr_SM (fun a j q => fr a j (by unfold cSM at q; omega)) hM.2.1, ?_, fr_NiM (fun a j q => fr a j (by unfold cNiM at q; omega)) hM.2.2.2.1, fr_GM (fun a j q => fr a j (by unfold cGM at q; omega)) hM.2.2.2.2⟩, fr_T (fun a j q => fr a j (by unfold cT at q; omega)) hT, fr_Sh (fun a j q => fr a j (by unfold cSh at q; omega)) hS, fr_Im (fun a j q => fr a j (by unfold cIm at q; omega)) (fun a j q => fl a j (by unfold cLi at q; omega)) hIm⟩
  · show NamesI (A 0 0 1) S'
    refine ⟨by rw [o 0 0 (by omega)]; exact i1, ?_, ?_, fun p hp => ?_, fun i hi => ?_⟩
    · rw [s0]; exact or_pow_lt i2 hl
    · rw [s0]; exact hp
    · rw [o 0 0 (by omega)] at hp
      rw [o 1 p (by omega)]
      obtain ⟨b1, b2, b3⟩ := i4 p hp
      refine ⟨b1, b2, fun m hm => ?_⟩
      rw [o 2 _ (by omega)]
      exact b3 m hm
    · rw [s0] at hi
      by_cases e : i = l
      · subst e
        rw [s3, s4]
        refine ⟨hk1, hk2, fun m hm => ?_, fun m hm => ?_⟩
        · rw [s5 m (by omega)]; exact isL_ok (hf1 m hm)
        · rw [s6 m (by omega)]; exact isL_ok (hf2 m hm)
      · rw [tb i e] at hi
        obtain ⟨b1, b2, b3, b4⟩ := i5 i hi
        rw [o 3 i (by omega), o 4 i (by omega)]
        refine ⟨b1, b2, fun m hm => ?_, fun m hm => ?_⟩
        · rw [o 5 _ (by omega)]; exact b3 m hm
        · rw [o 5 _ (by omega)]; exact b4 m hm
  · show NamesC S' _ _
    refine ⟨by rw [o 0 0 (by omega), fr _ _ (by omega)]; exact d1, by rw [s0]; exact c1, fun p hp => ?_, fun i hi => ?_⟩
    · rw [o 0 0 (by omega)] at hp
      rw [o 1 p (by omega), fl _ _ (by omega), d3 p hp]
      congr 1
      exact pack_cong _ (fun m hm => by rw [o 2 _ (by omega)])
    · rw [s0] at hi
      by_cases e : i = l
      · subst e
        rw [s3, s4, c2, c3]
        constructor
        · congr 1
          exact pack_cong _ (fun m hm => (s5 m (by omega)).symm)
        · congr 1
          exact pack_cong _ (fun m hm => (s6 m (by omega)).symm)
      · rw [tb i e] at hi
        obtain ⟨b1, b2⟩ := d4 i hi
        obtain ⟨x1, x2, -⟩ := i5 i hi
        rw [fl 18 i (by omega), fl 19 i (by omega), o 3 i (by omega), o 4 i (by omega), b1, b2]
        constructor
        · congr 1
          exact pack_cong _ (fun m hm => by rw [o 5 _ (by omega)])
        · congr 1
          exact pack_cong _ (fun m hm => by rw [o 5 _ (by omega)])
  · show NamesM (A 0 0 1) S' _
    refine ⟨by rw [o 0 0 (by omega), fr _ _ (by omega)]; exact e1, fun p hp => ?_, fun i hi => ?_, fun i hi => ?_⟩
    · rw [o 0 0 (by omega)] at hp
      rw [o 1 p (by omega), fr _ _ (by omega)]
      refine ⟨(e2 p hp).1, fun m hm => ?_⟩
      rw [o 2 _ (by omega), fr _ _ (by omega)]
      exact (e2 p hp).2 m hm
    · rw [s0]
      by_cases e : i = l
      · subst e
        rw [tl, s3]
        exact m1
      · rw [tb i e, o 3 i (by omega), fr _ _ (by omega)]
        exact e3 i hi
    · rw [s0] at hi
      by_cases e : i = l
      · subst e
        rw [s3, s4]
        refine ⟨m2, fun m hm => ?_, fun m hm => ?_⟩
        · rw [s5 m (by omega)]; exact m3 m hm
        · rw [s6 m (by omega)]; exact m4 m hm
      · rw [tb i e] at hi
        obtain ⟨x1, x2, -⟩ := i5 i hi
        rw [o 3 i (by omega), o 4 i (by omega), fr _ _ (by omega)]
        refine ⟨(e4 i hi).1, fun m hm => ?_, fun m hm => ?_⟩
        · rw [o 5 _ (by omega), fr _ _ (by omega)]; exact (e4 i hi).2.1 m hm
        · rw [o 5 _ (by omega), fr _ _ (by omega)]; exact (e4 i hi).2.2 m hm
theorem l146_eq {w : ZW} {l k1 k2 : Nat} (hl : l < 14) : f_X12_letters_J146 (nI l) (nI k1) (nI k2) w = some (nI (k1 + k2), z_upI (z_upI (fillo w 143 (12 * l) 12 (fun m => w.1 146 m)) 144 l (nI k1)) 145 l (nI k2)) := by
  unfold f_X12_letters_J146
  have lp : z_iter (f_X12_letters_L149 (nI l)) z_fuel ((0 : Int32), w) = some (fillo w 143 (12 * l) 12 (fun m => w.1 146 m)) := by
    rw [show ((0 : Int32), w) = (nI 0, fillo w 143 (12 * l) 0 (fun m => w.1 146 m)) by rw [fillo_0]; rfl]
    refine it_count (fun i => (nI i, fillo w 143 (12 * l) i (fun m => w.1 146 m))) 12 _ (fun i hi => ?_) ?_ (zf (by omega))
    · unfold f_X12_letters_L149
      simp only []
      rw [if_neg (show ¬ (12 : Int32) ≤ nI i from nnle (a := 12) hi), z_in_t (show i < 12 by omega) (by omega), if_pos rfl, show (12 : Int32) = nI 12 from rfl, pk_mul, nI_add, z_in_t (show 12 * l + i < 168 by omega) (by omega), if_pos rfl, nI_clamp (show i < 2 ^ 31 by omega), nI_clamp (show 12 * l + i < 2 ^ 31 by omega), fillo_out (by omega), nI_1]
      simp only [z_let]
      have := fillo_s w 143 (12 * l) i (fun m => w.1 146 m)
      rw [this]
    · unfold f_X12_letters_L149
      simp only []
      rw [if_pos (show (12 : Int32) ≤ nI 12 from Int32.le_refl _)]
  rw [lp]
  simp only [Option.bind_some]
  rw [z_in_t hl (by omega), if_pos rfl, nI_clamp (show l < 2 ^ 31 by omega), nI_add]
  simp only [z_let, if_true]
theorem letters_cls (w : ZW) (a : Int32) (h : f_X4_hasLock w a = some 1) : f_X11_letters w a = (f_X10_readPair w).bind fun r2 : Int32 × ZW => if 0 ≤ r2.1 then (f_X2_putLetters (z_upI r2.2 120 0 0) a (r2.2.2 120 1) (r2.2.2 120 2)).bind (fun r4 : Int32 × ZW => if r4.1 = 0 then some (-3, r4.2) else some (r2.1, r4.2)) else some (r2.1, z_upI r2.2 120 0 0) := by
  unfold f_X11_letters
  rw [h]
  simp only [Option.bind_some, z_let]
  rw [if_neg i10]
  rfl
theorem l101_eq {w : ZW} {l : Nat} {x y : Int32} (hl : l < 14) : f_X12_letters_J101 (nI l) x y 0 w = if w.1 144 l = 0 then (f_X12_count (z_upI (wrW w 0) 130 13 0) 5).bind (fun r34 : Int32 => if r34 = (12 : Int32) then some (-3, z_upI (wrW w 0) 130 13 0) else f_X12_letters_J146 (nI l) x y (z_upI (wrW w 0) 130 13 0)) else f_X12_letters_J146 (nI l) x y (z_upI (wrW w 0) 130 13 0) := by
  unfold f_X12_letters_J101
  rw [show z_bo 0 = true from rfl, if_pos rfl]
  simp only [z_let]
  rw [upc (by omega), upc_e, if_pos rfl, z_in_t hl (by omega), if_pos rfl, nI_clamp (show l < 2 ^ 31 by omega), upc (by omega), upc (by omega)]
  rfl
theorem lbadA {w w0 : ZW} {x a : Int32} (hl : f_X4_hasLock w a = some 1) (hn : ¬ (0 : Int32) ≤ x) (h1 : f_X10_readPair w = some (x, w0)) : f_X11_letters w a = some (x, z_upI w0 120 0 0) := by
  rw [letters_cls w a hl, h1]
  exact if_neg hn
theorem nfl_tape {A : AST} {w w0 w3 : ZW} (hA : RelA A w) (h2 : w0.1 = w.1) (h3 : ∀ a, a ≠ 120 → w0.2 a = w.2 a) (hz : w3.1 130 13 = 0) (p3 : nfl (z_upI w0 120 0 0) w3) : RelA A w3 := by
  refine Rel_tape hA (fun a j q => ?_) (fun a ha => ?_) ?_ hz
  · rw [p3.1 a j (by omega) (by omega), upc (by omega), h2]
  · rw [p3.2]
    exact h3 a ha
  · rw [p3.1 _ _ (by omega) (by omega), upc_e]
theorem sim_letters {w : ZW} (h : Rel w) (a : Int32) : ∃ r w1 w2, f_X11_letters w a = some (r, w1) ∧ f_X12_letters w1 a = some (r, w2) ∧ Rel w2 := by
  have hR := h
  obtain ⟨A, hA⟩ := h
  obtain ⟨hI, hC, hM, ⟨n, t, hn, ht, t3, t4, t5⟩, hS, hIm⟩ := id hA
  have hL := hI.1.2.1
  by_cases hb : ixb (A 0 0 1) a = true
  · obtain ⟨l, hl, rfl⟩ := ix_t (by omega) hb
    have hl0 : f_X4_hasLock w (nI l) = some 1 := by rw [X4_hasLock_eq hC.1.2.1, if_pos hb]
    obtain ⟨g1, g2⟩ := read1_eq hn ht (w := w) ⟨t3, fun i hi => (t5 i hi).1⟩
    have mdl : ∀ w1 : ZW, (∀ c j, ¬ ((c = 120 ∧ j = 0) ∨ (c = 16 ∧ j = 1)) → w1.1 c j = w.1 c j) → tM n t w1 ∧ f_X12_isLock w1 (nI l) = some 1 := fun w1 hf => ⟨⟨(hf _ _ (by omega)).trans t4, fun i hi => (hf _ _ (by omega)).trans (t5 i hi).2⟩, by
      rw [X12_isLock_eq (L := A 0 0 1) (by omega) ((hf _ _ (by omega)).trans hM.1.2.1), if_pos hb]⟩
    obtain ⟨q1, q2⟩ := pr_ok (n := n) (t := t)
    cases hz : pr n t with
    | inl e =>
      obtain ⟨w0, h1, h2, h3⟩ := g1 e hz
      have hc : ∀ c j, ¬ ((c = 120 ∧ j = 0) ∨ (c = 16 ∧ j = 1)) → (z_upI w0 120 0 0).1 c j = w.1 c j := fun c j q => by rw [upc (by omega), h2]
      obtain ⟨w3, r1, r2, r3⟩ := (letters_mdl hn ht (mdl _ hc).1 (mdl _ hc).2).1 e hz
      have := q1 e hz
      exact ⟨_, _, w3, lbadA hl0 (m20 e (by omega)) h1, r1, A, nfl_tape hA h2 h3 r2 r3⟩
    | inr v =>
      obtain ⟨⟨k1, f1⟩, ⟨k2, f2⟩⟩ := v
      obtain ⟨w0, h1, h2, h3, h4, h5⟩ := g2 k1 f1 k2 f2 hz
      obtain ⟨b1, b2, b3, b4⟩ := q2 k1 f1 k2 f2 hz
      have hB := le14 hL hI.2.2.1.2.1
      have hpc := hI.2.2.1.2.2.1
      have hcl := pc_clr hB (show l < 14 by omega)
      have hst := pc_set (b := A 2 0 1) (show l < 14 by omega)
      have hc : ∀ c j, ¬ (c = 120 ∧ j = 0) → (z_upI w0 120 0 0).1 c j = w.1 c j := fun c j q => by rw [upc q, h2]
      have hp : (z_upI w0 120 0 0).1 16 1 = nI (A 2 0 1) := (hc _ _ (by omega)).trans hC.2.2.1.2.1
      have eC : f_X11_letters w (nI l) = if pc14 (clrb (A 2 0 1) l) < 12 then some (nI (k1 + k2), z_upJ (z_upJ (z_upI (z_upI w0 120 0 0) 16 1 (nI (A 2 0 1 ||| 2 ^ l))) 18 l (lN (pack f1 k1))) 19 l (lN (pack f2 k2))) else some (-3, z_upI w0 120 0 0) := by
        rw [letters_cls w _ hl0, h1]
        simp only [Option.bind_some]
        rw [if_pos (show (0 : Int32) ≤ nI (k1 + k2) from nle (a := 0) (by omega)), put_eq hp hB (by omega), h3, h4]
        by_cases q : pc14 (clrb (A 2 0 1) l) < 12
        · rw [if_pos q, if_pos q]
          rfl
        · rw [if_neg q, if_neg q]
          rfl
      -- the model, from any world with the class's changes
      have mod : ∀ w1 : ZW, (∀ c j, ¬ ((c = 120 ∧ j = 0) ∨ (c = 16 ∧ j = 1)) → w1.1 c j = w.1 c j) → ∃ w3, nfl w1 w3 ∧ (∀ m, m < k1 → w3.1 146 m = nI (f1 m)) ∧ (∀ m, m < k2 → w3.1 146 (6 + m) = nI (f2 m)) ∧ w3.1 130 13 = 0 ∧ f_X12_letters w1 (nI l) = if pc14 (clrb (A 2 0 1) l) < 12 then some (nI (k1 + k2), z_upI (z_upI (fillo w3 143 (12 * l) 12 (fun m => w3.1 146 m)) 144 l (nI k1)) 145 l (nI k2)) else some (-3, w3) := by
        intro w1 hf
        obtain ⟨w3, r1, r2, r3, r4⟩ := (letters_mdl hn ht (mdl _ hf).1 (mdl _ hf).2).2 k1 f1 k2 f2 hz
        have n4 : nfl w1 (z_upI (wrW w3 0) 130 13 0) := ⟨fun c j x1 x2 => by unfold wrW; rw [upc (by omega), upc (by omega)]; exact r4.1 c j x1 x2, r4.2⟩
        refine ⟨z_upI (wrW w3 0) 130 13 0, n4, fun m hm => ?_, fun m hm => ?_, upc_e, ?_⟩
        · unfold wrW; rw [upc (by omega), upc (by omega)]; exact r2 m hm
        · unfold wrW; rw [upc (by omega), upc (by omega)]; exact r3 m hm
        · have e144 : w3.1 144 l = nI (if (A 2 0 1).testBit l = true then A 2 3 l else 0) := by
            rw [r4.1 _ _ (by omega) (by omega), hf _ _ (by omega)]
            exact hM.2.2.1.2.2.1 l hl
          have hM3 : StM A (z_upI (wrW w3 0) 130 13 0).1 := fr_StM (fun c j q => by
            unfold cRM cSM cNM cNiM cGM at q
            rw [n4.1 c j (by omega) (by omega), hf c j (by omega)]) hM
          rw [r1, l101_eq (by omega), e144, count5 hI hM3, l146_eq (by omega)]
          simp only [Option.bind_some]
          by_cases tb : (A 2 0 1).testBit l = true
          · have s3 := (hI.2.2.1.2.2.2.2 l tb).1
            rw [if_pos tb, show (0 : Int32) = nI 0 from rfl, ieq (by omega) (by omega), if_neg (by omega), if_pos (by rw [if_pos tb] at hcl; omega)]
          · rw [if_neg tb, if_pos (show nI 0 = 0 from rfl), show (12 : Int32) = nI 12 from rfl, ieq (by omega) (by omega)]
            rw [if_neg tb] at hcl
            by_cases q : pc14 (clrb (A 2 0 1) l) < 12
            · rw [if_neg (by omega), if_pos q]
            · rw [if_pos (by omega), if_neg q]
      by_cases q : pc14 (clrb (A 2 0 1) l) < 12
      · rw [if_pos q] at eC
        generalize hw1 : z_upJ (z_upJ (z_upI (z_upI w0 120 0 0) 16 1 (nI (A 2 0 1 ||| 2 ^ l))) 18 l (lN (pack f1 k1))) 19 l (lN (pack f2 k2)) = w1 at eC
        have f1' : ∀ c j, ¬ ((c = 120 ∧ j = 0) ∨ (c = 16 ∧ j = 1)) → w1.1 c j = w.1 c j := fun c j h => by
          rw [← hw1, upJ_1, upJ_1, upc (by omega), hc c j (by omega)]
        have v1 : w1.1 16 1 = nI (A 2 0 1 ||| 2 ^ l) ∧ w1.1 120 0 = 0 ∧ w1.2 18 l = lN (pack f1 k1) ∧ w1.2 19 l = lN (pack f2 k2) := by
          rw [← hw1]
          refine ⟨?_, ?_, ?_, ?_⟩
          · rw [upJ_1, upJ_1, upc_e]
          · rw [upJ_1, upJ_1, upc (by omega), upc_e]
          · simp [z_upJ]
          · simp [z_upJ]
        have l1 : ∀ c j, ¬ (18 ≤ c ∧ c ≤ 19 ∧ j = l) → c ≠ 120 → w1.2 c j = w.2 c j := fun c j h h' => by
          rw [← hw1, ← h5 c h']
          show (if c = 19 ∧ j = l then _ else if c = 18 ∧ j = l then _ else w0.2 c j) = _
          rw [if_neg (by omega), if_neg (by omega)]
        clear hw1
        obtain ⟨w3, p1, p2, p3, p4, p5⟩ := mod w1 f1'
        rw [if_pos q] at p5
        have hA2 : RelA A (fun c j => if c = 16 ∧ j = 1 then nI (A 2 0 1) else w3.1 c j, fun c j => if 18 ≤ c ∧ c ≤ 19 ∧ j = l then w.2 c j else w3.2 c j) := Rel_tape hA (fun c j h => by
          show (if c = 16 ∧ j = 1 then nI (A 2 0 1) else w3.1 c j) = _
          by_cases z : c = 16 ∧ j = 1
          · rw [if_pos z, z.1, z.2]
            exact hC.2.2.1.2.1.symm
          · rw [if_neg z, p1.1 c j (by omega) (by omega), f1' c j (by omega)]) (fun c ha => funext fun j => by
          show (if 18 ≤ c ∧ c ≤ 19 ∧ j = l then w.2 c j else w3.2 c j) = _
          by_cases z : 18 ≤ c ∧ c ≤ 19 ∧ j = l
          · rw [if_pos z]
          · rw [if_neg z, p1.2]
            exact l1 c j z ha) (by
          show (if 120 = 16 ∧ 0 = 1 then nI (A 2 0 1) else w3.1 120 0) = _
          rw [if_neg (by omega), p1.1 _ _ (by omega) (by omega)]
          exact v1.2.1) (by
          show (if 130 = 16 ∧ 13 = 1 then nI (A 2 0 1) else w3.1 130 13) = _
          rw [if_neg (by omega)]
          exact p4)
        refine ⟨_, _, _, eC, p5, ?_⟩
        refine Rel_letters (l := l) (k1 := k1) (k2 := k2) (f1 := f1) (f2 := f2) hA2 hl ?_ b1 b2 b3 b4 (fun c j h => ?_) (fun c j h => ?_) ?_ ?_ ?_ ?_ ?_ (fun m hm => ?_) (fun m hm => ?_)
        · by_cases tb : (A 2 0 1).testBit l = true
          · rw [if_pos tb] at hst
            omega
          · rw [if_neg tb] at hst hcl
            omega
        · rw [upc (by omega), upc (by omega), fillo_out (by omega)]
          exact (if_neg (by omega)).symm
        · exact (if_neg h).symm
        · rw [upc (by omega), upc (by omega), fillo_out (by omega), p1.1 _ _ (by omega) (by omega)]
          exact v1.1
        · show w3.2 18 l = _
          rw [p1.2]
          exact v1.2.2.1
        · show w3.2 19 l = _
          rw [p1.2]
          exact v1.2.2.2
        · rw [upc (by omega), upc_e]
        · exact upc_e
        · rw [upc (by omega), upc (by omega), fillo_in (by omega) (by omega), show 12 * l + m - 12 * l = m by omega]
          exact p2 m hm
        · rw [upc (by omega), upc (by omega), fillo_in (by omega) (by omega), show 12 * l + 6 + m - 12 * l = 6 + m by omega]
          exact p3 m hm
      · rw [if_neg q] at eC
        obtain ⟨w3, p1, p2, p3, p4, p5⟩ := mod (z_upI w0 120 0 0) (fun c j h => hc c j (by omega))
        rw [if_neg q] at p5
        exact ⟨_, _, w3, eC, p5, A, nfl_tape hA h2 h5 p4 p1⟩
  · refine ⟨-1, w, w, ?_, ?_, hR⟩
    · unfold f_X11_letters
      rw [X4_hasLock_eq hC.1.2.1, if_neg hb]
      rfl
    · unfold f_X12_letters
      rw [X12_isLock_eq (L := A 0 0 1) (by omega) hM.1.2.1, if_neg hb]
      rfl
