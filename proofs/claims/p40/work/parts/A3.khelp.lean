/-! the law's own helpers over its row of parts (cell 130) -/
def ho (n : Nat) : Int32 := if n = 0 then -1 else nI (n - 1)
theorem ho_neg {n : Nat} (hn : n < 2 ^ 31) : ho n < 0 ↔ n = 0 := by
  unfold ho
  by_cases h : n = 0
  · rw [if_pos h]
    exact ⟨fun _ => h, fun _ => by decide⟩
  · rw [if_neg h]
    exact ⟨fun q => absurd q (nI_pos (by omega)), fun q => absurd q h⟩
theorem ho_p {n : Nat} (h : n ≠ 0) : ho n = nI (n - 1) := if_neg h
def prt (R : ST) (n : Nat) (w : ZW) : Prop := ∀ i, i < n → w.1 130 (6 * i) = nI (R 4 i) ∧ w.1 130 (6 * i + 1) = nI (R 5 i) ∧ w.1 130 (6 * i + 2) = nI (R 6 i) ∧ w.1 130 (6 * i + 3) = nI (R 7 i) ∧ w.1 130 (6 * i + 4) = nI (R 8 i) ∧ w.1 130 (6 * i + 5) = ho (R 9 i)
theorem prt_same {R : ST} {n : Nat} {w w' : ZW} (h : prt R n w) (f : ∀ j, w'.1 130 j = w.1 130 j) : prt R n w' := fun i hi => by
  obtain ⟨a1, a2, a3, a4, a5, a6⟩ := h i hi
  exact ⟨(f _).trans a1, (f _).trans a2, (f _).trans a3, (f _).trans a4, (f _).trans a5, (f _).trans a6⟩
theorem i6 (i k : Nat) : (6 : Int32) * nI i + (OfNat.ofNat k : Int32) = nI (6 * i + k) := by
  rw [show (6 : Int32) = nI 6 from rfl, pk_mul, show (OfNat.ofNat k : Int32) = nI k from rfl, nI_add]
theorem i60 (i : Nat) : (6 : Int32) * nI i = nI (6 * i) := by
  rw [show (6 : Int32) = nI 6 from rfl, pk_mul]
theorem ndn_0 {a : Nat} (ha : a < 2 ^ 32) : ndn a 0 = a := Nat.eq_of_testBit_eq (fun i => by
  rw [ndn_bit ha, Nat.zero_testBit]
  simp)
theorem bit_none {k : Nat} (hk : k < 32) : ((0 : Int32) >>> (nI k &&& 31)) &&& 1 = 0 := (nI_bit0 (b := 0) (by omega) hk).mpr (Nat.zero_testBit k)
theorem rUn_s {R : ST} {l k : Nat} : rUn R l (k + 1) = if (!((R 0 2).testBit (l + 1 + k)) && decide (R 9 (l + 1 + k) ≠ 0) && (rUn R l k).testBit (R 9 (l + 1 + k) - 1)) = true then rUn R l k ||| 2 ^ (l + 1 + k) else rUn R l k := rfl
theorem rHn_s {R : ST} {p q k : Nat} : rHn R p q (k + 1) = if (!((R 0 2).testBit k) && decide (R 7 k = p) && (decide (q = 3) || decide (R 8 k = q))) = true then rHn R p q k ||| 2 ^ k else rHn R p q k := rfl
theorem L_under_eq {R : ST} {w : ZW} (h9 : ∀ i, i < R 0 1 → R 9 i ≤ i) (hn : R 0 1 ≤ 10) (hg : R 0 2 = 0) (hp : prt R (R 0 1) w) {l : Nat} (hl : l < R 0 1) : f_L_under w 130 64 (nI (R 0 1)) 0 (nI l) = some (nI (rU R l)) := by
  unfold f_L_under
  simp only [z_let]
  have p2 : 2 ^ l < 2 ^ 14 := Nat.pow_lt_pow_right (by omega) (by omega)
  rw [nI_shl1 (by omega), show (nI (2 ^ l) &&& ((0 : Int32) ^^^ (-1 : Int32))) = nI (2 ^ l) from by
    rw [show (0 : Int32) = nI 0 from rfl, nI_ndn, ndn_0 (by omega)], nI_1, it_at (fun i => (nI (rUn R l (i - (l + 1))), nI i)) (l + 1) (R 0 1) (nI (rU R l)) (by rw [Nat.sub_self]; rfl) (by omega) ?_ ?_ (zf (by omega))]
  · rfl
  · intro i h1 h2
    obtain ⟨k, rfl⟩ : ∃ k, i = l + 1 + k := ⟨i - (l + 1), by omega⟩
    rw [show l + 1 + k - (l + 1) = k by omega, show l + 1 + k + 1 - (l + 1) = k + 1 by omega]
    obtain ⟨-, -, -, -, -, e5⟩ := hp (l + 1 + k) h2
    have g9 := h9 (l + 1 + k) h2
    have hb : rUn R l k < 2 ^ 14 := Nat.lt_of_lt_of_le (rUn_lt (n := R 0 1) (by omega)) (Nat.pow_le_pow_right (by omega) (by omega))
    unfold f_L_under_L14
    dsimp only
    rw [if_neg (nnle h2), bit_none (by omega), if_pos rfl, i6 (l + 1 + k) 5, z_in_t (show 6 * (l + 1 + k) + 5 < 64 by omega) (by omega), if_pos rfl, nI_clamp (by omega), e5, nI_1]
    simp only [if_true, Int32.or_zero, z_let, nI_shl1 (show l + 1 + k < 31 by omega), nI_or]
    rw [rUn_s, hg, Nat.zero_testBit]
    by_cases g2 : R 9 (l + 1 + k) = 0
    · rw [if_pos ((ho_neg (by omega)).mpr g2), if_neg (by simp [g2])]
    · rw [if_neg (fun h => g2 ((ho_neg (by omega)).mp h)), ho_p g2]
      have b1 : ((nI (rUn R l k) >>> (nI (R 9 (l + 1 + k) - 1) &&& 31)) &&& 1 = 1) ↔ (rUn R l k).testBit (R 9 (l + 1 + k) - 1) = true := nI_bit1 (by omega) (by omega)
      by_cases g3 : (rUn R l k).testBit (R 9 (l + 1 + k) - 1) = true
      · rw [if_pos (b1.mpr g3), if_pos (by simp [g2, g3])]
      · rw [if_neg (fun h => g3 (b1.mp h)), if_neg (by simp [g3])]
  · unfold f_L_under_L14
    rw [if_pos (Int32.le_refl _)]
    rfl
theorem L_weigh_eq {R : ST} {w : ZW} (hn : R 0 1 ≤ 10) (hp : prt R (R 0 1) w) {b : Nat} (hb : b < 2 ^ 14) : f_L_weigh w 130 64 (nI (R 0 1)) (nI b) = some (nI (rW R b)) := by
  unfold f_L_weigh
  rw [show ((0 : Int32), (0 : Int32)) = (nI (rWn R b 0), nI 0) from rfl, it_count (fun i => (nI (rWn R b i), nI i)) (R 0 1) (nI (rW R b)) ?_ ?_ (zf (by omega))]
  · rfl
  · intro i h2
    obtain ⟨e0, -⟩ := hp i h2
    have b1 : ((nI b >>> (nI i &&& 31)) &&& 1 = 1) ↔ b.testBit i = true := nI_bit1 (by omega) (by omega)
    unfold f_L_weigh_L5
    dsimp only
    rw [if_neg (nnle h2), i60, z_in_t (show 6 * i < 64 by omega) (by omega), if_pos rfl, nI_clamp (by omega), e0, nI_1]
    simp only [z_let]
    rw [rWn_s, nI_add]
    by_cases g : b.testBit i = true
    · rw [if_pos (b1.mpr g), if_pos g]
    · rw [if_neg (fun h => g (b1.mp h)), if_neg g, Int32.add_zero]
      rfl
  · unfold f_L_weigh_L5
    rw [if_pos (Int32.le_refl _)]
    rfl
theorem L_hung_eq {R : ST} {w : ZW} (h7 : ∀ i, i < R 0 1 → R 7 i < 100 ∧ R 8 i ≤ 2) (hn : R 0 1 ≤ 10) (hg : R 0 2 = 0) (hp : prt R (R 0 1) w) {p q : Nat} (hp6 : p < 100) (hq : q ≤ 2) : f_L_hung w 130 64 (nI (R 0 1)) 0 (nI p) (nI q) = some (nI (rH R p q)) := by
  unfold f_L_hung
  rw [show ((0 : Int32), (0 : Int32)) = (nI (rHn R p q 0), nI 0) from rfl, it_count (fun i => (nI (rHn R p q i), nI i)) (R 0 1) (nI (rH R p q)) ?_ ?_ (zf (by omega))]
  · rfl
  · intro i h2
    obtain ⟨-, -, -, e3, e4, -⟩ := hp i h2
    obtain ⟨g7, g8⟩ := h7 i h2
    have q3 : ¬ q = 3 := by omega
    have b3 : ¬ nI q = (3 : Int32) := fun h => q3 ((nI_inj (by omega) (show 3 < 2 ^ 31 by omega)).mp h)
    unfold f_L_hung_L6 f_L_hung_J56
    dsimp only
    rw [if_neg (nnle h2), bit_none (by omega), if_pos rfl, i6 i 3, i6 i 4, z_in_t (show 6 * i + 3 < 64 by omega) (by omega), z_in_t (show 6 * i + 4 < 64 by omega) (by omega), if_pos rfl, nI_clamp (by omega), nI_clamp (by omega), e3, e4, nI_1, ieq (by omega) (by omega), if_neg b3, ieq (by omega) (by omega)]
    simp only [if_true, Int32.or_zero, z_let, nI_shl1 (show i < 31 by omega), nI_or]
    rw [rHn_s, hg, Nat.zero_testBit]
    by_cases g2 : R 7 i = p
    · by_cases g3 : R 8 i = q
      · simp [g2, g3]
      · simp [g2, g3, q3]
    · simp [g2]
  · unfold f_L_hung_L6
    rw [if_pos (Int32.le_refl _)]
    rfl
theorem L_size_eq {b : Nat} (hb : b < 2 ^ 14) : f_L_size (nI b) = some (nI (pc14 b)) := by
  have e : bs b 16 = pc14 b := by
    rw [show 16 = 14 + 2 from rfl, bs_top hb 2]
    exact bs_pc (Nat.le_refl _) hb
  unfold f_L_size
  rw [show ((0 : Int32), (0 : Int32)) = (nI (bs b 0), nI 0) from rfl, it_count (fun i => (nI (bs b i), nI i)) 16 (nI (bs b 16)) ?_ ?_ (zf (by omega)), Option.bind_some, e]
  · intro i hi
    unfold f_L_size_L4
    dsimp only
    rw [show (16 : Int32) = nI 16 from rfl, if_neg (nnle hi), bit_get (by omega) (by omega), nI_add, nI_1]
    rfl
  · unfold f_L_size_L4
    rw [if_pos (show (16 : Int32) ≤ nI 16 from Int32.le_refl _)]
theorem L_cell_eq (xs : Nat → Int32) {len : Nat} (hl : len ≤ 260) {k : Nat} (hk : k < 100) : ∃ c, c < 2 ^ 31 ∧ f_L_cell xs len (nI k) = some (nI c) := by
  unfold f_L_cell
  rw [show Int32.ofNat len = nI len from rfl]
  by_cases q : len ≤ k
  · rw [if_pos (nle q)]
    obtain ⟨c, h1, h2⟩ := pk_andE ((15485957 : Int32) * nI k + 107) (m := (2147483647 : Int32)) 31 (by decide)
    exact ⟨c, h1, by rw [h2]⟩
  · rw [if_neg (nnle (by omega)), z_in_t (by omega) (by omega), if_pos rfl]
    obtain ⟨c, h1, h2⟩ := pk_andE (xs (nI k).toNatClampNeg) (m := (2147483647 : Int32)) 31 (by decide)
    exact ⟨c, h1, by rw [h2]⟩
/-- a rest by a written number -/
theorem rem_lit {c d : Nat} (hc : c < 2 ^ 31) (h0 : 0 < d) (hd : d < 2 ^ 31) : nI c - nI c / (OfNat.ofNat d : Int32) * (OfNat.ofNat d : Int32) = nI (c % d) := pk_rem hc h0 hd
