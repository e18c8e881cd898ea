/-! the law: a question halves no set finer than needed tells -/
def stn (R : ST) (c : Nat) : Nat → Nat
  | 0 => 0
  | k + 1 => stn R c k ||| (if (R 0 2).testBit k = false ∧ c.testBit k = true then 2 ^ k else 0)
theorem stn_s {R : ST} {c k : Nat} : stn R c (k + 1) = stn R c k ||| (if (R 0 2).testBit k = false ∧ c.testBit k = true then 2 ^ k else 0) := rfl
theorem stn_bit {R : ST} {c i : Nat} : ∀ k, (stn R c k).testBit i = true → i < k ∧ (R 0 2).testBit i = false
  | 0, h => by rw [show stn R c 0 = 0 from rfl, Nat.zero_testBit] at h; cases h
  | k + 1, h => by
    rw [stn_s, Nat.testBit_or, Bool.or_eq_true] at h
    rcases h with h | h
    · have := stn_bit k h
      exact ⟨by omega, this.2⟩
    · by_cases q : (R 0 2).testBit k = false ∧ c.testBit k = true
      · rw [if_pos q, Nat.testBit_two_pow, decide_eq_true_eq] at h
        subst h
        exact ⟨by omega, q.1⟩
      · rw [if_neg q, Nat.zero_testBit] at h
        cases h
theorem stn_lt {R : ST} {c : Nat} : ∀ k, stn R c k < 2 ^ k
  | 0 => Nat.pow_pos (by omega)
  | k + 1 => by
    have p2 : 2 ^ k < 2 ^ (k + 1) := Nat.pow_lt_pow_right (by omega) (by omega)
    have ih := stn_lt (R := R) (c := c) k
    rw [stn_s]
    refine Nat.or_lt_two_pow (by omega) ?_
    split
    · exact p2
    · exact Nat.pow_pos (by omega)
theorem set_lp {xs : Nat → Int32} {len c : Nat} {A : AST} {n : Nat} {w : ZW} (hI : StI A) (hC : StC A w.1 w.2) (h01 : A 0 0 1 = n + 1) (hn : n ≤ 9) (hc : c < 2 ^ 31) (ec : f_L_cell xs len 15 = some (nI c)) : z_iter (f_law2_L1264 (nI n) w xs len) z_fuel ((0 : Int32), (0 : Int32)) = some (nI (stn (A 0) c n)) := by
  refine it_count (fun i => (nI (stn (A 0) c i), nI i)) n _ (fun i hi => ?_) ?_ (zf (by omega))
  · obtain ⟨-, -, -, -, t7⟩ := K_told hI hC (l := i) (by omega)
    have t7 : f_X11_told w (nI i) 7 = some (nI (if (A 0 0 2).testBit i = true then 1 else 0)) := t7
    have b1 : ((nI c >>> (nI i &&& 31)) &&& 1 = 1) ↔ c.testBit i = true := nI_bit1 (by omega) (by omega)
    unfold f_law2_L1264
    dsimp only
    rw [if_neg (nnle hi), t7, Option.bind_some, ec, Option.bind_some, nI_1, nI_shl1 (by omega), nI_or, Int32.or_zero, stn_s]
    simp only [z_let]
    cases g : (A 0 0 2).testBit i
    · rw [if_neg (show ¬ false = true by decide), if_pos (show nI 0 = 0 from rfl)]
      by_cases q : c.testBit i = true
      · rw [if_pos (b1.mpr q), if_pos ⟨rfl, q⟩]
      · rw [if_neg (fun z => q (b1.mp z)), if_neg (fun z => q z.2), Nat.or_zero]
    · rw [if_pos rfl, if_neg (show ¬ nI 1 = 0 from i10), if_neg (fun z => by cases z.1), Nat.or_zero]
  · unfold f_law2_L1264
    dsimp only
    rw [if_pos (Int32.le_refl _)]
theorem pow_lp {k : Nat} (hk : k ≤ 14) : z_iter (f_law2_L1339 (nI k)) z_fuel ((1 : Int32), (0 : Int32)) = some (nI (2 ^ k)) := by
  refine it_count (fun i => (nI (2 ^ i), nI i)) k _ (fun i hi => ?_) ?_ (zf (by omega))
  · unfold f_law2_L1339
    dsimp only
    rw [if_neg (nnle hi), show (2 : Int32) = nI 2 from rfl, pk_mul, nI_1, Nat.pow_succ]
  · unfold f_law2_L1339
    dsimp only
    rw [if_pos (Int32.le_refl _)]
theorem J1331_none {w : ZW} (x : Int32) : f_law2_J1331 1 x (-4) w = some 1 := by
  have lp : z_iter (f_law2_L1339 (-4)) z_fuel ((1 : Int32), (0 : Int32)) = some 1 := by
    refine it_count (fun i => ((1 : Int32), nI i)) 0 _ (fun i hi => by omega) ?_ (zf (by omega))
    unfold f_law2_L1339
    dsimp only
    rw [if_pos (by decide)]
  unfold f_law2_J1331
  rw [lp, Option.bind_some, if_neg i10, if_pos (by decide)]
theorem J1256_eq {xs : Nat → Int32} {len : Nat} (hl : len ≤ 260) {A : AST} {n : Nat} {w : ZW} (hI : StI A) (hC : StC A w.1 w.2) (h01 : A 0 0 1 = n + 1) (hn : n ≤ 9) : f_law2_J1256 xs len (nI n) 1 w = some 1 := by
  obtain ⟨c, hc, ec⟩ := L_cell_eq xs hl (k := 15) (by omega)
  have ec : f_L_cell xs len 15 = some (nI c) := ec
  have sl := set_lp hI hC h01 hn hc ec
  have s14 : stn (A 0) c n < 2 ^ 14 := Nat.lt_of_lt_of_le (stn_lt n) (Nat.pow_le_pow_right (by omega) (by omega))
  have sb : ∀ i, (stn (A 0) c n).testBit i = true → i < A 0 0 1 ∧ (A 0 0 2).testBit i = false := fun i h => by
    have := stn_bit n h
    exact ⟨by omega, this.2⟩
  unfold f_law2_J1256
  rw [sl, Option.bind_some]
  generalize stn (A 0) c n = s at s14 sb
  have z0 : nI s = 0 ↔ s = 0 := nI_inj (by omega) (show 0 < 2 ^ 31 by omega)
  by_cases q : s = 0
  · rw [if_pos (z0.mpr q)]
    exact J1331_none _
  · rw [if_neg (fun z => q (z0.mp z))]
    obtain ⟨w1, e1⟩ := K_needed hI hC q s14 sb
    rw [e1, Option.bind_some]
    dsimp only
    rcases nv_cases (R := A 0) s s14 with ⟨j, j1, -, j3, j4, j5⟩ | ⟨-, j2, -⟩
    · rw [j3, if_neg (by omega)]
      have p1 := enb_pow j s s14 j4
      have p2 := enb_pc j s s14 j4
      have p3 := pc_pos s14 q
      have p4 := pc_le (b := s)
      have p5 : j < pc14 s := by
        cases Nat.lt_or_ge (pc14 s - 1) j with
        | inl h => rw [j5 _ h] at p2; cases p2
        | inr h => omega
      have p6 : 2 ^ j ≤ 2 ^ 14 := Nat.pow_le_pow_right (by omega) (by omega)
      unfold f_law2_J1331
      rw [pow_lp (by omega), Option.bind_some, if_neg i10, if_neg (nI_pos (by omega)), L_size_eq s14, Option.bind_some, Option.bind_some, if_neg (fun z => by have := (nI_ltI (by omega) (by omega)).mp z; omega), if_neg (nnle p5)]
    · rw [j2, if_pos rfl]
      exact J1331_none _
/-! the law -/
theorem law_all (xs : Nat → Int32) (len : Nat) (hl : len ≤ 260) : f_law xs len z_w0 = some 1 := by
  obtain ⟨A, P, n, w, on, wt, h, hP, hn, hon, hwt, e⟩ := law1_eq xs hl
  obtain ⟨B, w1, q1, g1, e1⟩ := law2a_eq (xs := xs) (len := len) h hn.2 hon hwt
  obtain ⟨C, w2, q2, e2⟩ := J455_eq (xs := xs) (len := len) q1 g1 hn.2
  obtain ⟨D, w3, q3, k3, e3⟩ := J623_eq (xs := xs) (len := len) q2
  obtain ⟨E, T, w4, q4, t4, e4⟩ := J675_eq (xs := xs) hl q3 k3 hn.2
  obtain ⟨w5, q5, e5⟩ := J938_eq (xs := xs) (len := len) q4 hn.2 t4
  obtain ⟨hI, hC, h120, h00, h01, h20, hle, h30, h3, hy⟩ := q5
  obtain ⟨F, w6, q6, e6⟩ := J1085_eq (xs := xs) hl (A := E) (P := P) (n := n) (w := w5) ⟨hI, hC, h00, h01, h30, fun p _ => ⟨(h3 p).1, (h3 p).2.1⟩⟩ hP.2
  obtain ⟨G, w7, i7, c7, l7, e7⟩ := J1161_eq (xs := xs) (len := len) q6 hP
  rw [e, e1, e2, e3, e4, e5, e6, e7]
  exact J1256_eq hl i7 c7 l7 hn.2
