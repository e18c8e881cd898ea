/-! the law: letters, ways -/
theorem agb_cong {f f' g g' : Nat → Nat} {k1 k1' k2 k2' : Nat} (h1 : k1' = k1) (h2 : k2' = k2) (hf : ∀ m, m < k1 → f' m = f m) (hg : ∀ m, m < k1 → g' m = g m) : agb f' g' k1' k2' = agb f g k1 k2 := by
  subst h1
  subst h2
  unfold agb
  rw [Bool.eq_iff_iff, decide_eq_true_eq, decide_eq_true_eq]
  constructor
  · rintro ⟨a, b⟩
    exact ⟨a, fun m hm => by rw [← hf m hm, ← hg m hm]; exact b m hm⟩
  · rintro ⟨a, b⟩
    exact ⟨a, fun m hm => by rw [hf m hm, hg m hm]; exact b m hm⟩
/-- letters of lock l do not touch those of another one -/
theorem cb_other {S : ST} {L l k k1 k2 : Nat} {f1 f2 : Nat → Nat} (hI : NamesI L S) (hk : (S 0 1).testBit k = true) (ne : k ≠ l) : cb (ltR S l k1 k2 f1 f2) k = cb S k := by
  obtain ⟨b1, b2, -, -⟩ := hI.2.2.2.2 k hk
  have n0 : ltR S l k1 k2 f1 f2 0 0 = S 0 0 := ltR_o (by omega)
  have n1 : ∀ i, ltR S l k1 k2 f1 f2 1 i = S 1 i := fun i => ltR_o (by omega)
  have n2 : ∀ i, ltR S l k1 k2 f1 f2 2 i = S 2 i := fun i => ltR_o (by omega)
  have w1 : wB1 (ltR S l k1 k2 f1 f2) k = wB1 S k := Nat.eq_of_testBit_eq (fun i => by
    unfold wB1
    rw [whoB_bit, whoB_bit, n0, agb_cong (ltR_o (by omega)) (n1 i) (fun m hm => ltR_o (by omega)) (fun m hm => n2 _)])
  have w2 : wB2 (ltR S l k1 k2 f1 f2) k = wB2 S k := Nat.eq_of_testBit_eq (fun i => by
    unfold wB2
    rw [whoB_bit, whoB_bit, n0, agb_cong (ltR_o (by omega)) (n1 i) (fun m hm => ltR_o (by omega)) (fun m hm => n2 _)])
  funext p q
  unfold cb
  rw [w1, w2]
/-- both worn: all pairs -/
theorem cb_worn {S : ST} {l : Nat} (h1 : ∀ i, i < S 0 0 → S 1 i = 1) {p q : Nat} (hp : p < S 0 0) (hq : q < S 0 0) : cb (ltR S l 1 1 (fset f0 0 63) (fset f0 0 63)) l p q = true := by
  have n0 : ltR S l 1 1 (fset f0 0 63) (fset f0 0 63) 0 0 = S 0 0 := ltR_o (by omega)
  have n1 : ∀ i, ltR S l 1 1 (fset f0 0 63) (fset f0 0 63) 1 i = S 1 i := fun i => ltR_o (by omega)
  have l3 : ltR S l 1 1 (fset f0 0 63) (fset f0 0 63) 3 l = 1 := by unfold ltR; rw [if_neg (by omega), if_pos ⟨rfl, rfl⟩]
  have l4 : ltR S l 1 1 (fset f0 0 63) (fset f0 0 63) 4 l = 1 := by unfold ltR; rw [if_neg (by omega), if_neg (by omega), if_pos ⟨rfl, rfl⟩]
  have l5 : ltR S l 1 1 (fset f0 0 63) (fset f0 0 63) 5 (12 * l + 0) = 63 := by
    unfold ltR
    rw [if_neg (by omega), if_neg (by omega), if_neg (by omega), if_pos ⟨rfl, by omega, by omega⟩, show 12 * l + 0 - 12 * l = 0 by omega]
    rfl
  have l6 : ltR S l 1 1 (fset f0 0 63) (fset f0 0 63) 5 (12 * l + 6 + 0) = 63 := by
    unfold ltR
    rw [if_neg (by omega), if_neg (by omega), if_neg (by omega), if_neg (by omega), if_pos ⟨rfl, by omega, by omega⟩, show 12 * l + 6 + 0 - (12 * l + 6) = 0 by omega]
    rfl
  have a : ∀ i, i < S 0 0 → (wB1 (ltR S l 1 1 (fset f0 0 63) (fset f0 0 63)) l).testBit i = true := fun i hi => by
    unfold wB1
    rw [whoB_bit, n0, n1, h1 i hi, l3, decide_eq_true hi, Bool.true_and]
    unfold agb
    rw [decide_eq_true_eq]
    refine ⟨rfl, fun m hm => Or.inl ?_⟩
    rw [show m = 0 by omega]
    exact l5
  have b : ∀ i, i < S 0 0 → (wB2 (ltR S l 1 1 (fset f0 0 63) (fset f0 0 63)) l).testBit i = true := fun i hi => by
    unfold wB2
    rw [whoB_bit, n0, n1, h1 i hi, l4, decide_eq_true hi, Bool.true_and]
    unfold agb
    rw [decide_eq_true_eq]
    refine ⟨rfl, fun m hm => Or.inl ?_⟩
    rw [show m = 0 by omega]
    exact l6
  unfold cb
  rw [a p hp, b q hq]
  rfl
theorem cb_in {S : ST} {l p q : Nat} (h : cb S l p q = true) : p < S 0 0 ∧ q < S 0 0 := by
  have e1 : ∀ i, (wB1 S l).testBit i = true → i < S 0 0 := fun i h => by
    unfold wB1 at h
    rw [whoB_bit, Bool.and_eq_true, decide_eq_true_eq] at h
    exact h.1
  have e2 : ∀ i, (wB2 S l).testBit i = true → i < S 0 0 := fun i h => by
    unfold wB2 at h
    rw [whoB_bit, Bool.and_eq_true, decide_eq_true_eq] at h
    exact h.1
  unfold cb at h
  rw [Bool.or_eq_true, Bool.and_eq_true, Bool.and_eq_true] at h
  rcases h with ⟨h1, h2⟩ | ⟨h1, h2⟩
  · exact ⟨e1 p h1, e2 q h2⟩
  · exact ⟨e2 p h2, e1 q h1⟩
theorem rdn_6 {g : Nat → Nat → Bool} (h : ∀ p q, p < 4 → q < 4 → g p q = true) : rdn g 4 4 = 6 := by
  simp [rdn, cq, h]
theorem ch3 : ch (4139839 : Int64) 0 = 63 ∧ ch (4139839 : Int64) 1 = 43 ∧ ch (4139839 : Int64) 2 = 63 := by decide +kernel
theorem cmp_lt {a b : Nat} (ha : a < 2 ^ 63) (hb : b < 2 ^ 63) : lg_cmp (lN a) (lN b) < 0 ↔ a < b := (lg_cmp_lt _ _).trans (pk_lLT ha hb)
theorem cmp_gt {a b : Nat} (ha : a < 2 ^ 63) (hb : b < 2 ^ 63) : 0 < lg_cmp (lN a) (lN b) ↔ b < a := (lg_cmp_gt _ _).trans (pk_lLT hb ha)
theorem Q3_fr {A : AST} {P n k : Nat} {w w' : ZW} (h : Q3 A P n k w) (hC : StC A w'.1 w'.2) (f : w'.1 120 0 = w.1 120 0) (g : ∀ j, w'.1 130 j = w.1 130 j) : Q3 A P n k w' := by
  obtain ⟨hI, -, h120, h00, h01, h20, hl, h30, h3, hy⟩ := h
  exact ⟨hI, hC, f.trans h120, h00, h01, h20, hl, h30, h3, fun i hi => (g _).trans (hy i hi)⟩
theorem wy_stC {A : AST} {w w' : ZW} (h : StC A w.1 w.2) (f : ∀ b j, ¬ (111 ≤ b ∧ b ≤ 116) → w'.1 b j = w.1 b j) (g : ∀ b j, b ≠ 111 → w'.2 b j = w.2 b j) : StC A w'.1 w'.2 := fr_K (fun a j q => f a j (by unfold kC at q; omega)) (fun a j q => g a j (by unfold cL at q; omega)) h
theorem J845_eq {A : AST} {P n i T : Nat} {w : ZW} (h : Q3 A P n 4 w) (hb : (A 2 0 1).testBit i = true) (hK : pc14 (A 2 0 1) ≤ 12) (hi : i < n) (hn : n ≤ 9) (hT : T = Tw (A 0) (A 2)) : ∃ w', f_law2_J845 (nI i) (lN T) 1 w = some (.inl (1, lN T, nI (i + 1), w')) ∧ Q3 A P n 4 w' := by
  obtain ⟨hI, hC, h120, h00, h01, h20, hl, h30, h3, hy⟩ := id h
  obtain ⟨w1, e1, c1, ck, c02, f1⟩ := K_image hI hC
  obtain ⟨d0, d1, d2⟩ := ch3
  obtain ⟨w2, e2, t2, f2, l2⟩ := K_typeT (a := 4139839) (m := 0) (n := 3) (t := f0) (w := w1) ⟨(f1 _ _ (by omega)).trans h120, fun i hi => by omega⟩ (by omega) (by omega) (fun j hj => by
    rcases (show j = 0 ∨ j = 1 ∨ j = 2 by omega) with rfl | rfl | rfl
    · rw [d0]; decide
    · rw [d1]; decide
    · rw [d2]; decide) (by omega)
  have e2 : f_X11_type w1 4139839 3 = some (3, w2) := e2
  have t2 : tC 3 (fun i => if i = 1 then 43 else 63) w2 := ⟨t2.1, fun j hj => (t2.2 j hj).trans (by
    dsimp only
    rcases (show j = 0 ∨ j = 1 ∨ j = 2 by omega) with rfl | rfl | rfl
    · rw [if_neg (by omega), show 3 - 1 - (0 - 0) = 2 by omega, d2, if_neg (by omega)]
    · rw [if_neg (by omega), show 3 - 1 - (1 - 0) = 1 by omega, d1, if_pos rfl]
    · rw [if_neg (by omega), show 3 - 1 - (2 - 0) = 0 by omega, d0, if_neg (by omega)])⟩
  have sb : A 2 0 1 ||| 2 ^ i = A 2 0 1 := Nat.eq_of_testBit_eq (fun j => by
    rw [Nat.testBit_or, Nat.testBit_two_pow]
    by_cases q : i = j
    · subst q; rw [hb]; rfl
    · rw [decide_eq_false q, Bool.or_false])
  obtain ⟨w3, e3, ⟨k1, k2⟩, k3, k4, k5⟩ := K_put (l := i) hI (ty_stC c1 f2 l2) t2 (by decide) (by decide) rfl (by decide) (by decide) (by omega) (by rw [sb]; exact hK)
  have k1 : StI (aup A 2 (ltR (A 2) i 1 1 (fset f0 0 63) (fset f0 0 63))) := k1
  have k2 : StC (aup A 2 (ltR (A 2) i 1 1 (fset f0 0 63) (fset f0 0 63))) w3.1 w3.2 := k2
  obtain ⟨w4, e4, f4, l4⟩ := K_ways k1 k2
  have e4 : f_X11_ways w3 = some (lN (Tw (A 0) (ltR (A 2) i 1 1 (fset f0 0 63) (fset f0 0 63))), w4) := e4
  have c4 := wy_stC k2 f4 l4
  have hh1 : ∀ j, j < A 2 0 0 → A 2 1 j = 1 := fun j hj => hl j (by omega)
  have n0 : ltR (A 2) i 1 1 (fset f0 0 63) (fset f0 0 63) 0 0 = A 2 0 0 := ltR_o (by omega)
  have n1 : ltR (A 2) i 1 1 (fset f0 0 63) (fset f0 0 63) 0 1 = A 2 0 1 := by
    show A 2 0 1 ||| 2 ^ i = A 2 0 1
    exact sb
  have rd := K_readings k1 c4 (l := i) (by show i < A 0 0 1; omega) (by show (ltR (A 2) i 1 1 (fset f0 0 63) (fset f0 0 63) 0 1).testBit i = true; rw [n1]; exact hb)
  have rd : f_X11_readings w4 (nI i) = some 6 := by
    rw [rd]
    show some (nI (rdn (cb (ltR (A 2) i 1 1 (fset f0 0 63) (fset f0 0 63)) i) (ltR (A 2) i 1 1 (fset f0 0 63) (fset f0 0 63) 0 0) (ltR (A 2) i 1 1 (fset f0 0 63) (fset f0 0 63) 0 0))) = _
    rw [n0, h20, rdn_6 (fun p q hp hq => cb_worn hh1 (by omega) (by omega))]
    rfl
  have wn : T ≤ Tw (A 0) (ltR (A 2) i 1 1 (fset f0 0 63) (fset f0 0 63)) := by
    rw [hT]
    refine Tw_worn hI.2.2.1 k1.2.2.1 n0 n1 (fun k p q hk hc => ?_)
    by_cases e : k = i
    · subst e
      obtain ⟨a, b⟩ := cb_in hc
      exact cb_worn hh1 a b
    · rw [cb_other hI.2.2.1 hk e]
      exact hc
  have b1 := Tw_lt hI.1 hI.2.2.1
  have b2 : Tw (A 0) (ltR (A 2) i 1 1 (fset f0 0 63) (fset f0 0 63)) < 2 ^ 63 := Tw_lt k1.1 k1.2.2.1
  have ck4 : StC A (fun a j => w4.1 (a + 55) j) (fun a j => w4.2 (a + 55) j) := fr_StC (fun a j q => by
    have q2 : 2 ≤ a ∧ a ≤ 55 := by unfold cRC cSC cNC cNiC cGC at q; omega
    show w4.1 (a + 55) j = w1.1 (a + 55) j
    rw [f4 _ _ (by omega), k4 _ _ (by omega) (by omega), f2 _ _ (by omega) (by omega)]) (fun a j q => by
    have q2 : 17 ≤ a ∧ a ≤ 19 := by unfold cL at q; omega
    show w4.2 (a + 55) j = w1.2 (a + 55) j
    rw [l4 _ _ (by omega), k5 _ _ (by omega) (by omega) (by omega), l2]) ck
  obtain ⟨w5, e5, c5, f5⟩ := K_restore hI ck4 (by rw [f4 _ _ (by omega), k4 _ _ (by omega) (by omega), f2 _ _ (by omega) (by omega)]; exact c02)
  obtain ⟨w6, e6, f6, l6⟩ := K_ways hI c5
  rw [← hT] at e6
  refine ⟨w6, ?_, Q3_fr h (wy_stC c5 f6 l6) ?_ (fun j => ?_)⟩
  · unfold f_law2_J845
    rw [if_neg i10, e1, Option.bind_some]
    dsimp only
    rw [if_pos rfl, e2, Option.bind_some]
    dsimp only
    rw [if_pos rfl, e3, Option.bind_some]
    dsimp only
    rw [if_pos rfl, e4, Option.bind_some]
    dsimp only
    rw [if_neg (fun z => by have := (cmp_lt b2 (by rw [hT]; exact b1)).mp z; omega), rd, Option.bind_some, if_pos rfl, e5, Option.bind_some]
    dsimp only
    rw [if_pos rfl, e6, Option.bind_some]
    dsimp only
    rw [if_pos ((lg_cmp_eq _ _).mpr rfl), nI_1]
  · rw [f6 _ _ (by omega), f5 _ _ (by omega), f4 _ _ (by omega), k3, h120]
  · rw [f6 _ _ (by omega), f5 _ _ (by omega), f4 _ _ (by omega), k4 _ _ (by omega) (by omega), f2 _ _ (by omega) (by omega), f1 _ _ (by omega)]
theorem J804_eq {A A' : AST} {P n i T : Nat} {w : ZW} (h : Q3 A' P n 4 w) (h0 : A' 0 = A 0) (hI : NamesI (A 0 0 1) (A 2)) (h20 : A 2 0 0 = 4) (hn : (A 2 0 1).testBit i = false) (hb : (A' 2 0 1).testBit i = true) (ho : ∀ j, j ≠ i → (A' 2 0 1).testBit j = (A 2 0 1).testBit j) (hc : ∀ k, k ≠ i → (A 2 0 1).testBit k = true → cb (A' 2) k = cb (A 2) k) (hK : pc14 (A' 2 0 1) ≤ 12) (hi : i < n) (hi4 : i < 4) (hn9 : n ≤ 9) (hT : T = Tw (A 0) (A 2)) (hTb : T ≤ 2 ^ (6 * i)) : ∃ T' w', f_law2_J804 (lN T) (nI i) 1 w = some (.inl (1, lN T', nI (i + 1), w')) ∧ Q3 A' P n 4 w' ∧ T' = Tw (A' 0) (A' 2) ∧ T' ≤ 2 ^ (6 * (i + 1)) := by
  obtain ⟨hI', hC, h120, h00, h01, h20', hl, h30, h3, hy⟩ := id h
  obtain ⟨w1, e1, f1, l1⟩ := K_ways hI' hC
  have c1 := wy_stC hC f1 l1
  have h1 : Q3 A' P n 4 w1 := Q3_fr h c1 (f1 _ _ (by omega)) (fun j => f1 _ _ (by omega))
  have rd := K_readings hI' c1 (l := i) (by omega) hb
  rw [h20'] at rd
  have r64 : rdn (cb (A' 2) i) 4 4 ≤ 64 := by
    rw [← prs_rdn (by omega)]
    exact prs_le _ _
  have le := Tw_add (R := A' 0) (S := A 2) (S' := A' 2) (l := i) hI'.1 (by rw [h0]; exact hI) hI'.2.2.1 (by omega) (by omega) hn hb ho hc
  rw [h20, h0, ← hT] at le
  have p24 : 2 ^ (6 * i) ≤ 2 ^ 18 := Nat.pow_le_pow_right (by omega) (by omega)
  have pr : rdn (cb (A' 2) i) 4 4 * T ≤ 64 * 2 ^ (6 * i) := Nat.mul_le_mul r64 hTb
  have e64 : 64 * 2 ^ (6 * i) = 2 ^ (6 * (i + 1)) := by
    rw [show 6 * (i + 1) = 6 + 6 * i by omega, Nat.pow_add]
  obtain ⟨w2, e2, h2⟩ := J845_eq (i := i) (T := Tw (A' 0) (A' 2)) h1 hb hK hi hn9 rfl
  refine ⟨Tw (A' 0) (A' 2), w2, ?_, h2, rfl, by rw [h0]; omega⟩
  unfold f_law2_J804
  rw [e1, Option.bind_some, if_neg i10]
  dsimp only
  rw [rd, Option.bind_some, nI_l (by omega), lN_mul, Nat.mul_comm, h0] 
  have b1 : Tw (A 0) (A' 2) < 2 ^ 63 := by omega
  rw [if_neg (fun z => by have := (cmp_gt b1 (by omega)).mp z; omega), if_neg (fun z => by
    have z2 : lg_cmp (lN (Tw (A 0) (A' 2))) (lN 0) < 0 := z
    have := (cmp_lt b1 (by omega)).mp z2
    omega), ← h0]
  exact e2
theorem pcs : ∀ i, i < 4 → (2 ^ i - 1 ||| 2 ^ i) = 2 ^ (i + 1) - 1 ∧ pc14 (2 ^ i - 1 ||| 2 ^ i) ≤ 12 ∧ (2 ^ i - 1).testBit i = false := by decide
theorem rem_lt {x d : Nat} (h : 0 < d) : x % d < d := Nat.mod_lt _ h
theorem J753_eq {A : AST} {P n i T c1 c2 : Nat} {a : Int64} {w : ZW} (h : Q3 A P n 4 w) (hK : A 2 0 1 = 2 ^ i - 1) (hi : i < n) (hi4 : i < 4) (hn9 : n ≤ 9) (hT : T = Tw (A 0) (A 2)) (hTb : T ≤ 2 ^ (6 * i)) (ha : ch a 0 = c1) (a1 : isL true c1 = true) (a2 : c1 ≠ 32) (a3 : sgn c1 = true) (hc2 : c2 < 4) : ∃ A' T' w', f_law2_J753 (lN T) (nI i) (nI c2) a w = some (.inl (1, lN T', nI (i + 1), w')) ∧ Q3 A' P n 4 w' ∧ A' 2 0 1 = 2 ^ (i + 1) - 1 ∧ T' = Tw (A' 0) (A' 2) ∧ T' ≤ 2 ^ (6 * (i + 1)) := by
  obtain ⟨hI, hC, h120, h00, h01, h20, hl, h30, h3, hy⟩ := id h
  obtain ⟨s1, s2, s3⟩ := pcs i hi4
  obtain ⟨g1, g2, g3⟩ := sg65 c2 hc2
  obtain ⟨w1, e1, t1, f1, l1⟩ := K_typeT (a := a) (m := 0) (n := 1) (t := f0) (w := w) ⟨h120, fun i hi => by omega⟩ (by omega) (by omega) (fun j hj => by rw [show j = 0 by omega, ha]; exact a3) (by omega)
  have e1 : f_X11_type w a 1 = some (1, w1) := e1
  have t1 : tC 1 (fun _ => c1) w1 := ⟨t1.1, fun j hj => (t1.2 j hj).trans (by dsimp only; rw [if_neg (by omega), show 1 - 1 - (j - 0) = 0 by omega, ha])⟩
  have d43 : ch (43 : Int64) 0 = 43 := by decide +kernel
  obtain ⟨w2, e2, t2, f2, l2⟩ := K_typeT (a := 43) (m := 1) (n := 1) (t := fun _ => c1) (w := w1) t1 (by omega) (by omega) (fun j hj => by rw [show j = 0 by omega, d43]; decide) (by omega)
  have e2 : f_X11_type w1 43 1 = some (2, w2) := e2
  have t2 : tC 2 (fun j => if j = 1 then 43 else c1) w2 := ⟨t2.1, fun j hj => (t2.2 j hj).trans (by
    dsimp only
    rcases (show j = 0 ∨ j = 1 by omega) with rfl | rfl
    · rw [if_pos (by omega), if_neg (by omega)]
    · rw [if_neg (by omega), show 1 - 1 - (1 - 1) = 0 by omega, d43, if_pos rfl])⟩
  have d65 := ch65 c2 hc2
  obtain ⟨w3, e3, t3, f3, l3⟩ := K_typeT (a := (65 : Int64) + (nI c2).toInt64) (m := 2) (n := 1) (t := fun j => if j = 1 then 43 else c1) (w := w2) t2 (by omega) (by omega) (fun j hj => by rw [show j = 0 by omega, d65]; exact g1) (by omega)
  have e3 : f_X11_type w2 ((65 : Int64) + (nI c2).toInt64) 1 = some (3, w3) := e3
  have t3 : tC 3 (fun j => if j = 1 then 43 else if j = 0 then c1 else 65 + c2) w3 := ⟨t3.1, fun j hj => (t3.2 j hj).trans (by
    dsimp only
    rcases (show j = 0 ∨ j = 1 ∨ j = 2 by omega) with rfl | rfl | rfl
    · rw [if_pos (by omega), if_neg (by omega), if_neg (by omega), if_pos rfl]
    · rw [if_pos (by omega), if_pos rfl, if_pos rfl]
    · rw [if_neg (by omega), show 1 - 1 - (2 - 2) = 0 by omega, d65, if_neg (by omega), if_neg (by omega)])⟩
  obtain ⟨w4, e4, ⟨k1, k2⟩, k3, k4, k5⟩ := K_put (l := i) hI (ty_stC (ty_stC (ty_stC hC f1 l1) f2 l2) f3 l3) t3 a2 a1 rfl (show 65 + c2 ≠ 32 by omega) g3 (by omega) (by rw [hK]; exact s2)
  generalize hA' : ltR (A 2) i 1 1 _ _ = S' at k1 k2
  have n0 : S' 0 0 = A 2 0 0 := by rw [← hA']; exact ltR_o (by omega)
  have n1 : S' 0 1 = 2 ^ (i + 1) - 1 := by
    rw [← hA']
    show A 2 0 1 ||| 2 ^ i = _
    rw [hK, s1]
  have n2 : ∀ j, S' 1 j = A 2 1 j := fun j => by rw [← hA']; exact ltR_o (by omega)
  have n3 : ∀ k, k ≠ i → (A 2 0 1).testBit k = true → cb S' k = cb (A 2) k := fun k ne hk => by rw [← hA']; exact cb_other hI.2.2.1 hk ne
  have q3 : Q3 (aup A 2 S') P n 4 w4 := ⟨k1, k2, k3, h00, h01, n0.trans h20, fun j hj => (n2 j).trans (hl j hj), h30, h3, fun j hj => by
    rw [k4 _ _ (by omega) (by omega), f3 _ _ (by omega) (by omega), f2 _ _ (by omega) (by omega), f1 _ _ (by omega) (by omega)]
    exact hy j hj⟩
  have bt : ∀ j, (S' 0 1).testBit j = (decide (i = j) || (A 2 0 1).testBit j) := fun j => by
    rw [n1, ← s1, hK, Nat.testBit_or, Nat.testBit_two_pow, Bool.or_comm]
  obtain ⟨T', w5, e5, q5, v1, v2⟩ := J804_eq (A := A) (A' := aup A 2 S') (i := i) (T := T) q3 rfl hI.2.2.1 h20 (by rw [hK]; exact s3) (by show (S' 0 1).testBit i = true; rw [bt]; simp) (fun j hj => by show (S' 0 1).testBit j = _; rw [bt, decide_eq_false (by omega), Bool.false_or]) n3 (by show pc14 (S' 0 1) ≤ 12; rw [n1, ← s1]; exact s2) hi hi4 hn9 hT hTb
  refine ⟨aup A 2 S', T', w5, ?_, q5, n1, v1, v2⟩
  unfold f_law2_J753
  rw [e1, Option.bind_some]
  dsimp only
  rw [if_pos rfl, e2, Option.bind_some]
  dsimp only
  rw [if_pos rfl, e3, Option.bind_some]
  dsimp only
  rw [if_pos rfl, e4, Option.bind_some]
  dsimp only
  rw [if_pos rfl]
  exact e5
