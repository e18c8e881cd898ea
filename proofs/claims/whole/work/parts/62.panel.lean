/-! panel -/
/-- one number set -/
def sup (R : ST) (a j v : Nat) : ST := fun b k => if b = a ∧ k = j then v else R b k
theorem sup_n {R : ST} {a j v b k : Nat} (h : ¬ (b = a ∧ k = j)) : sup R a j v b k = R b k := if_neg h
theorem sup_e {R : ST} {a j v : Nat} : sup R a j v a j = v := if_pos ⟨rfl, rfl⟩
theorem upc {w : ZW} {a j b k : Nat} {x : Int32} (h : ¬ (b = a ∧ k = j)) : (z_upI w a j x).1 b k = w.1 b k := if_neg h
theorem upc_e {w : ZW} {a j : Nat} {x : Int32} : (z_upI w a j x).1 a j = x := if_pos ⟨rfl, rfl⟩
def aup (A : AST) (k : Nat) (S : ST) : AST := fun i => if i = k then S else A i
theorem X11_panel_eq (w : ZW) (a b c : Int32) : f_X11_panel w a b c = if (rg 1 99999 a && rg 1 99999 b && rg 1 99999 c) = true then f_X4_addPanel w a b c else some (-1, w) := by
  unfold f_X11_panel
  rw [within_rg, within_rg, within_rg]
  simp only [Option.bind_some, if10]
  cases rg 1 99999 a <;> cases rg 1 99999 b <;> cases rg 1 99999 c <;> simp
  all_goals try (cases f_X4_addPanel w a b c <;> rfl)
def panR (R : ST) (P x y z : Nat) : ST := sup (sup (sup (sup R 1 P x) 2 P y) 3 P z) 0 0 (P + 1)
theorem panR_1 {R : ST} {P x y z p : Nat} : panR R P x y z 1 p = if p = P then x else R 1 p := by simp [panR, sup]
theorem panR_2 {R : ST} {P x y z p : Nat} : panR R P x y z 2 p = if p = P then y else R 2 p := by simp [panR, sup]
theorem panR_3 {R : ST} {P x y z p : Nat} : panR R P x y z 3 p = if p = P then z else R 3 p := by simp [panR, sup]
theorem panR_o {R : ST} {P x y z a j : Nat} (h : 3 < a ∨ (a = 0 ∧ j ≠ 0)) : panR R P x y z a j = R a j := by
  unfold panR
  rw [sup_n (by omega), sup_n (by omega), sup_n (by omega), sup_n (by omega)]
def panC (w : ZW) (P x y z : Nat) : ZW := z_upI (z_upI (z_upI (z_upI w 3 P (nI x)) 4 P (nI y)) 5 P (nI z)) 2 0 (nI (P + 1))
def panM (w : ZW) (P x y z : Nat) : ZW := z_upI (z_upI (z_upI (z_upI (z_upI (z_upI (z_upI w 131 (3 * P) (nI x)) 131 (3 * P + 1) (nI y)) 131 (3 * P + 2) (nI z)) 149 P 0) 150 P 0) 151 P 0) 130 0 (nI (P + 1))
theorem add_eq {w : ZW} {P x y z : Nat} (h : w.1 2 0 = nI P) (hP : P ≤ 6) : f_X4_addPanel w (nI x) (nI y) (nI z) = if P < 6 then some (nI P, panC w P x y z) else some (-3, w) := by
  unfold f_X4_addPanel
  by_cases q : P < 6
  · simp only [h, show (6 : Int32) = nI 6 from rfl, nI_ltI (show P < 2 ^ 31 by omega) (show 6 < 2 ^ 31 by omega), q, if_true, z_in_t q (by omega), nI_clamp (show P < 2 ^ 31 by omega), z_let, upc (show ¬ (2 = 3 ∧ 0 = P) by omega), upc (show ¬ (2 = 4 ∧ 0 = P) by omega), upc (show ¬ (2 = 5 ∧ 0 = P) by omega), nI_1]
    rfl
  · simp only [h, show (6 : Int32) = nI 6 from rfl, nI_ltI (show P < 2 ^ 31 by omega) (show 6 < 2 ^ 31 by omega), q, if_false]
theorem madd_eq {w : ZW} {P : Nat} (h : w.1 130 0 = nI P) (hP : P ≤ 6) (a b c : Int32) : f_X12_panel w a b c = if (rg 1 99999 a && rg 1 99999 b && rg 1 99999 c) = true then (if P < 6 then some (nI P, z_upI (z_upI (z_upI (z_upI (z_upI (z_upI (z_upI w 131 (3 * P) a) 131 (3 * P + 1) b) 131 (3 * P + 2) c) 149 P 0) 150 P 0) 151 P 0) 130 0 (nI (P + 1))) else some (-3, w)) else some (-1, w) := by
  unfold f_X12_panel
  rw [in_rg _ _ _ (by decide) (by decide), in_rg _ _ _ (by decide) (by decide), in_rg _ _ _ (by decide) (by decide)]
  simp only [Option.bind_some, if10]
  cases rg 1 99999 a
  · simp
  cases rg 1 99999 b
  · simp
  cases rg 1 99999 c
  · simp
  simp only [Bool.and_self, if_true, h, show (6 : Int32) = nI 6 from rfl, nI_inj (show P < 2 ^ 31 by omega) (show 6 < 2 ^ 31 by omega)]
  by_cases q : P < 6
  · have n6 : ¬ P = 6 := by omega
    simp only [q, n6, if_true, if_false, mul3, show (1 : Int32) = nI 1 from rfl, show (2 : Int32) = nI 2 from rfl, nI_add, z_let, z_in_t (show 3 * P < 18 by omega) (by omega), z_in_t (show 3 * P + 1 < 18 by omega) (by omega), z_in_t (show 3 * P + 2 < 18 by omega) (by omega), z_in_t (show P < 6 by omega) (by omega), nI_clamp (show 3 * P < 2 ^ 31 by omega), nI_clamp (show 3 * P + 1 < 2 ^ 31 by omega), nI_clamp (show 3 * P + 2 < 2 ^ 31 by omega), nI_clamp (show P < 2 ^ 31 by omega), h,
      fun w x => upc (w := w) (x := x) (show ¬ (130 = 131 ∧ 0 = 3 * P) by omega), fun w x => upc (w := w) (x := x) (show ¬ (130 = 131 ∧ 0 = 3 * P + 1) by omega), fun w x => upc (w := w) (x := x) (show ¬ (130 = 131 ∧ 0 = 3 * P + 2) by omega), fun w x => upc (w := w) (x := x) (show ¬ (130 = 149 ∧ 0 = P) by omega), fun w x => upc (w := w) (x := x) (show ¬ (130 = 150 ∧ 0 = P) by omega), fun w x => upc (w := w) (x := x) (show ¬ (130 = 151 ∧ 0 = P) by omega), upc_e, pk_sub (show 1 ≤ P + 1 by omega), Nat.add_sub_cancel]
  · have n6 : P = 6 := by omega
    simp [n6]
theorem sim_panel {w : ZW} (h : Rel w) (a b c : Int32) : ∃ r w1 w2, f_X11_panel w a b c = some (r, w1) ∧ f_X12_panel w1 a b c = some (r, w2) ∧ Rel w2 := by
  have h0 := h
  obtain ⟨A, hA⟩ := h
  obtain ⟨hI, hC, hM, hT, hS, hIm⟩ := id hA
  have hP := hI.1.1
  rw [X11_panel_eq]
  by_cases g : (rg 1 99999 a && rg 1 99999 b && rg 1 99999 c) = true
  · rw [if_pos g]
    have g' := g
    simp only [Bool.and_eq_true] at g'
    obtain ⟨x, x1, x2, rfl⟩ := rg_t g'.1.1 (by decide) (by decide)
    obtain ⟨y, y1, y2, rfl⟩ := rg_t g'.1.2 (by decide) (by decide)
    obtain ⟨z, z1, z2, rfl⟩ := rg_t g'.2 (by decide) (by decide)
    rw [add_eq hC.1.1 hP]
    by_cases q : A 0 0 0 < 6
    · rw [if_pos q]
      refine ⟨_, _, _, rfl, (madd_eq (P := A 0 0 0) ?_ hP _ _ _).trans ((if_pos g).trans (if_pos q)), ?_⟩
      · unfold panC
        simp only [upc (show ¬ (130 = 3 ∧ 0 = A 0 0 0) by omega), upc (show ¬ (130 = 4 ∧ 0 = A 0 0 0) by omega), upc (show ¬ (130 = 5 ∧ 0 = A 0 0 0) by omega), upc (show ¬ (130 = 2 ∧ 0 = 0) by omega)]
        exact hM.1.1
      · generalize hP0 : A 0 0 0 = P at *
        have fr : ∀ a j, ¬ (a = 3 ∨ a = 4 ∨ a = 5 ∨ (a = 2 ∧ j = 0) ∨ a = 131 ∨ a = 149 ∨ a = 150 ∨ a = 151 ∨ (a = 130 ∧ j = 0)) → (panM (panC w P x y z) P x y z).1 a j = w.1 a j := by
          intro a j q
          unfold panM panC
          rw [upc (by omega), upc (by omega), upc (by omega), upc (by omega), upc (by omega), upc (by omega), upc (by omega), upc (by omega), upc (by omega), upc (by omega), upc (by omega)]
        refine ⟨aup A 0 (panR (A 0) P x y z), ⟨?_, ?_, ?_, ?_, hI.2.2.2.2⟩, ⟨?_, ?_, ?_, ?_, ?_⟩, ⟨?_, ?_, ?_, ?_, ?_⟩, ?_, ?_, ?_⟩
        · obtain ⟨-, i2, i3, i4, i5⟩ := hI.1
          refine ⟨?_, ?_, ?_, fun p hp => ?_, fun i hi => ?_⟩
          · show panR (A 0) P x y z 0 0 ≤ 6
            unfold panR
            rw [sup_e]
            omega
          · show panR (A 0) P x y z 0 1 ≤ 14
            rw [panR_o (by omega)]
            exact i2
          · show panR (A 0) P x y z 0 2 < 2 ^ panR (A 0) P x y z 0 1
            rw [panR_o (by omega), panR_o (by omega)]
            exact i3
          · have hp : p < P + 1 := hp
            show (1 ≤ panR (A 0) P x y z 1 p ∧ panR (A 0) P x y z 1 p ≤ 99999) ∧ (1 ≤ panR (A 0) P x y z 2 p ∧ panR (A 0) P x y z 2 p ≤ 99999) ∧ (1 ≤ panR (A 0) P x y z 3 p ∧ panR (A 0) P x y z 3 p ≤ 99999)
            rw [panR_1, panR_2, panR_3]
            by_cases e : p = P
            · rw [if_pos e, if_pos e, if_pos e]
              exact ⟨⟨x1, x2⟩, ⟨y1, y2⟩, ⟨z1, z2⟩⟩
            · rw [if_neg e, if_neg e, if_neg e]
              exact i4 p (by omega)
          · have hi : i < panR (A 0) P x y z 0 1 := hi
            rw [panR_o (by omega)] at hi
            have := i5 i hi
            show (1 ≤ panR (A 0) P x y z 4 i ∧ panR (A 0) P x y z 4 i ≤ 999) ∧ panR (A 0) P x y z 5 i ≤ 1 ∧ panR (A 0) P x y z 6 i ≤ 19 ∧ panR (A 0) P x y z 7 i < P + 1 ∧ panR (A 0) P x y z 8 i ≤ 2 ∧ panR (A 0) P x y z 9 i ≤ i ∧ (panR (A 0) P x y z 9 i ≠ 0 → panR (A 0) P x y z 7 i = panR (A 0) P x y z 7 (panR (A 0) P x y z 9 i - 1) ∧ panR (A 0) P x y z 8 i = panR (A 0) P x y z 8 (panR (A 0) P x y z 9 i - 1) ∧ ((panR (A 0) P x y z 0 2).testBit (panR (A 0) P x y z 9 i - 1) = true → (panR (A 0) P x y z 0 2).testBit i = true))
            simp only [fun j => panR_o (R := A 0) (P := P) (x := x) (y := y) (z := z) (j := j) (show 3 < 4 ∨ _ from Or.inl (by omega)), fun j => panR_o (R := A 0) (P := P) (x := x) (y := y) (z := z) (j := j) (show 3 < 5 ∨ _ from Or.inl (by omega)), fun j => panR_o (R := A 0) (P := P) (x := x) (y := y) (z := z) (j := j) (show 3 < 6 ∨ _ from Or.inl (by omega)), fun j => panR_o (R := A 0) (P := P) (x := x) (y := y) (z := z) (j := j) (show 3 < 7 ∨ _ from Or.inl (by omega)), fun j => panR_o (R := A 0) (P := P) (x := x) (y := y) (z := z) (j := j) (show 3 < 8 ∨ _ from Or.inl (by omega)), fun j => panR_o (R := A 0) (P := P) (x := x) (y := y) (z := z) (j := j) (show 3 < 9 ∨ _ from Or.inl (by omega)), panR_o (R := A 0) (P := P) (x := x) (y := y) (z := z) (show 3 < 0 ∨ (0 = 0 ∧ 2 ≠ 0) from Or.inr ⟨rfl, by omega⟩)]
            obtain ⟨a1, a2, a3, a4, a5, a6, a7⟩ := this
            exact ⟨a1, a2, a3, by omega, a5, a6, a7⟩
        · obtain ⟨b1, b2⟩ := hI.2.1
          refine ⟨b1, fun k hk => ?_⟩
          obtain ⟨b3, b4, b5⟩ := b2 k hk
          exact ⟨show A 1 1 k < P + 1 by omega, b4, b5⟩
        · have e : panR (A 0) P x y z 0 1 = A 0 0 1 := panR_o (by omega)
          show NamesI (panR (A 0) P x y z 0 1) (A 2)
          rw [e]
          exact hI.2.2.1
        · obtain ⟨b1, b2⟩ := hI.2.2.2.1
          refine ⟨b1, fun p hp => ?_⟩
          obtain ⟨b3, b4, b5, b6⟩ := b2 p hp
          exact ⟨b3, b4, b5, fun q => b6 (by have q : P + 1 ≤ p := q; omega)⟩
        · obtain ⟨c1, c2, c3, c4, c5⟩ := hC.1
          have w0 : (panM (panC w P x y z) P x y z).1 2 0 = nI (P + 1) := by simp [panM, panC, z_upI]
          refine ⟨w0, ?_, ?_, fun p hp => ?_, fun i hi => ?_⟩
          · exact (fr 2 4 (by omega)).trans (c2.trans (by show _ = nI (panR (A 0) P x y z 0 1); rw [panR_o (by omega)]))
          · exact (fr 2 5 (by omega)).trans (c3.trans (by show _ = nI (panR (A 0) P x y z 0 2); rw [panR_o (by omega)]))
          · have hp : p < P + 1 := hp
            show (panM (panC w P x y z) P x y z).1 3 p = nI (panR (A 0) P x y z 1 p) ∧ (panM (panC w P x y z) P x y z).1 4 p = nI (panR (A 0) P x y z 2 p) ∧ (panM (panC w P x y z) P x y z).1 5 p = nI (panR (A 0) P x y z 3 p)
            rw [panR_1, panR_2, panR_3]
            by_cases e : p = P
            · subst e
              simp [panM, panC, z_upI]
            · have := c4 p (by omega)
              simp [panM, panC, z_upI, e, this]
          · have hi : i < panR (A 0) P x y z 0 1 := hi
            rw [panR_o (by omega)] at hi
            have := c5 i hi
            show (panM (panC w P x y z) P x y z).1 6 i = nI (panR (A 0) P x y z 4 i) ∧ (panM (panC w P x y z) P x y z).1 7 i = nI (panR (A 0) P x y z 5 i) ∧ (panM (panC w P x y z) P x y z).1 8 i = nI (panR (A 0) P x y z 6 i) ∧ (panM (panC w P x y z) P x y z).1 9 i = nI (panR (A 0) P x y z 7 i) ∧ (panM (panC w P x y z) P x y z).1 10 i = nI (panR (A 0) P x y z 8 i) ∧ (panM (panC w P x y z) P x y z).1 11 i = hol (panR (A 0) P x y z 9 i)
            rw [fr _ _ (by omega), fr _ _ (by omega), fr _ _ (by omega), fr _ _ (by omega), fr _ _ (by omega), fr _ _ (by omega), panR_o (by omega), panR_o (by omega), panR_o (by omega), panR_o (by omega), panR_o (by omega), panR_o (by omega)]
            exact this
        · exact fr_SC (fun a j q => fr a j (by unfold cSC at q; omega)) hC.2.1
        · exact fr_NC (fun a j q => fr a j (by unfold cNC at q; omega)) (fun a j _ => rfl) hC.2.2.1
        · exact fr_NiC (fun a j q => fr a j (by unfold cNiC at q; omega)) hC.2.2.2.1
        · exact fr_GC (fun a j q => fr a j (by unfold cGC at q; omega)) hC.2.2.2.2
        · obtain ⟨c1, c2, c4, c5⟩ := hM.1
          have w0 : (panM (panC w P x y z) P x y z).1 130 0 = nI (P + 1) := by simp [panM, panC, z_upI]
          refine ⟨w0, ?_, fun p hp => ?_, fun i hi => ?_⟩
          · exact (fr 130 2 (by omega)).trans (c2.trans (by show _ = nI (panR (A 0) P x y z 0 1); rw [panR_o (by omega)]))
          · have hp : p < P + 1 := hp
            show (panM (panC w P x y z) P x y z).1 131 (3 * p) = nI (panR (A 0) P x y z 1 p) ∧ (panM (panC w P x y z) P x y z).1 131 (3 * p + 1) = nI (panR (A 0) P x y z 2 p) ∧ (panM (panC w P x y z) P x y z).1 131 (3 * p + 2) = nI (panR (A 0) P x y z 3 p)
            rw [panR_1, panR_2, panR_3]
            by_cases e : p = P
            · subst e
              simp [panM, panC, z_upI]
            · have := c4 p (by omega)
              simp [panM, panC, z_upI, e, this, show ¬ 3 * p = 3 * P + 1 by omega, show ¬ 3 * p = 3 * P + 2 by omega, show ¬ 3 * p = 3 * P by omega, show ¬ 3 * p + 1 = 3 * P + 2 by omega, show ¬ 3 * p + 1 = 3 * P by omega, show ¬ 3 * p + 2 = 3 * P by omega, show ¬ 3 * p + 2 = 3 * P + 1 by omega]
          · have hi : i < panR (A 0) P x y z 0 1 := hi
            rw [panR_o (by omega)] at hi
            have := c5 i hi
            show (panM (panC w P x y z) P x y z).1 132 i = nI (panR (A 0) P x y z 4 i) ∧ (panM (panC w P x y z) P x y z).1 133 i = nI (panR (A 0) P x y z 5 i) ∧ (panM (panC w P x y z) P x y z).1 134 i = nI (panR (A 0) P x y z 6 i) ∧ (panM (panC w P x y z) P x y z).1 135 i = nI (panR (A 0) P x y z 7 i) ∧ (panM (panC w P x y z) P x y z).1 136 i = nI (panR (A 0) P x y z 8 i) ∧ (panM (panC w P x y z) P x y z).1 137 i = hol (panR (A 0) P x y z 9 i) ∧ (panM (panC w P x y z) P x y z).1 138 i = nI (if (panR (A 0) P x y z 0 2).testBit i then 1 else 0)
            rw [fr _ _ (by omega), fr _ _ (by omega), fr _ _ (by omega), fr _ _ (by omega), fr _ _ (by omega), fr _ _ (by omega), fr _ _ (by omega), panR_o (by omega), panR_o (by omega), panR_o (by omega), panR_o (by omega), panR_o (by omega), panR_o (by omega), panR_o (by omega)]
            exact this
        · exact fr_SM (fun a j q => fr a j (by unfold cSM at q; omega)) hM.2.1
        · have e : panR (A 0) P x y z 0 1 = A 0 0 1 := panR_o (by omega)
          show NamesM (panR (A 0) P x y z 0 1) (A 2) _
          rw [e]
          exact fr_NM (fun a j q => fr a j (by unfold cNM at q; omega)) hM.2.2.1
        · obtain ⟨b1, b2⟩ := hM.2.2.2.1
          refine ⟨(fr 130 25 (by omega)).trans b1, fun p hp => ?_⟩
          have hp : p < P + 1 := hp
          show (panM (panC w P x y z) P x y z).1 149 p = nI (A 3 1 p) ∧ (panM (panC w P x y z) P x y z).1 150 p = nI (A 3 2 p) ∧ (panM (panC w P x y z) P x y z).1 151 p = nI (A 3 3 p)
          by_cases e : p = P
          · subst e
            obtain ⟨-, -, -, z⟩ := hI.2.2.2.1.2 p q
            obtain ⟨z1, z2, z3⟩ := z (by omega)
            rw [z1, z2, z3]
            simp [panM, panC, z_upI, nI]
          · have := b2 p (by omega)
            simp [panM, panC, z_upI, e, this]
        · exact fr_GM (fun a j q => fr a j (by unfold cGM at q; omega)) hM.2.2.2.2
        · exact fr_T (fun a j q => fr a j (by unfold cT at q; omega)) hT
        · exact fr_Sh (fun a j q => fr a j (by unfold cSh at q; omega)) hS
        · exact fr_Im (fun a j q => fr a j (by unfold cIm at q; omega)) (fun a j _ => rfl) hIm
    · rw [if_neg q]
      exact ⟨_, _, _, rfl, (madd_eq (P := A 0 0 0) hM.1.1 hP _ _ _).trans ((if_pos g).trans (if_neg q)), h0⟩
  · rw [if_neg g]
    exact ⟨_, _, _, rfl, (madd_eq (P := A 0 0 0) hM.1.1 hP _ _ _).trans (if_neg g), h0⟩
