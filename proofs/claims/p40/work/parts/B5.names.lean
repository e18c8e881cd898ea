/-! the law: four people, and what is typed -/
theorem K_typeT {w : ZW} {a : Int64} {m n : Nat} {t : Nat → Nat} (h : tC m t w) (n1 : 1 ≤ n) (n2 : n ≤ 8) (f2 : ∀ j, j < n → sgn (ch a j) = true) (s : m + n ≤ 40) : ∃ w', f_X11_type w a (nI n) = some (nI (m + n), w') ∧ tC (m + n) (fun i => if i < m then t i else ch a (n - 1 - (i - m))) w' ∧ (∀ c j, c ≠ 120 → c ≠ 121 → w'.1 c j = w.1 c j) ∧ w'.2 = w.2 := by
  refine ⟨tpW w 120 0 121 m n (fun i => nI (ch a (n - 1 - i))), K_type h.1 n1 n2 f2 s, ⟨tpW_c, fun i hi => ?_⟩, fun c j h1 h2 => tpW_o (by omega) (by omega), rfl⟩
  dsimp only
  by_cases q : i < m
  · rw [if_pos q, tpW_o (by omega) (by omega)]
    exact h.2 i q
  · rw [if_neg q, tpW_i (by omega) (by omega) (by omega)]
def Q3 (A : AST) (P n k : Nat) (w : ZW) : Prop := StI A ∧ StC A w.1 w.2 ∧ w.1 120 0 = 0 ∧ A 0 0 0 = P ∧ A 0 0 1 = n + 1 ∧ A 2 0 0 = k ∧ (∀ i, i < k → A 2 1 i = 1) ∧ A 3 0 0 = 2 ∧ (∀ p, A 3 1 p = 0 ∧ A 3 2 p = 0 ∧ A 3 3 p = 0) ∧ ∀ i, i < n → w.1 130 (6 * i + 2) = nI (A 0 6 i)
theorem ty_stC {A : AST} {w w' : ZW} (h : StC A w.1 w.2) (f : ∀ c j, c ≠ 120 → c ≠ 121 → w'.1 c j = w.1 c j) (g : w'.2 = w.2) : StC A w'.1 w'.2 := fr_K (fun a j q => f a j (by unfold kC at q; omega) (by unfold kC at q; omega)) (fun a j _ => by rw [g]) h
theorem nm1 {q : Bool} {t : Nat → Nat} (h1 : t 0 ≠ 32) (h2 : isL q (t 0) = true) : nm q t 1 0 0 f0 = .inr (1, fset f0 0 (t 0), 1) := by
  show (if t 0 = 32 then _ else if isL q (t 0) = true then (if 0 = 6 then _ else _) else _) = _
  rw [if_neg h1, if_pos h2, if_neg (by omega)]
  rfl
theorem ch65 : ∀ k, k < 4 → ch ((65 : Int64) + (nI k).toInt64) 0 = 65 + k := by decide +kernel
theorem sg65 : ∀ k, k < 4 → sgn (65 + k) = true ∧ isL false (65 + k) = true ∧ isL true (65 + k) = true := by decide
theorem people_lp {A : AST} {P n : Nat} {w : ZW} (h : Q3 A P n 0 w) (hK : A 2 0 1 = 0) : ∃ r, z_iter f_law2_L626 z_fuel ((1 : Int32), (0 : Int32), w) = some r ∧ ∃ B w', r = ((1 : Int32), w') ∧ Q3 B P n 4 w' ∧ B 2 0 1 = 0 := by
  refine it_inv (fun k s => ∃ A w, s = ((1 : Int32), nI k, w) ∧ Q3 A P n k w ∧ A 2 0 1 = 0) (fun r => ∃ B w', r = ((1 : Int32), w') ∧ Q3 B P n 4 w' ∧ B 2 0 1 = 0) 4 (fun k s hk hs => ?_) (fun s hs => ?_) (zf (by omega)) ⟨A, w, rfl, h, hK⟩
  · obtain ⟨A, w, rfl, ⟨hI, hC, h120, h00, h01, h20, hl, h30, h3, hy⟩, hK⟩ := hs
    left
    obtain ⟨g1, g2, g3⟩ := sg65 k hk
    obtain ⟨w1, e1, t1, f1, l1⟩ := K_typeT (a := (65 : Int64) + (nI k).toInt64) (m := 0) (n := 1) (t := f0) ⟨h120, fun i hi => by omega⟩ (by omega) (by omega) (fun j hj => by rw [show j = 0 by omega, ch65 k hk]; exact g1) (by omega)
    have e1 : f_X11_type w ((65 : Int64) + (nI k).toInt64) 1 = some (1, w1) := e1
    have t1 : tC 1 (fun _ => 65 + k) w1 := ⟨t1.1, fun i hi => (t1.2 i hi).trans (by dsimp only; rw [if_neg (by omega), show 1 - 1 - (i - 0) = 0 by omega, ch65 k hk])⟩
    obtain ⟨w2, e2, ⟨k1, k2⟩, k3, k4, k5⟩ := K_person1 (n := 1) (t := fun _ => 65 + k) (k := 1) (f := fset f0 0 (65 + k)) hI (ty_stC hC f1 l1) (by omega) (fun i hi => ⟨by omega, by omega⟩) t1 (nm1 (t := fun _ => 65 + k) (by omega) g2) (by omega)
    rw [h20] at e2 k1 k2
    refine ⟨((1 : Int32), nI (k + 1), w2), ?_, _, w2, rfl, ⟨k1, k2, k3, h00, h01, rfl, fun i hi => ?_, h30, h3, fun i hi => ?_⟩, ?_⟩
    · unfold f_law2_L626
      dsimp only
      rw [if_neg (show ¬ (4 : Int32) ≤ nI k from nnle (a := 4) hk), if_neg i10, e1, Option.bind_some, if_pos rfl]
      dsimp only
      rw [e2, Option.bind_some, if_pos rfl, nI_1]
    · show psR (A 2) k 1 (fset f0 0 (65 + k)) 1 i = 1
      by_cases e : i = k
      · subst e
        unfold psR
        rw [if_neg (by omega), if_pos ⟨rfl, rfl⟩]
      · rw [psR_o (by omega)]
        exact hl i (by omega)
    · rw [k4 _ _ (by omega) (by omega), f1 _ _ (by omega) (by omega)]
      exact hy i hi
    · show psR (A 2) k 1 (fset f0 0 (65 + k)) 0 1 = 0
      rw [psR_o (by omega)]
      exact hK
  · obtain ⟨A, w, rfl, h, hK⟩ := hs
    refine ⟨(1, w), ?_, A, w, rfl, h, hK⟩
    unfold f_law2_L626
    dsimp only
    rw [if_pos (show (4 : Int32) ≤ nI 4 from Int32.le_refl _)]
theorem J623_eq {xs : Nat → Int32} {len : Nat} {A : AST} {P n : Nat} {w : ZW} (h : Q2 A P n w) : ∃ B w', Q3 B P n 4 w' ∧ B 2 0 1 = 0 ∧ f_law2_J623 xs len (nI n) 1 (nI P) w = f_law2_J675 xs len (nI n) 1 (nI P) w' := by
  obtain ⟨hI, hC, h120, h00, h01, h20, h21, h30, h3, hy⟩ := h
  obtain ⟨r, e, B, w', rfl, q, hK⟩ := people_lp (A := A) (P := P) (n := n) (w := w) ⟨hI, hC, h120, h00, h01, h20, fun i hi => by omega, h30, h3, hy⟩ h21
  refine ⟨B, w', q, hK, ?_⟩
  unfold f_law2_J623
  rw [e, Option.bind_some]
/-! letters on the tape -/
theorem pr3 {t : Nat → Nat} (a1 : t 0 ≠ 32) (a2 : isL true (t 0) = true) (b : t 1 = 43) (c1 : t 2 ≠ 32) (c2 : isL true (t 2) = true) : pr 3 t = .inr ((1, fset f0 0 (t 0)), (1, fset f0 0 (t 2))) := by
  have e1 : nm true t 3 0 0 f0 = .inr (1, fset f0 0 (t 0), 1) := by
    show (if t 0 = 32 then _ else if isL true (t 0) = true then (if 0 = 6 then _ else nm true t 2 1 1 (fset f0 0 (t 0))) else _) = _
    rw [if_neg a1, if_pos a2, if_neg (by omega)]
    show (if t 1 = 32 then _ else if isL true (t 1) = true then _ else if 1 = 0 then _ else _) = _
    rw [b, if_neg (by omega), if_neg (show ¬ isL true 43 = true by decide), if_neg (by omega)]
  have e2 : nm true t 1 2 0 f0 = .inr (1, fset f0 0 (t 2), 3) := by
    show (if t 2 = 32 then _ else if isL true (t 2) = true then (if 0 = 6 then _ else _) else _) = _
    rw [if_neg c1, if_pos c2, if_neg (by omega)]
    rfl
  unfold pr
  rw [e1]
  show pr2 3 t 1 (fset f0 0 (t 0)) 1 = _
  unfold pr2
  rw [if_pos ⟨by omega, b⟩, show 3 - (1 + 1) = 1 from rfl, show 1 + 1 = 2 from rfl, e2]
  rfl
/-- letters of one lock, typed -/
theorem K_put {A : AST} {w : ZW} {l : Nat} {t : Nat → Nat} (hI : StI A) (hC : StC A w.1 w.2) (hT : tC 3 t w) (a1 : t 0 ≠ 32) (a2 : isL true (t 0) = true) (b : t 1 = 43) (c1 : t 2 ≠ 32) (c2 : isL true (t 2) = true) (hl : l < A 0 0 1) (hpc : pc14 (A 2 0 1 ||| 2 ^ l) ≤ 12) : ∃ w', f_X11_letters w (nI l) = some (2, w') ∧ (StI (aup A 2 (ltR (A 2) l 1 1 (fset f0 0 (t 0)) (fset f0 0 (t 2)))) ∧ StC (aup A 2 (ltR (A 2) l 1 1 (fset f0 0 (t 0)) (fset f0 0 (t 2)))) w'.1 w'.2) ∧ w'.1 120 0 = 0 ∧ (∀ a j, a ≠ 16 → a ≠ 120 → w'.1 a j = w.1 a j) ∧ ∀ a j, a ≠ 18 → a ≠ 19 → a ≠ 120 → w'.2 a j = w.2 a j := by
  have r : ∀ x, isL true x = true → 32 ≤ x ∧ x ≤ 126 := fun x h => by
    have := isL_lt h
    omega
  exact K_letters1 (n := 3) (t := t) (k1 := 1) (k2 := 1) hI hC (by omega) (fun i hi => by
    rcases (show i = 0 ∨ i = 1 ∨ i = 2 by omega) with rfl | rfl | rfl
    · exact r _ a2
    · rw [b]; omega
    · exact r _ c2) hT (pr3 a1 a2 b c1 c2) hl hpc
