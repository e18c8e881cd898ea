/-! the class alone: the rail's calls -/
theorem rg_y {lo hi j : Nat} (h1 : lo ≤ j) (h2 : j ≤ hi) (hh : hi < 2 ^ 31) : rg lo hi (nI j) = true := by
  rw [rg_nI (by omega) hh (by omega)]
  simp [h1, h2]
theorem ix_y {n j : Nat} (h : j < n) (hn : n < 2 ^ 31) : ixb n (nI j) = true := by
  rw [ix_nI hn (by omega)]
  simpa using h
theorem K_hang {A : AST} {w : ZW} {p q x y z : Nat} (hI : StI A) (hC : StC A w.1 w.2) (q4 : A 0 0 1 < 14) (hp : p < A 0 0 0) (hq : q ≤ 2) (hx : 1 ≤ x ∧ x ≤ 999) (hy : y ≤ 1) (hz : z ≤ 19) : ∃ w', f_X11_hang w (nI p) (nI q) (nI x) (nI y) (nI z) = some (nI (A 0 0 1), w') ∧ (StI (aup A 0 (lkR (A 0) (A 0 0 1) p q 0 x y z)) ∧ StC (aup A 0 (lkR (A 0) (A 0 0 1) p q 0 x y z)) w'.1 w'.2) ∧ (∀ a j, 12 ≤ a → w'.1 a j = w.1 a j) ∧ w'.2 = w.2 := by
  have hP := hI.1.1
  have f0 : ∀ a j, 12 ≤ a → (lkC w (A 0 0 1) (nI p) (nI q) (nI x) (nI y) (nI z)).1 a j = w.1 a j := by
    intro a j h
    unfold lkC
    rw [upc (by omega), upc (by omega), upc (by omega), upc (by omega), upc (by omega), upc (by omega), upc (by omega)]
  have q1 : (ixb (A 0 0 0) (nI p) && rg 0 2 (nI q)) = true := by rw [ix_y hp (by omega), rg_y (by omega) hq (by decide)]; rfl
  have q3 : (rg 1 999 (nI x) && rg 0 1 (nI y) && rg 0 19 (nI z)) = true := by rw [rg_y hx.1 hx.2 (by decide), rg_y (by omega) hy (by decide), rg_y (by omega) hz (by decide)]; rfl
  refine ⟨lkC w (A 0 0 1) (nI p) (nI q) (nI x) (nI y) (nI z), ?_, K_lock (m := 0) hI hC rfl q4 hx hy hz hp hq (Nat.zero_le _) (fun h => absurd rfl h) (fun a j h => ?_) rfl ?_ ?_, f0, rfl⟩
  · rw [X11_hang_eq hC.1.1 hC.1.2.1 hI.1.2.1, if_pos q1, if_pos q3, if_pos q4]
  · unfold lkC
    rw [upc (by omega), upc (by omega), upc (by omega), upc (by omega), upc (by omega), upc (by omega), upc (by omega)]
  · simp [lkC, z_upI]
  · simp [lkC, z_upI, hol]
theorem K_hangOn {A : AST} {w : ZW} {l x y z : Nat} (hI : StI A) (hC : StC A w.1 w.2) (q4 : A 0 0 1 < 14) (hl : l < A 0 0 1) (hg : (A 0 0 2).testBit l = false) (hx : 1 ≤ x ∧ x ≤ 999) (hy : y ≤ 1) (hz : z ≤ 19) : ∃ w', f_X11_hangOn w (nI l) (nI x) (nI y) (nI z) = some (nI (A 0 0 1), w') ∧ (StI (aup A 0 (lkR (A 0) (A 0 0 1) (A 0 7 l) (A 0 8 l) (l + 1) x y z)) ∧ StC (aup A 0 (lkR (A 0) (A 0 0 1) (A 0 7 l) (A 0 8 l) (l + 1) x y z)) w'.1 w'.2) ∧ (∀ a j, 12 ≤ a → w'.1 a j = w.1 a j) ∧ w'.2 = w.2 := by
  have hP := hI.1.1
  have hL := hI.1.2.1
  have hgo := X4_isGone_eq hC.1.2.2.1 (p31 hL hI.1.2.2.1) (show l < 32 by omega)
  obtain ⟨-, -, -, i7, i8, -⟩ := hI.1.2.2.2.2 l hl
  obtain ⟨-, -, -, c7, c8, -⟩ := hC.1.2.2.2.2 l hl
  have f0 : ∀ a j, 12 ≤ a → (z_upI (lkC w (A 0 0 1) (nI (A 0 7 l)) (nI (A 0 8 l)) (nI x) (nI y) (nI z)) 11 (A 0 0 1) (nI l)).1 a j = w.1 a j := by
    intro a j h
    unfold lkC
    rw [upc (by omega), upc (by omega), upc (by omega), upc (by omega), upc (by omega), upc (by omega), upc (by omega), upc (by omega)]
  have q1 : ixb (A 0 0 1) (nI l) = true := ix_y hl (by omega)
  have q3 : (rg 1 999 (nI x) && rg 0 1 (nI y) && rg 0 19 (nI z)) = true := by rw [rg_y hx.1 hx.2 (by decide), rg_y (by omega) hy (by decide), rg_y (by omega) hz (by decide)]; rfl
  refine ⟨z_upI (lkC w (A 0 0 1) (nI (A 0 7 l)) (nI (A 0 8 l)) (nI x) (nI y) (nI z)) 11 (A 0 0 1) (nI l), ?_, K_lock (m := l + 1) hI hC rfl q4 hx hy hz i7 i8 (by omega) (fun h => ⟨rfl, rfl, hg⟩) (fun a j h => ?_) rfl ?_ ?_, f0, rfl⟩
  · unfold f_X11_hangOn
    rw [X4_hasLock_eq hC.1.2.1, X11_isLock_eq, hgo]
    simp only [Option.bind_some, if10, i10, if_false, if_true, Bool.false_eq_true, q1, q3, hg]
    unfold f_X4_addToLock
    simp only [z_in_t (show l < 14 by omega) (by omega), if_true, nI_clamp (show l < 2 ^ 31 by omega), c7, c8, addToBar_eq hC.1.2.1 hL, q4, Option.bind_some, nI_pos (show A 0 0 1 < 2 ^ 31 by omega), if_false, z_in_t q4 (by omega), nI_clamp (show A 0 0 1 < 2 ^ 31 by omega), z_let]
  · unfold lkC
    rw [upc (by omega), upc (by omega), upc (by omega), upc (by omega), upc (by omega), upc (by omega), upc (by omega), upc (by omega)]
  · simp [lkC, z_upI]
  · simp [lkC, z_upI, hol]
theorem K_told {A : AST} {w : ZW} (hI : StI A) (hC : StC A w.1 w.2) {l : Nat} (hl : l < A 0 0 1) : f_X11_told w (nI l) 0 = some (nI (A 0 4 l)) ∧ f_X11_told w (nI l) 1 = some (nI (A 0 5 l)) ∧ f_X11_told w (nI l) 5 = some (hol (A 0 9 l)) ∧ f_X11_told w (nI l) 6 = some (nI (rB (A 0) l)) ∧ f_X11_told w (nI l) 7 = some (nI (if (A 0 0 2).testBit l = true then 1 else 0)) := by
  have hL := hI.1.2.1
  obtain ⟨c4, c5, c6, c7, c8, c9⟩ := hC.1.2.2.2.2 l hl
  have q1 : ixb (A 0 0 1) (nI l) = true := ix_y hl (by omega)
  have e : ∀ b, f_X11_told w (nI l) b = f_X4_tell w (nI l) b := fun b => by
    unfold f_X11_told
    rw [X4_hasLock_eq hC.1.2.1, Option.bind_some, if10, if_pos q1]
    cases f_X4_tell w (nI l) b <;> rfl
  have zi := z_in_t (show l < 14 by omega) (by omega)
  have zc := nI_clamp (show l < 2 ^ 31 by omega)
  refine ⟨?_, ?_, ?_, ?_, ?_⟩
  · rw [e]
    unfold f_X4_tell
    rw [if_pos rfl, if_pos zi, zc, c4]
  · rw [e]
    unfold f_X4_tell
    rw [if_neg (by decide), if_pos rfl, if_pos zi, zc, c5]
  · rw [e]
    unfold f_X4_tell
    rw [if_neg (by decide), if_neg (by decide), if_neg (by decide), if_neg (by decide), if_neg (by decide), if_pos rfl, if_pos zi, zc, c9]
  · rw [e]
    unfold f_X4_tell
    rw [if_neg (by decide), if_neg (by decide), if_neg (by decide), if_neg (by decide), if_neg (by decide), if_neg (by decide), if_pos rfl, X4_borneBy_eq hI.1 hC.1 hl]
    rfl
  · rw [e]
    unfold f_X4_tell
    rw [if_neg (by decide), if_neg (by decide), if_neg (by decide), if_neg (by decide), if_neg (by decide), if_neg (by decide), if_neg (by decide), if_pos rfl, X4_isGone_eq hC.1.2.2.1 (p31 hL hI.1.2.2.1) (show l < 32 by omega), Option.bind_some]
    cases (A 0 0 2).testBit l <;> rfl
theorem K_load {A : AST} {w : ZW} (hI : StI A) (hC : StC A w.1 w.2) {p q : Nat} (hp : p < A 0 0 0) (hq : q ≤ 4) : f_X11_load w (nI p) (nI q) = some (nI (rLd (A 0) p q)) := by
  have hP := hI.1.1
  unfold f_X11_load
  rw [X4_hasPanel_eq hC.1.1, Option.bind_some, if10, if_pos (ix_y hp (by omega)), X4_loadOf_eq hI.1 hC.1 hp hq]
  rfl
theorem K_over {A : AST} {w : ZW} (hI : StI A) (hC : StC A w.1 w.2) : f_X11_over w = some (oc (rOv (A 0))) := by
  unfold f_X11_over
  rw [X4_firstOver_eq hI.1 hC.1]
  rfl
theorem K_count2 {A : AST} {w : ZW} (hI : StI A) (hC : StC A w.1 w.2) : f_X11_count w 2 = some (nI (pc14 (A 0 0 2))) := by
  unfold f_X11_count
  rw [if_neg (by decide), if_neg (by decide), if_pos rfl, hC.1.2.2.1, bitCount_eq (le14 hI.1.2.1 hI.1.2.2.1)]
  rfl
theorem K_give {A : AST} {w : ZW} (hI : StI A) (hC : StC A w.1 w.2) : ∃ w', f_X11_giveWay w = some (nI (rGv 14 (A 0)).1, w') ∧ (StI (aup A 0 (rGv 14 (A 0)).2) ∧ StC (aup A 0 (rGv 14 (A 0)).2) w'.1 w'.2) ∧ (∀ a j, ¬ (a = 2 ∧ j = 5) → w'.1 a j = w.1 a j) ∧ w'.2 = w.2 := by
  obtain ⟨w1, c1, c2, c3, c4⟩ := C_give 14 0 0 z_fuel (A 0) w hI.1 hC.1 (by omega) (by omega) (zf (by omega))
  obtain ⟨g1, g2, g3⟩ := rGv_I 14 hI.1
  refine ⟨w1, ?_, ⟨⟨g1, ?_, ?_, ?_, hI.2.2.2.2⟩, c2, ?_, ?_, ?_, ?_⟩, c3, c4⟩
  · unfold f_X11_giveWay f_X4_fallWhileOver
    rw [X4_firstOver_eq hI.1 hC.1]
    simp only [Option.bind_some]
    rw [show ((0 : Int32), oc (rOv (A 0)), (0 : Int32), w) = (nI 0, oc (rOv (A 0)), nI 0, w) from rfl, c1, Nat.zero_add]
    rfl
  · show SightI ((rGv 14 (A 0)).2 0 0) (A 1)
    rw [g2]
    exact hI.2.1
  · show NamesI ((rGv 14 (A 0)).2 0 1) (A 2)
    rw [g3]
    exact hI.2.2.1
  · show NightI ((rGv 14 (A 0)).2 0 0) (A 3)
    rw [g2]
    exact hI.2.2.2.1
  · exact fr_SC (fun a j q => c3 a j (by unfold cSC at q; omega)) hC.2.1
  · exact fr_NC (fun a j q => c3 a j (by unfold cNC at q; omega)) (fun a j _ => by rw [c4]) hC.2.2.1
  · exact fr_NiC (fun a j q => c3 a j (by unfold cNiC at q; omega)) hC.2.2.2.1
  · exact fr_GC (fun a j q => c3 a j (by unfold cGC at q; omega)) hC.2.2.2.2
/-! behind it nothing has more than it holds -/
theorem fd_inr {ρ : Type} {g : Nat → ρ ⊕ Unit} : ∀ (k i : Nat), fd g i k = .inr () → ∀ j, i ≤ j → j < i + k → g j = .inr ()
  | 0, i, _, j, h1, h2 => by omega
  | k + 1, i, h, j, h1, h2 => by
    unfold fd at h
    cases e : g i with
    | inl c => rw [e] at h; cases h
    | inr u =>
      rw [e] at h
      by_cases q : j = i
      · subst q; exact e
      · exact fd_inr k (i + 1) h j (by omega) (by omega)
theorem rGv_end : ∀ (n : Nat) {R : ST}, RailI R → 14 - pc14 (R 0 2) ≤ n → rOv (rGv n R).2 = .inr () ∧ pc14 ((rGv n R).2 0 2) = pc14 (R 0 2) + (rGv n R).1
  | 0, R, hI, h => by
    refine ⟨?_, rfl⟩
    show rOv R = .inr ()
    cases e : rOv R with
    | inr u => rfl
    | inl c =>
      have := rG_gt hI e
      omega
  | n + 1, R, hI, h => by
    have st : rGv (n + 1) R = (rOv R).elim (fun c => (pc14 (gS R c) + (rGv n (rG R (R 0 2 ||| gS R c))).1, (rGv n (rG R (R 0 2 ||| gS R c))).2)) (fun _ => (0, R)) := rfl
    cases e : rOv R with
    | inr u =>
      rw [st, e]
      exact ⟨e, rfl⟩
    | inl c =>
      have g := rG_gt hI e
      have v := rOv_V hI e
      have cl := gS_cl hI v.1
      have i2 := rG_I hI cl
      obtain ⟨a1, a2⟩ := rGv_end n i2 (by omega)
      rw [st, e]
      refine ⟨a1, ?_⟩
      show pc14 ((rGv n (rG R (R 0 2 ||| gS R c))).2 0 2) = pc14 (R 0 2) + (pc14 (gS R c) + (rGv n (rG R (R 0 2 ||| gS R c))).1)
      rw [a2, show (rG R (R 0 2 ||| gS R c)) 0 2 = R 0 2 ||| gS R c from rfl, pc_disj cl.2.1]
      omega
theorem rOv_end {R : ST} (h : rOv R = .inr ()) : ∀ l, l < R 0 1 → rB R l ≤ R 4 l * (if R 5 l = 0 then 5 else 9) := by
  intro l hl
  unfold rOv at h
  cases e : fd (g1 R) 0 (R 0 1) with
  | inl c => rw [e] at h; cases h
  | inr u =>
    have := fd_inr _ _ e l (by omega) (by omega)
    unfold g1 at this
    by_cases q : R 4 l * (if R 5 l = 0 then 5 else 9) < rB R l
    · rw [if_pos q] at this; cases this
    · omega
theorem rGv_stay {R : ST} (h : rOv R = .inr ()) : ∀ n, rGv n R = (0, R)
  | 0 => rfl
  | n + 1 => by
    show (rOv R).elim _ _ = _
    rw [h]
    rfl
