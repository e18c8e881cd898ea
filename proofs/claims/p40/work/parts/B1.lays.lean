/-! the law lays panels and locks -/
def LSt (A : AST) (P i : Nat) (w : ZW) : Prop := StI A ∧ StC A w.1 w.2 ∧ w.1 120 0 = 0 ∧ A 0 0 0 = P ∧ A 0 0 1 = i ∧ A 0 0 2 = 0 ∧ A 2 0 0 = 0 ∧ A 2 0 1 = 0 ∧ A 3 0 0 = 2 ∧ (∀ p, A 3 1 p = 0 ∧ A 3 2 p = 0 ∧ A 3 3 p = 0) ∧ prt (A 0) i w
theorem LS_stC {A : AST} {w w' : ZW} (h : StC A w.1 w.2) (f : ∀ a j, a < 130 → w'.1 a j = w.1 a j) (g : w'.2 = w.2) : StC A w'.1 w'.2 := fr_K (fun a j q => f a j (by unfold kC at q; omega)) (fun a j _ => by rw [g]) h
theorem shr_lit {c k : Nat} (hc : c < 2 ^ 31) (hk : k < 32) : nI c >>> ((OfNat.ofNat k : Int32) &&& 31) = nI (c >>> k) := nI_shr hc hk
theorem shr_lt {c k : Nat} (hc : c < 2 ^ 31) : c >>> k < 2 ^ 31 := by
  rw [Nat.shiftRight_eq_div_pow]
  exact Nat.lt_of_le_of_lt (Nat.div_le_self _ _) hc
theorem panR_00 {R : ST} {P x y z : Nat} : panR R P x y z 0 0 = P + 1 := sup_e
theorem one_add (a : Nat) : (1 : Int32) + nI a = nI (1 + a) := nI_add 1 a
theorem and_1 (a : Nat) : nI a &&& (1 : Int32) = nI (a &&& 1) := nI_and a 1
theorem pos0 {a : Nat} (h : a ≠ 0) (ha : a < 2 ^ 31) : ¬ nI a ≤ (0 : Int32) := nnle (b := 0) (by omega) ha
theorem panels_lp {xs : Nat → Int32} {len P : Nat} (hl : len ≤ 260) (hP : P ≤ 4) {w : ZW} {A : AST} (h : LSt A 0 0 w) : ∃ r, z_iter (f_L_lays_L17 (nI P) xs len) z_fuel ((1 : Int32), (0 : Int32), w) = some r ∧ ∃ A' w', r = (1, w') ∧ LSt A' P 0 w' := by
  obtain ⟨c1, hc1, e1⟩ := L_cell_eq xs hl (k := 1) (by omega)
  refine it_inv (fun i s => ∃ A w, s = ((1 : Int32), nI i, w) ∧ LSt A i 0 w) (fun r => ∃ A' w', r = ((1 : Int32), w') ∧ LSt A' P 0 w') P (fun i s hi hs => ?_) (fun s hs => ?_) (zf (by omega)) ⟨A, w, rfl, h⟩
  · obtain ⟨A, w, rfl, hI, hC, h120, h00, h01, h02, h20, h21, h30, h3, hp⟩ := hs
    left
    have x31 : c1 >>> (4 * i) < 2 ^ 31 := shr_lt hc1
    generalize hx : c1 >>> (4 * i) = x at x31
    have m1 : x % 900 < 900 := Nat.mod_lt _ (by omega)
    have m2 : (x >>> 3) % 1500 < 1500 := Nat.mod_lt _ (by omega)
    have m3 : (x >>> 5) % 2500 < 2500 := Nat.mod_lt _ (by omega)
    obtain ⟨e2, ⟨k1, k2⟩, k3⟩ := K_panel (P := i) (x := 1 + x % 900) (y := 1 + (x >>> 3) % 1500) (z := 1 + (x >>> 5) % 2500) hI hC h00 (by omega) (by omega) (by omega) (by omega) (by omega) (by omega) (by omega)
    refine ⟨((1 : Int32), nI (i + 1), panC w i (1 + x % 900) (1 + (x >>> 3) % 1500) (1 + (x >>> 5) % 2500)), ?_, aup A 0 (panR (A 0) i (1 + x % 900) (1 + (x >>> 3) % 1500) (1 + (x >>> 5) % 2500)), _, rfl, k1, k2, ?_, ?_, ?_, ?_, h20, h21, h30, h3, fun j hj => by omega⟩
    · unfold f_L_lays_L17
      dsimp only
      rw [if_neg (nnle hi), if_neg i10, show (1 : Int32) = nI 1 from rfl, e1, Option.bind_some]
      simp only [z_let]
      rw [show (4 : Int32) * nI i = nI (4 * i) from by rw [show (4 : Int32) = nI 4 from rfl, pk_mul], nI_shr hc1 (by omega), hx, rem_lit x31 (by decide) (by decide), shr_lit x31 (by decide), rem_lit (shr_lt x31) (by decide) (by decide), shr_lit x31 (by decide), rem_lit (shr_lt x31) (by decide) (by decide), nI_add, nI_add, nI_add, e2, Option.bind_some, if_pos rfl, nI_add]
    · rw [k3 _ _ (by omega)]; exact h120
    · rfl
    · exact h01
    · exact h02
  · obtain ⟨A, w, rfl, h⟩ := hs
    refine ⟨(1, w), ?_, A, w, rfl, h⟩
    unfold f_L_lays_L17
    dsimp only
    rw [if_pos (Int32.le_refl _)]
/-- the row of a lock is written -/
def row6 (w : ZW) (i : Nat) (a b c d e f : Int32) : ZW := z_upI (z_upI (z_upI (z_upI (z_upI (z_upI w 130 (6 * i) a) 130 (6 * i + 1) b) 130 (6 * i + 2) c) 130 (6 * i + 3) d) 130 (6 * i + 4) e) 130 (6 * i + 5) f
theorem J299_eq {w : ZW} {i : Nat} (hi : i < 10) (a b c d e f k : Int32) : f_L_lays_J299 64 130 (nI i) f a b c d e k w = some (.inl (k, nI (i + 1), row6 w i a b c d e f)) := by
  unfold f_L_lays_J299
  rw [i6 i 1, i6 i 2, i6 i 3, i6 i 4, i6 i 5, i60, z_in_t (show 6 * i < 64 by omega) (by omega), z_in_t (show 6 * i + 1 < 64 by omega) (by omega), z_in_t (show 6 * i + 2 < 64 by omega) (by omega), z_in_t (show 6 * i + 3 < 64 by omega) (by omega), z_in_t (show 6 * i + 4 < 64 by omega) (by omega), z_in_t (show 6 * i + 5 < 64 by omega) (by omega), nI_clamp (by omega), nI_clamp (by omega), nI_clamp (by omega), nI_clamp (by omega), nI_clamp (by omega), nI_clamp (by omega), nI_1]
  simp only [z_let, if_true]
  rfl
theorem row6_o {w : ZW} {i : Nat} {a b c d e f : Int32} {x j : Nat} (h : x ≠ 130 ∨ j < 6 * i ∨ 6 * i + 5 < j) : (row6 w i a b c d e f).1 x j = w.1 x j := by
  unfold row6
  rw [upc (by omega), upc (by omega), upc (by omega), upc (by omega), upc (by omega), upc (by omega)]
theorem row6_i {w : ZW} {i : Nat} {a b c d e f : Int32} : (row6 w i a b c d e f).1 130 (6 * i) = a ∧ (row6 w i a b c d e f).1 130 (6 * i + 1) = b ∧ (row6 w i a b c d e f).1 130 (6 * i + 2) = c ∧ (row6 w i a b c d e f).1 130 (6 * i + 3) = d ∧ (row6 w i a b c d e f).1 130 (6 * i + 4) = e ∧ (row6 w i a b c d e f).1 130 (6 * i + 5) = f := by
  unfold row6
  refine ⟨?_, ?_, ?_, ?_, ?_, upc_e⟩
  · rw [upc (by omega), upc (by omega), upc (by omega), upc (by omega), upc (by omega), upc_e]
  · rw [upc (by omega), upc (by omega), upc (by omega), upc (by omega), upc_e]
  · rw [upc (by omega), upc (by omega), upc (by omega), upc_e]
  · rw [upc (by omega), upc (by omega), upc_e]
  · rw [upc (by omega), upc_e]
/-- behind a lock more, its row written -/
theorem LS_lock {A : AST} {P i p q m x y z : Nat} {w w' : ZW} (h : LSt A P i w) (hn : StI (aup A 0 (lkR (A 0) i p q m x y z))) (hc : StC (aup A 0 (lkR (A 0) i p q m x y z)) w'.1 w'.2) (f : ∀ a j, 12 ≤ a → w'.1 a j = w.1 a j) : LSt (aup A 0 (lkR (A 0) i p q m x y z)) P (i + 1) (row6 w' i (nI x) (nI y) (nI z) (nI p) (nI q) (ho m)) := by
  obtain ⟨hI, hC, h120, h00, h01, h02, h20, h21, h30, h3, hp⟩ := h
  refine ⟨hn, LS_stC hc (fun a j q => row6_o (by omega)) rfl, ?_, ?_, rfl, ?_, h20, h21, h30, h3, fun j hj => ?_⟩
  · rw [row6_o (by omega), f _ _ (by omega)]; exact h120
  · show lkR (A 0) i p q m x y z 0 0 = P
    rw [lkR_o (by omega) (by omega)]; exact h00
  · show lkR (A 0) i p q m x y z 0 2 = 0
    rw [lkR_o (by omega) (by omega)]; exact h02
  · show _ = nI (lkR (A 0) i p q m x y z 4 j) ∧ _ = nI (lkR (A 0) i p q m x y z 5 j) ∧ _ = nI (lkR (A 0) i p q m x y z 6 j) ∧ _ = nI (lkR (A 0) i p q m x y z 7 j) ∧ _ = nI (lkR (A 0) i p q m x y z 8 j) ∧ _ = ho (lkR (A 0) i p q m x y z 9 j)
    by_cases e : j = i
    · subst e
      obtain ⟨a1, a2, a3, a4, a5, a6⟩ := lkR_n (R := A 0) (L := j) (p := p) (q := q) (m := m) (x := x) (y := y) (z := z)
      rw [a1, a2, a3, a4, a5, a6]
      exact row6_i
    · obtain ⟨b1, b2, b3, b4, b5, b6⟩ := hp j (by omega)
      rw [row6_o (by omega), row6_o (by omega), row6_o (by omega), row6_o (by omega), row6_o (by omega), row6_o (by omega), f _ _ (by omega), f _ _ (by omega), f _ _ (by omega), f _ _ (by omega), f _ _ (by omega), f _ _ (by omega), lkR_o (by omega) (by omega), lkR_o (by omega) (by omega), lkR_o (by omega) (by omega), lkR_o (by omega) (by omega), lkR_o (by omega) (by omega), lkR_o (by omega) (by omega)]
      exact ⟨b1, b2, b3, b4, b5, b6⟩
theorem ho_s (o : Nat) : nI o = ho (o + 1) := (if_neg (Nat.succ_ne_zero o)).symm
theorem neg1 : ¬ (0 : Int32) ≤ -1 := by decide
/-- on a bar -/
theorem J180_bar {A : AST} {P i x d : Nat} {w : ZW} (h : LSt A P i w) (hP : 1 ≤ P) (hi : i < 9) (hx : x < 2 ^ 31) (d0 : 0 < d) (d1 : d ≤ 400) : ∃ A' w', f_L_lays_J180 64 130 (nI P) (nI i) (nI x) (-1) (nI d) (nI (x >>> 4)) 1 w = some (.inl (1, nI (i + 1), w')) ∧ LSt A' P (i + 1) w' := by
  obtain ⟨hI, hC, h120, h00, h01, h02, -⟩ := id h
  have hP6 := hI.1.1
  have m1 : (x >>> 4) % d < d := Nat.mod_lt _ d0
  have m2 : (x >>> 3) % P < P := Nat.mod_lt _ (by omega)
  have m3 : (x >>> 9) % 3 < 3 := Nat.mod_lt _ (by omega)
  have m4 : (x >>> 8) % 6 < 6 := Nat.mod_lt _ (by omega)
  have m5 : x >>> 7 &&& 1 ≤ 1 := Nat.and_le_right
  obtain ⟨w1, e1, ⟨k1, k2⟩, k3, k4⟩ := K_hang (p := (x >>> 3) % P) (q := (x >>> 9) % 3) (x := 1 + (x >>> 4) % d) (y := x >>> 7 &&& 1) (z := (x >>> 8) % 6) hI hC (by omega) (by omega) (by omega) (by omega) (by omega) (by omega)
  rw [h01] at e1 k1 k2
  refine ⟨_, _, ?_, LS_lock h k1 k2 k3⟩
  unfold f_L_lays_J180
  rw [if_neg (nI_nz (by omega) (by omega)), pk_rem (shr_lt hx) d0 (by omega), one_add, shr_lit hx (by decide), and_1, shr_lit hx (by decide), rem_lit (shr_lt hx) (by decide) (by decide), shr_lit hx (by decide)]
  simp only [z_let]
  rw [if_neg neg1, if_neg (nI_nz (by omega) (by omega)), pk_rem (shr_lt hx) (by omega) (by omega)]
  unfold f_L_lays_J227
  rw [if_neg neg1, shr_lit hx (by decide), rem_lit (shr_lt hx) (by decide) (by decide)]
  unfold f_L_lays_J253
  rw [if_neg neg1, e1, Option.bind_some]
  unfold f_L_lays_J289
  dsimp only
  rw [if_pos rfl, show (-1 : Int32) = ho 0 from rfl, J299_eq (by omega)]
/-- on a lock -/
theorem J180_lock {A : AST} {P i x d o : Nat} {w : ZW} (h : LSt A P i w) (ho' : o < i) (hi : i < 9) (hx : x < 2 ^ 31) (d0 : 0 < d) (d1 : d ≤ 400) : ∃ A' w', f_L_lays_J180 64 130 (nI P) (nI i) (nI x) (nI o) (nI d) (nI (x >>> 4)) 1 w = some (.inl (1, nI (i + 1), w')) ∧ LSt A' P (i + 1) w' := by
  obtain ⟨hI, hC, h120, h00, h01, h02, -, -, -, -, hp⟩ := id h
  have m1 : (x >>> 4) % d < d := Nat.mod_lt _ d0
  have m4 : (x >>> 8) % 6 < 6 := Nat.mod_lt _ (by omega)
  have m5 : x >>> 7 &&& 1 ≤ 1 := Nat.and_le_right
  obtain ⟨w1, e1, ⟨k1, k2⟩, k3, k4⟩ := K_hangOn (l := o) (x := 1 + (x >>> 4) % d) (y := x >>> 7 &&& 1) (z := (x >>> 8) % 6) hI hC (by omega) (by omega) (by rw [h02, Nat.zero_testBit]) (by omega) (by omega) (by omega)
  rw [h01] at e1 k1 k2
  obtain ⟨-, -, -, b4, b5, -⟩ := hp o ho'
  have ge : (0 : Int32) ≤ nI o := nle (a := 0) (by omega)
  refine ⟨_, _, ?_, LS_lock h k1 k2 k3⟩
  unfold f_L_lays_J180
  rw [if_neg (nI_nz (by omega) (by omega)), pk_rem (shr_lt hx) d0 (by omega), one_add, shr_lit hx (by decide), and_1, shr_lit hx (by decide), rem_lit (shr_lt hx) (by decide) (by decide)]
  simp only [z_let]
  rw [if_pos ge, i6 o 3, z_in_t (show 6 * o + 3 < 64 by omega) (by omega), if_pos rfl, nI_clamp (by omega), b4]
  unfold f_L_lays_J227
  rw [if_pos ge, i6 o 4, z_in_t (show 6 * o + 4 < 64 by omega) (by omega), if_pos rfl, nI_clamp (by omega), b5]
  unfold f_L_lays_J253
  rw [if_pos ge, e1, Option.bind_some]
  unfold f_L_lays_J289
  dsimp only
  rw [if_pos rfl, ho_s o, J299_eq (by omega)]
theorem J157_bar {A : AST} {P i x : Nat} {w : ZW} (h : LSt A P i w) (hP : 1 ≤ P) (hi : i < 9) (hx : x < 2 ^ 31) : ∃ A' w', f_L_lays_J157 64 130 (nI P) (nI i) (nI x) (-1) w = some (.inl (1, nI (i + 1), w')) ∧ LSt A' P (i + 1) w' := by
  unfold f_L_lays_J157
  rw [shr_lit hx (by decide)]
  split
  · exact J180_bar h hP hi hx (d := 30) (by omega) (by omega)
  · exact J180_bar h hP hi hx (d := 400) (by omega) (by omega)
theorem J157_lock {A : AST} {P i x o : Nat} {w : ZW} (h : LSt A P i w) (ho' : o < i) (hi : i < 9) (hx : x < 2 ^ 31) : ∃ A' w', f_L_lays_J157 64 130 (nI P) (nI i) (nI x) (nI o) w = some (.inl (1, nI (i + 1), w')) ∧ LSt A' P (i + 1) w' := by
  unfold f_L_lays_J157
  rw [shr_lit hx (by decide)]
  split
  · exact J180_lock h ho' hi hx (d := 30) (by omega) (by omega)
  · exact J180_lock h ho' hi hx (d := 400) (by omega) (by omega)
theorem lay_step {xs : Nat → Int32} {len : Nat} (hl : len ≤ 260) {A : AST} {P n i : Nat} {w : ZW} (h : LSt A P i w) (hP : 1 ≤ P) (hi : i < n) (hn : n ≤ 9) : ∃ A' w', f_L_lays_L107 (nI n) xs len 64 130 (nI P) ((1 : Int32), nI i, w) = some (.inl (1, nI (i + 1), w')) ∧ LSt A' P (i + 1) w' := by
  have m4 : i % 4 < 4 := Nat.mod_lt _ (by omega)
  obtain ⟨c, hc, ec⟩ := L_cell_eq xs hl (k := 2 + i % 4) (by omega)
  have x31 : c >>> i < 2 ^ 31 := shr_lt hc
  unfold f_L_lays_L107
  dsimp only
  rw [if_neg (nnle hi), if_neg i10, rem_lit (by omega) (by decide) (by decide), show (2 : Int32) = nI 2 from rfl, nI_add, ec, Option.bind_some, nI_shr hc (by omega)]
  generalize hx : c >>> i = x at x31
  by_cases q0 : i = 0
  · rw [if_pos (show nI i ≤ 0 by rw [q0]; decide)]
    exact J157_bar h hP (by omega) x31
  · rw [if_neg (pos0 q0 (by omega)), show (3 : Int32) = nI 3 from rfl, nI_and]
    by_cases q1 : x &&& 3 = 0
    · rw [if_pos (show nI (x &&& 3) ≤ 0 by rw [q1]; decide)]
      exact J157_bar h hP (by omega) x31
    · have l3 : x &&& 3 ≤ 3 := Nat.and_le_right
      rw [if_neg (pos0 q1 (by omega)), if_neg (nI_nz q0 (by omega)), nI_shr x31 (show 2 < 32 by omega), pk_rem (shr_lt x31) (by omega) (by omega)]
      exact J157_lock h (Nat.mod_lt _ (by omega)) (by omega) x31
theorem lays_eq {xs : Nat → Int32} {len : Nat} (hl : len ≤ 260) {A : AST} {w : ZW} (h : LSt A 0 0 w) : ∃ A' P n w', f_L_lays w xs len 9 130 64 = some (nI n, w') ∧ (1 ≤ P ∧ P ≤ 4) ∧ (1 ≤ n ∧ n ≤ 9) ∧ LSt A' P n w' ∧ ∃ c, c < 2 ^ 31 ∧ f_L_cell xs len 0 = some (nI c) ∧ P = 1 + c % 4 := by
  obtain ⟨c, hc, ec⟩ := L_cell_eq xs hl (k := 0) (by omega)
  have ec : f_L_cell xs len 0 = some (nI c) := ec
  have m1 : c % 4 < 4 := Nat.mod_lt _ (by omega)
  have m2 : (c >>> 3) % 9 < 9 := Nat.mod_lt _ (by omega)
  obtain ⟨r, e1, A1, w1, rfl, h1⟩ := panels_lp (xs := xs) hl (P := 1 + c % 4) (by omega) h
  have lp : ∃ r, z_iter (f_L_lays_L107 (nI (1 + (c >>> 3) % 9)) xs len 64 130 (nI (1 + c % 4))) z_fuel ((1 : Int32), (0 : Int32), w1) = some r ∧ ∃ A' w', r = ((1 : Int32), w') ∧ LSt A' (1 + c % 4) (1 + (c >>> 3) % 9) w' := by
    refine it_inv (fun i s => ∃ A w, s = ((1 : Int32), nI i, w) ∧ LSt A (1 + c % 4) i w) _ (1 + (c >>> 3) % 9) (fun i s hi hs => ?_) (fun s hs => ?_) (zf (by omega)) ⟨A1, w1, rfl, h1⟩
    · obtain ⟨A, w, rfl, h⟩ := hs
      left
      obtain ⟨A', w', e, h'⟩ := lay_step (xs := xs) hl h (by omega) hi (by omega)
      exact ⟨_, e, A', w', rfl, h'⟩
    · obtain ⟨A, w, rfl, h⟩ := hs
      refine ⟨(1, w), ?_, A, w, rfl, h⟩
      unfold f_L_lays_L107
      dsimp only
      rw [if_pos (Int32.le_refl _)]
  obtain ⟨r2, e2, A2, w2, rfl, h2⟩ := lp
  refine ⟨A2, 1 + c % 4, 1 + (c >>> 3) % 9, w2, ?_, by omega, by omega, h2, c, hc, ec, rfl⟩
  unfold f_L_lays
  rw [ec, Option.bind_some, rem_lit hc (by decide) (by decide), show (1 : Int32) = nI 1 from rfl, nI_add]
  simp only [z_let]
  rw [show (nI 1, (0 : Int32), w) = ((1 : Int32), (0 : Int32), w) from rfl, e1, Option.bind_some]
  unfold f_L_lays_J91
  rw [ec, Option.bind_some, if_neg (by decide), shr_lit hc (by decide), rem_lit (shr_lt hc) (by decide) (by decide), show (1 : Int32) = nI 1 from rfl, nI_add]
  simp only [z_let]
  rw [show (nI 1, (0 : Int32), w1) = ((1 : Int32), (0 : Int32), w1) from rfl, e2, Option.bind_some, if_neg i10]
