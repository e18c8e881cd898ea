/-! the law: given way, nothing has more than it holds -/
theorem aup_self {B : AST} : aup B 0 (B 0) = B := funext (fun i => by
  unfold aup
  split
  · rename_i h; rw [h]
  · rfl)
theorem Q2_fr {A : AST} {P n : Nat} {w w' : ZW} (h : Q2 A P n w) (hI : StI A) (hC : StC A w'.1 w'.2) (f : ∀ a j, a = 120 ∨ a = 130 → w'.1 a j = w.1 a j) : Q2 A P n w' := by
  obtain ⟨-, -, h120, h00, h01, h20, h21, h30, h3, hy⟩ := h
  exact ⟨hI, hC, (f _ _ (by omega)).trans h120, h00, h01, h20, h21, h30, h3, fun i hi => (f _ _ (by omega)).trans (hy i hi)⟩
theorem z_pc : pc14 0 = 0 := by decide
theorem L507_eq {B : AST} {P n i : Nat} {w : ZW} (h : Q2 B P n w) (hn : n ≤ 9) (he : rOv (B 0) = .inr ()) (hi : i < n + 1) : f_law2_L507 (nI n) w ((1 : Int32), nI i) = some (.inl (1, nI (i + 1))) := by
  obtain ⟨hI, hC, h120, h00, h01, -⟩ := h
  have li : i < B 0 0 1 := by omega
  obtain ⟨t0, t1, t5, t6, t7⟩ := K_told hI hC li
  obtain ⟨b4, b5, -, -, -, b9, bh⟩ := hI.1.2.2.2.2 i li
  have en := rOv_end he i li
  have wl := rW_le hI.1 (rU (B 0) i)
  have rb : rB (B 0) i ≤ 13986 := by unfold rB; omega
  have l1 : ¬ nI n < nI i := fun h => by have := (nI_ltI (by omega) (by omega)).mp h; omega
  unfold f_law2_L507
  dsimp only
  rw [if_neg l1, if_neg i10, t7, Option.bind_some]
  by_cases g : (B 0 0 2).testBit i = true
  · rw [if_pos g, if_pos (show nI 1 = (1 : Int32) from rfl), t6, Option.bind_some, rB_gone hI.1 li g, if_pos (show nI 0 = 0 from rfl), nI_1]
  · rw [if_neg g, if_neg (show ¬ nI 0 = (1 : Int32) by decide), t6, Option.bind_some, t0, Option.bind_some, t1, Option.bind_some]
    have z5 : nI (B 0 5 i) = 0 ↔ B 0 5 i = 0 := nI_inj (by omega) (show 0 < 2 ^ 31 by omega)
    have key : ∀ k, rB (B 0) i ≤ B 0 4 i * k → k < 100 → f_law2_J580 w (nI i) (nI k) (nI (B 0 4 i)) (nI (rB (B 0) i)) = some (.inl (1, nI (i + 1))) := by
      intro k hk k1
      have m : B 0 4 i * k ≤ 999 * 100 := Nat.mul_le_mul b4.2 (by omega)
      unfold f_law2_J580
      rw [pk_mul, if_neg (fun h => by have := (nI_ltI (by omega) (by omega)).mp h; omega), t5, Option.bind_some, Option.bind_some, nI_1]
      by_cases z : B 0 9 i = 0
      · rw [if_pos ((hol_neg (by omega)).mpr z)]
      · rw [if_neg (fun h => z ((hol_neg (by omega)).mp h)), hol_p z]
        obtain ⟨-, -, -, -, t7'⟩ := K_told hI hC (l := B 0 9 i - 1) (by omega)
        have ng : ¬ (B 0 0 2).testBit (B 0 9 i - 1) = true := fun q => g ((bh z).2.2 q)
        rw [if_neg ng] at t7'
        have t7' : f_X11_told w (nI (B 0 9 i - 1)) 7 = some (nI 0) := t7'
        rw [t7', Option.bind_some, if_pos (show nI 0 = 0 from rfl)]
    by_cases q : B 0 5 i = 0
    · rw [if_pos q] at en
      rw [if_pos (z5.mpr q)]
      exact key 5 en (by omega)
    · rw [if_neg q] at en
      rw [if_neg (fun h => q (z5.mp h))]
      exact key 9 en (by omega)
theorem J455_eq {xs : Nat → Int32} {len : Nat} {A : AST} {P n : Nat} {w : ZW} (h : Q2 A P n w) (hg : A 0 0 2 = 0) (hn : n ≤ 9) : ∃ B w', Q2 B P n w' ∧ f_law2_J455 xs len (nI n) 1 (nI P) w = f_law2_J623 xs len (nI n) 1 (nI P) w' := by
  obtain ⟨hI, hC, h120, h00, h01, h20, h21, h30, h3, hy⟩ := id h
  obtain ⟨w1, e1, ⟨k1, k2⟩, k3, k4⟩ := K_give hI hC
  obtain ⟨g1, g2, g3⟩ := rGv_I 14 hI.1
  obtain ⟨en, pc⟩ := rGv_end 14 hI.1 (by omega)
  have pcl := pc_le (b := (rGv 14 (A 0)).2 0 2)
  have p0 : pc14 (A 0 0 2) = 0 := by rw [hg]; exact z_pc
  have y6 : ∀ n {R : ST}, RailI R → ∀ i, (rGv n R).2 6 i = R 6 i := by
    intro n
    induction n with
    | zero => intro R _ i; rfl
    | succ n ih =>
      intro R hR i
      show ((rOv R).elim (fun c => (pc14 (gS R c) + (rGv n (rG R (R 0 2 ||| gS R c))).1, (rGv n (rG R (R 0 2 ||| gS R c))).2)) (fun _ => (0, R))).2 6 i = R 6 i
      cases e : rOv R with
      | inr u => rfl
      | inl c =>
        show (rGv n (rG R (R 0 2 ||| gS R c))).2 6 i = R 6 i
        rw [ih (rG_I hR (gS_cl hR (rOv_V hR e).1))]
        rfl
  have q1 : Q2 (aup A 0 (rGv 14 (A 0)).2) P n w1 := ⟨k1, k2, (k3 _ _ (by omega)).trans h120, g2.trans h00, g3.trans h01, h20, h21, h30, h3, fun i hi => by
    rw [k3 _ _ (by omega), hy i hi]
    exact congrArg nI (y6 14 hI.1 i).symm⟩
  have c2 := K_count2 k1 k2
  have c2 : f_X11_count w1 2 = some (nI (rGv 14 (A 0)).1) := by
    rw [c2]
    show some (nI (pc14 ((rGv 14 (A 0)).2 0 2))) = _
    rw [pc, p0, Nat.zero_add]
  have o1 := K_over k1 k2
  have o1 : f_X11_over w1 = some (-4) := by
    rw [o1]
    show some (oc (rOv (rGv 14 (A 0)).2)) = _
    rw [en]
    rfl
  obtain ⟨w2, e2, ⟨m1, m2⟩, m3, m4⟩ := K_give k1 k2
  have st : rGv 14 (aup A 0 (rGv 14 (A 0)).2 0) = (0, (rGv 14 (A 0)).2) := rGv_stay en 14
  rw [st] at e2 m1 m2
  have ss : aup (aup A 0 (rGv 14 (A 0)).2) 0 (0, (rGv 14 (A 0)).2).2 = aup A 0 (rGv 14 (A 0)).2 := aup_self
  rw [ss] at m1 m2
  have q2 : Q2 (aup A 0 (rGv 14 (A 0)).2) P n w2 := Q2_fr q1 m1 m2 (fun a j q => m3 a j (by omega))
  have e2 : f_X11_giveWay w1 = some (nI 0, w2) := e2
  refine ⟨_, w2, q2, ?_⟩
  unfold f_law2_J455
  rw [e1, Option.bind_some, if_neg i10]
  dsimp only
  rw [if_neg (nI_pos (by omega)), c2, Option.bind_some, if_pos rfl, o1, Option.bind_some, if_pos rfl, e2, Option.bind_some]
  dsimp only
  rw [if_pos (show nI 0 = 0 from rfl)]
  have lp : z_iter (f_law2_L507 (nI n) w2) z_fuel ((1 : Int32), (0 : Int32)) = some 1 := by
    refine it_count (fun i => ((1 : Int32), nI i)) (n + 1) (1 : Int32) (fun i hi => L507_eq q2 hn en hi) ?_ (zf (by omega))
    unfold f_law2_L507
    dsimp only
    rw [if_pos ((nI_ltI (by omega) (by omega)).mpr (by omega))]
  unfold f_law2_J502
  rw [lp, Option.bind_some]
