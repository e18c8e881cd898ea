/-! the law: a lock more is in all that bear it -/
theorem LSt_new {A : AST} {P n : Nat} {w : ZW} (h : LSt A P n w) : LSt A P n (z_new w) := by
  obtain ⟨hI, hC, h120, h00, h01, h02, h20, h21, h30, h3, hp⟩ := h
  have f : ∀ a j, a ≠ 131 → (z_new w).1 a j = w.1 a j := fun a j h => if_neg h
  exact ⟨hI, LS_stC hC (fun a j q => f a j (by omega)) rfl, (f _ _ (by omega)).trans h120, h00, h01, h02, h20, h21, h30, h3, prt_same hp (fun j => f _ _ (by omega))⟩
theorem LSt_131 {A : AST} {P n j : Nat} {x : Int32} {w : ZW} (h : LSt A P n w) : LSt A P n (z_upI w 131 j x) := by
  obtain ⟨hI, hC, h120, h00, h01, h02, h20, h21, h30, h3, hp⟩ := h
  have f : ∀ a k, a ≠ 131 → (z_upI w 131 j x).1 a k = w.1 a k := fun a k h => upc (by omega)
  exact ⟨hI, LS_stC hC (fun a j q => f a j (by omega)) rfl, (f _ _ (by omega)).trans h120, h00, h01, h02, h20, h21, h30, h3, prt_same hp (fun j => f _ _ (by omega))⟩
theorem was_lp {A : AST} {P n : Nat} {w : ZW} (h : LSt A P n w) (hn : n ≤ 9) : ∃ w', z_iter (f_law2_L265 (nI n)) z_fuel ((0 : Int32), w) = some w' ∧ LSt A P n w' ∧ ∀ i, i < n → w'.1 131 i = nI (rB (A 0) i) := by
  refine it_inv (fun k s => ∃ u, s = (nI k, u) ∧ LSt A P n u ∧ ∀ i, i < k → u.1 131 i = nI (rB (A 0) i)) (fun w' => LSt A P n w' ∧ ∀ i, i < n → w'.1 131 i = nI (rB (A 0) i)) n (fun k s hk hs => ?_) (fun s hs => ?_) (zf (by omega)) ⟨w, rfl, h, fun i hi => by omega⟩
  · obtain ⟨u, rfl, hu, h1⟩ := hs
    left
    obtain ⟨-, -, -, t6, -⟩ := K_told hu.1 hu.2.1 (l := k) (by have := hu.2.2.2.2.1; omega)
    have t6 : f_X11_told u (nI k) 6 = some (nI (rB (A 0) k)) := t6
    refine ⟨(nI (k + 1), z_upI u 131 k (nI (rB (A 0) k))), ?_, _, rfl, LSt_131 hu, fun i hi => ?_⟩
    · unfold f_law2_L265
      dsimp only
      rw [if_neg (nnle hk), t6, Option.bind_some, z_in_t (show k < 9 by omega) (by omega), if_pos rfl, nI_clamp (by omega), nI_1]
      rfl
    · by_cases e : i = k
      · subst e; exact upc_e
      · rw [upc (by omega)]; exact h1 i (by omega)
  · obtain ⟨u, rfl, hu, h1⟩ := hs
    refine ⟨u, ?_, hu, h1⟩
    unfold f_law2_L265
    dsimp only
    rw [if_pos (Int32.le_refl _)]
theorem b_or (b c : Bool) : bI (b || c) = if b = true then 1 else bI c := by cases b <;> rfl
theorem below_lp {R : ST} {w : ZW} (hI : RailI R) (hg : R 0 2 = 0) (hn : R 0 1 ≤ 9) (hp : ∀ i, i < R 0 1 → w.1 130 (6 * i + 5) = ho (R 9 i)) {k : Nat} (hk : k < R 0 1) (s1 : Int32 × Int32) (h1 : s1.2 = nI k) : ∀ m j b N, j ≤ m → j < R 0 1 → m + 2 < N → z_iter (f_law2_L376 s1 w) N (bI b, nI j) = some (bI (b || (rU R k).testBit j)) := by
  have step : ∀ j b, j < R 0 1 → f_law2_L376 s1 w (bI b, nI j) = some (.inl (bI (b || decide (j = k)), ho (R 9 j))) := by
    intro j b hj
    have e := hp j hj
    unfold f_law2_L376 f_law2_J393 f_law2_J398
    dsimp only
    rw [if_neg (nI_pos (by omega)), i6 j 5, z_in_t (show 6 * j + 5 < 64 by omega) (by omega), if_pos rfl, nI_clamp (by omega), e, h1, ieq (by omega) (by omega)]
    simp only [z_let, if_true]
    cases b
    · rw [if_pos (show bI false = 0 from rfl)]
      by_cases q : j = k
      · rw [if_pos q, decide_eq_true q]
        rfl
      · rw [if_neg q, decide_eq_false q]
        rfl
    · rw [if_neg (show ¬ bI true = 0 from i10)]
      rfl
  have fin : ∀ b N, z_iter (f_law2_L376 s1 w) (N + 1) (bI b, (-1 : Int32)) = some (bI b) := by
    intro b N
    have : f_law2_L376 s1 w (bI b, (-1 : Int32)) = some (.inr (bI b)) := by
      unfold f_law2_L376
      dsimp only
      rw [if_pos (by decide)]
    simp [z_iter, this]
  intro m
  induction m with
  | zero =>
    intro j b N h2 hj hN
    obtain ⟨N, rfl⟩ : ∃ M, N = M + 2 := ⟨N - 2, by omega⟩
    have h9 := (hI.2.2.2.2 j hj).2.2.2.2.2.1
    have z9 : R 9 j = 0 := by omega
    have st := rU_step hI hg hk hj
    have e : (rU R k).testBit j = decide (j = k) := by
      rw [Bool.eq_iff_iff, st, decide_eq_true_eq]
      exact ⟨fun h => h.elim id (fun q => absurd z9 q.1), Or.inl⟩
    rw [e, show z_iter (f_law2_L376 s1 w) (N + 2) (bI b, nI j) = z_iter (f_law2_L376 s1 w) (N + 1) (bI (b || decide (j = k)), ho (R 9 j)) from by
      show (f_law2_L376 s1 w (bI b, nI j)).bind _ = _
      rw [step j b hj]
      rfl, z9, show ho 0 = -1 from rfl, fin]
  | succ m ih =>
    intro j b N h2 hj hN
    obtain ⟨N, rfl⟩ : ∃ M, N = M + 2 := ⟨N - 2, by omega⟩
    have h9 := (hI.2.2.2.2 j hj).2.2.2.2.2.1
    have st := rU_step hI hg hk hj
    rw [show z_iter (f_law2_L376 s1 w) (N + 2) (bI b, nI j) = z_iter (f_law2_L376 s1 w) (N + 1) (bI (b || decide (j = k)), ho (R 9 j)) from by
      show (f_law2_L376 s1 w (bI b, nI j)).bind _ = _
      rw [step j b hj]
      rfl]
    by_cases z9 : R 9 j = 0
    · have e : (rU R k).testBit j = decide (j = k) := by
        rw [Bool.eq_iff_iff, st, decide_eq_true_eq]
        exact ⟨fun h => h.elim id (fun q => absurd z9 q.1), Or.inl⟩
      rw [e, z9, show ho 0 = -1 from rfl, fin]
    · have e : (rU R k).testBit j = (decide (j = k) || (rU R k).testBit (R 9 j - 1)) := by
        rw [Bool.eq_iff_iff, st, Bool.or_eq_true, decide_eq_true_eq]
        exact ⟨fun h => h.imp id (fun q => q.2), fun h => h.imp id (fun q => ⟨z9, q⟩)⟩
      rw [ho_p z9, ih (R 9 j - 1) _ (N + 1) (by omega) (by omega) (by omega), e, Bool.or_assoc]
/-- behind the lock more -/
def Q2 (A : AST) (P n : Nat) (w : ZW) : Prop := StI A ∧ StC A w.1 w.2 ∧ w.1 120 0 = 0 ∧ A 0 0 0 = P ∧ A 0 0 1 = n + 1 ∧ A 2 0 0 = 0 ∧ A 2 0 1 = 0 ∧ A 3 0 0 = 2 ∧ (∀ p, A 3 1 p = 0 ∧ A 3 2 p = 0 ∧ A 3 3 p = 0) ∧ ∀ i, i < n → w.1 130 (6 * i + 2) = nI (A 0 6 i)
theorem tell_lp {A : AST} {n on wt : Nat} {w : ZW} (hI : RailI (A 0)) (h01 : A 0 0 1 = n) (hg : A 0 0 2 = 0) (hn : n ≤ 9) (ho1 : on < n) (hp : prt (A 0) n w) {B : AST} (hBI : StI B) (hBC : StC B w.1 w.2) (hB1 : B 0 0 1 = n + 1) (hrow : ∀ i, i < n → w.1 131 i = nI (rB (A 0) i)) (hB : ∀ i, i < n → rB (B 0) i = rB (A 0) i + if (rU (A 0) i).testBit on = true then wt else 0) : z_iter (f_law2_L358 (nI n) w (nI on) (nI wt)) z_fuel ((1 : Int32), (0 : Int32)) = some 1 := by
  refine it_count (fun i => ((1 : Int32), nI i)) n 1 (fun i hi => ?_) ?_ (zf (by omega))
  · obtain ⟨-, -, -, t6, -⟩ := K_told hBI hBC (l := i) (by omega)
    have t6 : f_X11_told w (nI i) 6 = some (nI (rB (B 0) i)) := t6
    have bl := below_lp (k := i) hI hg (by omega) (fun j hj => (hp j (by omega)).2.2.2.2.2) (by omega) ((1 : Int32), nI i) rfl on on false z_fuel (Nat.le_refl _) (by omega) (zf (by omega))
    unfold f_law2_L358
    dsimp only
    rw [if_neg (nnle hi), if_neg i10, show ((0 : Int32), nI on) = (bI false, nI on) from rfl, bl, Option.bind_some, Bool.false_or, t6, Option.bind_some, z_in_t (show i < 9 by omega) (by omega), if_pos rfl, nI_clamp (by omega), hrow i hi]
    unfold f_law2_J438
    have e := hB i hi
    by_cases q : (rU (A 0) i).testBit on = true
    · rw [if_pos q] at e
      rw [q, if_neg (show ¬ bI true = 0 from i10), nI_add, e, if_pos rfl, nI_1]
    · rw [if_neg q] at e
      simp only [Bool.not_eq_true] at q
      rw [q, if_pos (show bI false = 0 from rfl), Int32.add_zero, e, Nat.add_zero, if_pos rfl, nI_1]
  · unfold f_law2_L358
    dsimp only
    rw [if_pos (Int32.le_refl _)]
theorem law2a_eq {xs : Nat → Int32} {len : Nat} {A : AST} {P n on wt : Nat} {w : ZW} (h : LSt A P n w) (hn : n ≤ 9) (ho1 : on < n) (hw : 1 ≤ wt ∧ wt ≤ 50) : ∃ B w', Q2 B P n w' ∧ B 0 0 2 = 0 ∧ f_law2 xs len (z_new w) (nI n) 1 (nI P) (nI on) (nI wt) = f_law2_J455 xs len (nI n) 1 (nI P) w' := by
  obtain ⟨w1, e1, h1, hrow⟩ := was_lp (LSt_new h) hn
  obtain ⟨hI, hC, h120, h00, h01, h02, h20, h21, h30, h3, hp⟩ := id h1
  obtain ⟨-, -, -, p3, -, -⟩ := hp on ho1
  have lo : on < A 0 0 1 := by omega
  obtain ⟨-, -, -, i7, i8, -⟩ := hI.1.2.2.2.2 on lo
  have ld1 := K_load hI hC (p := A 0 7 on) (q := 3) i7 (by omega)
  have ld1 : f_X11_load w1 (nI (A 0 7 on)) 3 = some (nI (rLd (A 0) (A 0 7 on) 3)) := ld1
  obtain ⟨w2, e2, ⟨k1, k2⟩, k3, k4⟩ := K_hangOn (l := on) (x := wt) (y := 1) (z := 7) hI hC (by omega) lo (by rw [h02, Nat.zero_testBit]) (by omega) (by omega) (by omega)
  have e2 : f_X11_hangOn w1 (nI on) (nI wt) 1 7 = some (nI (A 0 0 1), w2) := e2
  have ld2 := K_load k1 k2 (p := A 0 7 on) (q := 3) (by show A 0 7 on < lkR (A 0) (A 0 0 1) (A 0 7 on) (A 0 8 on) (on + 1) wt 1 7 0 0; rw [lkR_o (by omega) (by omega)]; exact i7) (by omega)
  have lp := lk_P (p := A 0 7 on) (q := A 0 8 on) (m := on + 1) (x := wt) (y := 1) (z := 7) hI.1 k1.1 h02
  have ld2 : f_X11_load w2 (nI (A 0 7 on)) 3 = some (nI (rLd (A 0) (A 0 7 on) 3 + wt)) := by
    rw [← lp]
    exact ld2
  have tl := tell_lp (w := w2) (wt := wt) hI.1 h01 h02 hn ho1 (prt_same hp (fun j => k3 _ _ (by omega))) k1 k2 (by show A 0 0 1 + 1 = n + 1; omega) (fun i hi => (k3 _ _ (by omega)).trans (hrow i hi)) (fun i hi => lk_B (m := on + 1) hI.1 h02 (by omega) (by omega))
  refine ⟨_, w2, ⟨k1, k2, (k3 _ _ (by omega)).trans h120, ?_, ?_, h20, h21, h30, h3, fun i hi => ?_⟩, ?_, ?_⟩
  · show lkR (A 0) (A 0 0 1) (A 0 7 on) (A 0 8 on) (on + 1) wt 1 7 0 0 = P
    rw [lkR_o (by omega) (by omega)]; exact h00
  · show A 0 0 1 + 1 = n + 1
    omega
  · show w2.1 130 (6 * i + 2) = nI (lkR (A 0) (A 0 0 1) (A 0 7 on) (A 0 8 on) (on + 1) wt 1 7 6 i)
    rw [lkR_o (by omega) (by omega), k3 _ _ (by omega)]
    exact (hp i hi).2.2.1
  · show lkR (A 0) (A 0 0 1) (A 0 7 on) (A 0 8 on) (on + 1) wt 1 7 0 2 = 0
    rw [lkR_o (by omega) (by omega)]; exact h02
  · unfold f_law2
    rw [e1, Option.bind_some, i6 on 3, z_in_t (show 6 * on + 3 < 64 by omega) (by omega), if_pos rfl, nI_clamp (by omega), p3, ld1, Option.bind_some, if_neg i10, e2, Option.bind_some]
    dsimp only
    rw [h01, if_pos rfl, if_pos rfl, k3 _ _ (by omega), p3, ld2, Option.bind_some, nI_add, if_pos rfl]
    unfold f_law2_J353
    rw [tl, Option.bind_some]
