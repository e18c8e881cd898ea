/-! the law's first half: what a thief took -/
theorem LSt_fr {A : AST} {P n : Nat} {w w' : ZW} (h : LSt A P n w) (f : ∀ b j, b ≠ 119 → w'.1 b j = w.1 b j) (g : w'.2 = w.2) : LSt A P n w' := by
  obtain ⟨hI, hC, h120, h00, h01, h02, h20, h21, h30, h3, hp⟩ := h
  exact ⟨hI, fr_K (fun a j q => f a j (by unfold kC at q; omega)) (fun a j _ => by rw [g]) hC, (f _ _ (by omega)).trans h120, h00, h01, h02, h20, h21, h30, h3, prt_same hp (fun j => f _ _ (by omega))⟩
theorem tk_lp {R : ST} {w : ZW} {xs : Nat → Int32} {len : Nat} (hI : RailI R) (hn : R 0 1 ≤ 9) (hg0 : R 0 2 = 0) (hp : prt R (R 0 1) w) {hg c : Nat} (hhg : hg < 2 ^ 14) (hc : c < 2 ^ 31) (ec : f_L_cell xs len 7 = some (nI c)) : z_iter (f_law_L72 (nI (R 0 1)) (nI hg) w xs len) z_fuel ((0 : Int32), (0 : Int32)) = some (nI (tkn R hg c (R 0 1))) := by
  have h9 : ∀ i, i < R 0 1 → R 9 i ≤ i := fun i hi => (hI.2.2.2.2 i hi).2.2.2.2.2.1
  rw [show ((0 : Int32), (0 : Int32)) = (nI (tkn R hg c 0), nI 0) from rfl, it_count (fun i => (nI (tkn R hg c i), nI i)) (R 0 1) (nI (tkn R hg c (R 0 1))) ?_ ?_ (zf (by omega))]
  · intro i h2
    obtain ⟨-, e1, -⟩ := hp i h2
    have h5 := (hI.2.2.2.2 i h2).2.1
    have b1 : ((nI hg >>> (nI i &&& 31)) &&& 1 = 1) ↔ hg.testBit i = true := nI_bit1 (by omega) (by omega)
    have b2 : ((nI c >>> (nI i &&& 31)) &&& 1 = 1) ↔ c.testBit i = true := nI_bit1 (by omega) (by omega)
    have z5 : nI (R 5 i) = 0 ↔ R 5 i = 0 := nI_inj (by omega) (show 0 < 2 ^ 31 by omega)
    unfold f_law_L72
    dsimp only
    rw [if_neg (nnle h2), i6 i 1, z_in_t (show 6 * i + 1 < 64 by omega) (by omega), if_pos rfl, nI_clamp (by omega), e1, ec, Option.bind_some, L_under_eq h9 (by omega) hg0 hp h2, Option.bind_some, nI_1, nI_or, Int32.or_zero, tkn_s]
    by_cases q1 : hg.testBit i = true
    · rw [if_pos (b1.mpr q1)]
      by_cases q2 : R 5 i = 0
      · rw [if_pos (z5.mpr q2)]
        by_cases q3 : c.testBit i = true
        · rw [if_pos (b2.mpr q3), if_pos ⟨q1, q2, q3⟩]
        · rw [if_neg (fun h => q3 (b2.mp h)), if_neg (fun h => q3 h.2.2), Nat.or_zero]
      · rw [if_neg (fun h => q2 (z5.mp h)), if_neg (fun h => q2 h.2.1), Nat.or_zero]
    · rw [if_neg (fun h => q1 (b1.mp h)), if_neg (fun h => q1 h.1), Nat.or_zero]
  · unfold f_law_L72
    dsimp only
    rw [if_pos (Int32.le_refl _)]
theorem lcl_len {R : ST} (hI : RailI R) {p q load : Nat} (hq : q ≤ 2) : (lcl R (rH R p q) load).length ≤ 16384 := by
  have hL := hI.2.1
  have h14 : rH R p q < 2 ^ 14 := le14 hL rH_lt
  have pm := loots_perm hI (p := p) (load := load) hq
  rw [pm.length_eq]
  have l1 := List.length_filter_le (cnl R (rW R (rH R p q)) load) (dl (rH R p q) (rH R p q))
  have l2 := dl_len (all := rH R p q) (rH R p q)
  omega
theorem J231_eq {xs : Nat → Int32} {len : Nat} (hl : len ≤ 260) {n P : Nat} (hn : 1 ≤ n) (hn9 : n ≤ 9) (w : ZW) : ∃ on wt, on < n ∧ (1 ≤ wt ∧ wt ≤ 50) ∧ f_law_J231 xs len (nI n) 1 (nI P) w = f_law2 xs len (z_new w) (nI n) 1 (nI P) (nI on) (nI wt) := by
  obtain ⟨c, hc, ec⟩ := L_cell_eq xs hl (k := 8) (by omega)
  have ec : f_L_cell xs len 8 = some (nI c) := ec
  have m1 : c % n < n := Nat.mod_lt _ (by omega)
  have m2 : (c >>> 5) % 50 < 50 := Nat.mod_lt _ (by omega)
  refine ⟨c % n, 1 + (c >>> 5) % 50, m1, by omega, ?_⟩
  unfold f_law_J231
  rw [ec, Option.bind_some, if_neg (nI_nz (by omega) (by omega)), Option.bind_some, shr_lit hc (by decide), rem_lit (shr_lt hc) (by decide) (by decide), one_add, pk_rem hc (by omega) (by omega)]
  simp only [z_let]
theorem J31_eq {xs : Nat → Int32} {len : Nat} (hl : len ≤ 260) {A : AST} {P n : Nat} {w : ZW} (h : LSt A P n w) (hP : 1 ≤ P ∧ P ≤ 4) (hn : 1 ≤ n ∧ n ≤ 9) {c : Nat} (hc : c < 2 ^ 31) (ec : f_L_cell xs len 0 = some (nI c)) (eP : P = 1 + c % 4) : ∃ w', LSt A P n w' ∧ f_law_J31 xs len (nI n) 1 w = f_law_J231 xs len (nI n) 1 (nI P) w' := by
  obtain ⟨hI, hC, h120, h00, h01, h02, h20, h21, h30, h3, hp⟩ := id h
  obtain ⟨c7, hc7, e7⟩ := L_cell_eq xs hl (k := 7) (by omega)
  have e7 : f_L_cell xs len 7 = some (nI c7) := e7
  obtain ⟨-, -, -, p3, p4, -⟩ := hp 0 (by omega)
  have p3 : w.1 130 3 = nI (A 0 7 0) := p3
  have p4 : w.1 130 4 = nI (A 0 8 0) := p4
  obtain ⟨-, -, -, i7, i8, -⟩ := hI.1.2.2.2.2 0 (by omega)
  have hpR : prt (A 0) (A 0 0 1) w := by rw [h01]; exact hp
  have h7 : ∀ i, i < A 0 0 1 → A 0 7 i < 100 ∧ A 0 8 i ≤ 2 := fun i hi => by
    obtain ⟨-, -, -, a, b, -⟩ := hI.1.2.2.2.2 i hi
    exact ⟨by have := hI.1.1; omega, b⟩
  have hung := L_hung_eq (p := A 0 7 0) (q := A 0 8 0) h7 (by omega) h02 hpR (by omega) i8
  have h14 : rH (A 0) (A 0 7 0) (A 0 8 0) < 2 ^ 14 := le14 hI.1.2.1 rH_lt
  have took := tk_lp hI.1 (by omega) h02 hpR h14 hc7 e7
  have load := K_load hI hC (p := A 0 7 0) (q := A 0 8 0) i7 (by omega)
  have eL : rLd (A 0) (A 0 7 0) (A 0 8 0) = rW (A 0) (rH (A 0) (A 0 7 0) (A 0 8 0)) := by unfold rLd; rw [if_pos (by omega)]
  rw [eL] at load
  rw [h01] at hung took
  have tlt : tkn (A 0) (rH (A 0) (A 0 7 0) (A 0 8 0)) c7 n < 2 ^ 14 := le14 hI.1.2.1 (tkn_lt hI.1 n (by omega))
  unfold f_law_J31
  rw [ec, Option.bind_some, rem_lit hc (by decide) (by decide), one_add, ← eP]
  simp only [z_let]
  rw [if_pos (show z_in (3 : Int32) 64 = true by decide), if_pos (show z_in (4 : Int32) 64 = true by decide), show (3 : Int32).toNatClampNeg = 3 from rfl, show (4 : Int32).toNatClampNeg = 4 from rfl, p3, p4, hung, Option.bind_some, took, Option.bind_some, load, Option.bind_some]
  generalize hT : tkn (A 0) (rH (A 0) (A 0 7 0) (A 0 8 0)) c7 n = T at *
  have zT : nI T = 0 ↔ T = 0 := nI_inj (by omega) (show 0 < 2 ^ 31 by omega)
  by_cases q : T = 0
  · rw [if_pos (zT.mpr q)]
    exact ⟨w, h, rfl⟩
  · rw [if_neg (fun h => q (zT.mp h)), if_neg i10]
    have tl := tkn_lcl hI.1 h02 (p := A 0 7 0) (q := A 0 8 0) (c := c7) i8 (by rw [h01, hT]; exact q)
    rw [h01, hT] at tl
    obtain ⟨le, mem⟩ := tl
    have wle := rW_le hI.1 (rH (A 0) (A 0 7 0) (A 0 8 0))
    have weigh := L_weigh_eq (R := A 0) (by omega) hpR tlt
    rw [h01] at weigh
    rw [weigh, Option.bind_some, pk_sub le]
    have ln := lcl_len hI.1 (p := A 0 7 0) (q := A 0 8 0) (load := rW (A 0) (rH (A 0) (A 0 7 0) (A 0 8 0)) - rW (A 0) T) i8
    generalize hld : rW (A 0) (rH (A 0) (A 0 7 0) (A 0 8 0)) - rW (A 0) T = load0 at *
    generalize hxs : lcl (A 0) (rH (A 0) (A 0 7 0) (A 0 8 0)) load0 = ys at *
    have l1 : 1 ≤ ys.length := by
      cases ys with
      | nil => cases mem
      | cons y ys => exact Nat.succ_le_succ (Nat.zero_le _)
    have nz : ¬ nI ys.length = 0 := nI_nz (by omega) (by omega)
    obtain ⟨w1, s1, f1, g1⟩ := K_stolen (m := 0) hI hC i7 i8 (show load0 ≤ 99999 by omega) (by omega)
    have h1 := LSt_fr h f1 g1
    obtain ⟨w2, s2, f2, g2⟩ := K_stolen (m := 2) hI h1.2.1 i7 i8 (show load0 ≤ 99999 by omega) (by omega)
    have h2 := LSt_fr h1 f2 g2
    obtain ⟨w3, s3, f3, g3⟩ := K_stolen (m := 1) hI h2.2.1 i7 i8 (show load0 ≤ 99999 by omega) (by omega)
    have h3' := LSt_fr h2 f3 g3
    rw [hxs, if_pos rfl] at s1
    rw [hxs, if_neg (by omega), if_neg nz, if_neg (by omega)] at s2
    rw [hxs, if_neg (by omega), if_neg nz, if_pos rfl] at s3
    have s1 : f_X11_stolen w (nI (A 0 7 0)) (nI (A 0 8 0)) (nI load0) 0 = some (nI ys.length, w1) := s1
    have s2 : f_X11_stolen w1 (nI (A 0 7 0)) (nI (A 0 8 0)) (nI load0) 2 = some (nI (ys.foldl (fun x y => x ||| y) 0), w2) := s2
    have s3 : f_X11_stolen w2 (nI (A 0 7 0)) (nI (A 0 8 0)) (nI load0) 1 = some (nI (ys.foldl (fun x y => x &&& y) (2 ^ 32 - 1)), w3) := s3
    have o1 : ndn T (ys.foldl (fun x y => x ||| y) 0) = 0 := (sbq_iff tlt).mpr (fun i hi => or_in ys 0 (Or.inl ⟨mem, hi⟩))
    have sa : sbq (ys.foldl (fun x y => x &&& y) (2 ^ 32 - 1)) T := fun i hi => (and_in ys _ hi).2 mem
    have a1 : ndn (ys.foldl (fun x y => x &&& y) (2 ^ 32 - 1)) T = 0 := (sbq_iff (Nat.lt_of_le_of_lt (Nat.le_of_testBit sa) tlt)).mpr sa
    rw [s1, Option.bind_some]
    dsimp only
    rw [if_neg (fun h => by have := (nI_ltI (a := ys.length) (b := 1) (by omega) (by omega)).mp h; omega), s2, Option.bind_some]
    dsimp only
    rw [nI_ndn, o1, if_pos (show nI 0 = 0 from rfl), s3, Option.bind_some]
    dsimp only
    rw [nI_ndn, a1, if_pos (show nI 0 = 0 from rfl)]
    exact ⟨w3, h3', rfl⟩
/-- the new world -/
def A0 : AST := fun k a j => if k = 3 ∧ a = 0 ∧ j = 0 then 2 else 0
theorem A0_z {k a j : Nat} (h : ¬ (k = 3 ∧ a = 0 ∧ j = 0)) : A0 k a j = 0 := if_neg h
theorem w0_55 : ∀ k, k < 12 → z_w0i 55 k = nI (if k = 0 then 9999 else 1000000) := by decide +kernel
theorem LSt_0 : LSt A0 0 0 z_w0 := by
  have r0 : ∀ a j, A0 0 a j = 0 := fun a j => A0_z (by omega)
  have r1 : ∀ a j, A0 1 a j = 0 := fun a j => A0_z (by omega)
  have r2 : ∀ a j, A0 2 a j = 0 := fun a j => A0_z (by omega)
  have r3 : ∀ a j, ¬ (a = 0 ∧ j = 0) → A0 3 a j = 0 := fun a j h => A0_z (by omega)
  have r4 : ∀ a j, A0 4 a j = 0 := fun a j => A0_z (by omega)
  have s0 : ∀ p, sgC (A0 1) p (A0 1 0 0) = 0 := fun p => by rw [r1 0 0]; rfl
  refine ⟨⟨⟨?_, ?_, ?_, fun p hp => ?_, fun i hi => ?_⟩, ⟨?_, fun k hk => ?_⟩, ⟨?_, ?_, ?_, fun p hp => ?_, fun l hl => ?_⟩, ⟨?_, fun p hp => ?_⟩, fun k _ h => ?_⟩, ⟨⟨?_, ?_, ?_, fun p hp => ?_, fun i hi => ?_⟩, ⟨?_, fun p hp => ?_⟩, ⟨?_, ?_, fun p hp => ?_, fun l hl => ?_⟩, ⟨?_, fun p hp => ?_⟩, fun k hk => ?_⟩, rfl, rfl, rfl, rfl, rfl, rfl, rfl, fun p => ⟨r3 1 p (by omega), r3 2 p (by omega), r3 3 p (by omega)⟩, fun j hj => by omega⟩
  · rw [r0]; omega
  · rw [r0]; omega
  · rw [r0, r0]; omega
  · rw [r0] at hp; omega
  · rw [r0] at hi; omega
  · rw [r1]; omega
  · rw [r1] at hk; omega
  · rw [r2]; omega
  · rw [r2, r0]; omega
  · rw [r2]; decide
  · rw [r2] at hp; omega
  · rw [r2, Nat.zero_testBit] at hl; cases hl
  · show 1 ≤ 2 ∧ 2 ≤ 3; omega
  · rw [r3 1 p (by omega), r3 2 p (by omega), r3 3 p (by omega)]; omega
  · exact absurd (r4 0 k) h
  · rw [r0]; rfl
  · rw [r0]; rfl
  · rw [r0]; rfl
  · rw [r0] at hp; omega
  · rw [r0] at hi; omega
  · rw [r1]; rfl
  · exact ⟨by rw [s0 p]; rfl, fun h => absurd (s0 p) h⟩
  · rw [r2]; rfl
  · rw [r2]; rfl
  · rw [r2] at hp; omega
  · rw [r2, Nat.zero_testBit] at hl; cases hl
  · rfl
  · rw [r3 1 p (by omega), r3 2 p (by omega), r3 3 p (by omega)]; exact ⟨rfl, rfl, rfl⟩
  · rw [r4, if_pos rfl, if_pos rfl]; exact ⟨rfl, w0_55 k hk⟩
theorem law1_eq (xs : Nat → Int32) {len : Nat} (hl : len ≤ 260) : ∃ A P n w on wt, LSt A P n w ∧ (1 ≤ P ∧ P ≤ 4) ∧ (1 ≤ n ∧ n ≤ 9) ∧ on < n ∧ (1 ≤ wt ∧ wt ≤ 50) ∧ f_law xs len z_w0 = f_law2 xs len (z_new w) (nI n) 1 (nI P) (nI on) (nI wt) := by
  obtain ⟨A, P, n, w, e, hP, hn, h, c, hc, ec, eP⟩ := lays_eq (xs := xs) hl LSt_0
  obtain ⟨w1, h1, e1⟩ := J31_eq (xs := xs) hl h hP hn hc ec eP
  obtain ⟨on, wt, ho1, hw1, e2⟩ := J231_eq (xs := xs) hl (P := P) hn.1 hn.2 w1
  refine ⟨A, P, n, w1, on, wt, h1, hP, hn, ho1, hw1, ?_⟩
  unfold f_law
  rw [show (9 : Int32) = OfNat.ofNat 9 from rfl, e, Option.bind_some, if_neg (pos0 (by omega) (by omega)), e1, e2]
