/-! the law: the loop of letters; nobody twice in a year -/
theorem let_step {xs : Nat → Int32} {len : Nat} (hl : len ≤ 260) {A : AST} {P n i T : Nat} {w : ZW} (h : Q3 A P n 4 w) (hK : A 2 0 1 = 2 ^ i - 1) (hi : i < n) (hi4 : i < 4) (hn9 : n ≤ 9) (hT : T = Tw (A 0) (A 2)) (hTb : T ≤ 2 ^ (6 * i)) : ∃ A' T' w', f_law2_L681 (nI n) xs len ((1 : Int32), lN T, nI i, w) = some (.inl (1, lN T', nI (i + 1), w')) ∧ Q3 A' P n 4 w' ∧ A' 2 0 1 = 2 ^ (i + 1) - 1 ∧ T' = Tw (A' 0) (A' 2) ∧ T' ≤ 2 ^ (6 * (i + 1)) := by
  obtain ⟨c, hc, ec⟩ := L_cell_eq xs hl (k := 9 + i) (by omega)
  have m1 : c % 4 < 4 := Nat.mod_lt _ (by omega)
  have m2 : (c >>> 2) % 3 < 3 := Nat.mod_lt _ (by omega)
  have m3 : (c % 4 + 1 + (c >>> 2) % 3) % 4 < 4 := Nat.mod_lt _ (by omega)
  obtain ⟨g1, g2, g3⟩ := sg65 (c % 4) m1
  unfold f_law2_L681
  dsimp only
  rw [if_neg (nnle hi), if_neg (show ¬ (4 : Int32) ≤ nI i from nnle (a := 4) hi4), if_neg i10, show (9 : Int32) + nI i = nI (9 + i) from nI_add 9 i, ec, Option.bind_some, rem_lit hc (by decide) (by decide), shr_lit hc (by decide), rem_lit (shr_lt hc) (by decide) (by decide)]
  simp only [z_let]
  rw [nI_1, nI_add, rem_lit (by omega) (by decide) (by decide)]
  split
  · exact J753_eq (a := (63 : Int64)) (c1 := 63) h hK hi hi4 hn9 hT hTb (by decide +kernel) (by decide) (by decide) (by decide) m3
  · exact J753_eq (c1 := 65 + c % 4) h hK hi hi4 hn9 hT hTb (ch65 _ m1) g3 (by omega) g1 m3
theorem Tw_none {R S : ST} (h : S 0 1 = 0) : Tw R S = 1 := by
  have e : ∀ y, (wys R S y).length = 1 := fun y => by
    unfold wys grp
    rw [h, Nat.zero_and]
    exact wyl_none _ _ _ _
  have p : ∀ n, prN (fun y => (wys R S y).length) n = 1 := fun n => by
    induction n with
    | zero => rfl
    | succ n ih => rw [prN_s, ih, e]
  exact p 20
theorem J675_eq {xs : Nat → Int32} {len : Nat} (hl : len ≤ 260) {A : AST} {P n : Nat} {w : ZW} (h : Q3 A P n 4 w) (hK : A 2 0 1 = 0) (hn9 : n ≤ 9) : ∃ B T w', Q3 B P n 4 w' ∧ T = Tw (B 0) (B 2) ∧ f_law2_J675 xs len (nI n) 1 (nI P) w = f_law2_J938 xs len (nI n) 1 (nI P) (lN T) w' := by
  have lp : ∃ r, z_iter (f_law2_L681 (nI n) xs len) z_fuel ((1 : Int32), (1 : Int64), (0 : Int32), w) = some r ∧ ∃ B T w', r = ((1 : Int32), lN T, w') ∧ Q3 B P n 4 w' ∧ T = Tw (B 0) (B 2) := by
    refine it_inv (fun i s => ∃ A T w, s = ((1 : Int32), lN T, nI i, w) ∧ Q3 A P n 4 w ∧ A 2 0 1 = 2 ^ i - 1 ∧ T = Tw (A 0) (A 2) ∧ T ≤ 2 ^ (6 * i)) _ (if n < 4 then n else 4) (fun i s hi hs => ?_) (fun s hs => ?_) (zf (by split <;> omega)) ⟨A, 1, w, rfl, h, hK, (Tw_none hK).symm, Nat.le_refl _⟩
    · obtain ⟨A, T, w, rfl, h1, h2, h3, h4⟩ := hs
      left
      have li : i < n ∧ i < 4 := by
        by_cases q : n < 4
        · rw [if_pos q] at hi; omega
        · rw [if_neg q] at hi; omega
      obtain ⟨A', T', w', e, r1, r2, r3, r4⟩ := let_step (xs := xs) hl h1 h2 li.1 li.2 hn9 h3 h4
      exact ⟨_, e, A', T', w', rfl, r1, r2, r3, r4⟩
    · obtain ⟨A, T, w, rfl, h1, h2, h3, h4⟩ := hs
      refine ⟨(1, lN T, w), ?_, A, T, w, rfl, h1, h3⟩
      unfold f_law2_L681
      dsimp only
      by_cases q : n < 4
      · rw [if_pos q, if_pos (Int32.le_refl _)]
      · rw [if_neg q, if_pos (show (4 : Int32) ≤ nI 4 from Int32.le_refl _)]
        split <;> rfl
  obtain ⟨r, e, B, T, w', rfl, q1, q2⟩ := lp
  refine ⟨B, T, w', q1, q2, ?_⟩
  unfold f_law2_J675
  rw [e, Option.bind_some]
theorem pair_lp {A : AST} {P n a W : Nat} {u : ZW} (hy : ∀ i, i < n → u.1 130 (6 * i + 2) = nI (A 0 6 i)) (hI : RailI (A 0)) (hA : A 0 0 1 = n + 1) (hn : n ≤ 9) (ha : a < n) (hW : W < 2 ^ 14) (hd : ∀ b, b < a → W.testBit a = true → W.testBit b = true → A 0 6 a ≠ A 0 6 b) (s1 : Int32 × Int32) (h1 : s1.2 = nI a) (r : Int32 × ZW) (hr1 : r.1 = nI W) (hr2 : r.2 = u) : z_iter (f_law2_L980 s1 r) z_fuel ((1 : Int32), (0 : Int32)) = some 1 := by
  refine it_count (fun b => ((1 : Int32), nI b)) a 1 (fun b hb => ?_) ?_ (zf (by omega))
  · have y1 := (hI.2.2.2.2 a (by omega)).2.2.1
    have y2 := (hI.2.2.2.2 b (by omega)).2.2.1
    have t1 : ((nI W >>> (nI a &&& 31)) &&& 1 = 0) ↔ W.testBit a = false := nI_bit0 (by omega) (by omega)
    have t2 : ((nI W >>> (nI b &&& 31)) &&& 1 = 0) ↔ W.testBit b = false := nI_bit0 (by omega) (by omega)
    unfold f_law2_L980
    dsimp only
    rw [h1, hr1, hr2, if_neg (nnle hb), if_neg i10, i6 a 2, i6 b 2, z_in_t (show 6 * a + 2 < 64 by omega) (by omega), z_in_t (show 6 * b + 2 < 64 by omega) (by omega), if_pos rfl, if_pos rfl, nI_clamp (by omega), nI_clamp (by omega), hy a ha, hy b (by omega), ieq (by omega) (by omega), nI_1]
    by_cases q1 : W.testBit a = false
    · rw [if_pos (t1.mpr q1)]
    · rw [if_neg (fun h => q1 (t1.mp h))]
      by_cases q2 : W.testBit b = false
      · rw [if_pos (t2.mpr q2)]
      · rw [if_neg (fun h => q2 (t2.mp h)), if_neg (hd b hb (by simpa using q1) (by simpa using q2))]
  · unfold f_law2_L980
    dsimp only
    rw [h1, if_pos (Int32.le_refl _)]
theorem J938_eq {xs : Nat → Int32} {len : Nat} {A : AST} {P n T : Nat} {w : ZW} (h : Q3 A P n 4 w) (hn9 : n ≤ 9) (hT : T = Tw (A 0) (A 2)) : ∃ w', Q3 A P n 4 w' ∧ f_law2_J938 xs len (nI n) 1 (nI P) (lN T) w = f_law2_J1085 xs len (nI n) 1 (nI P) w' := by
  have lt := Tw_lt h.1.1 h.1.2.2.1
  rw [← hT] at lt
  have t0 : (lg_cmp (lN T) (0 : Int64) ≤ 0) ↔ T = 0 := lc1 lt
  have lp : ∃ r, z_iter (f_law2_L941 (lN T) (nI n)) z_fuel ((1 : Int32), (0 : Int32), w) = some r ∧ ∃ w', r = ((1 : Int32), w') ∧ Q3 A P n 4 w' := by
    refine it_inv (fun k s => ∃ w, s = ((1 : Int32), nI k, w) ∧ Q3 A P n 4 w) _ 4 (fun k s hk hs => ?_) (fun s hs => ?_) (zf (by omega)) ⟨w, rfl, h⟩
    · obtain ⟨w, rfl, hq⟩ := hs
      obtain ⟨hI, hC, h120, h00, h01, h20, hl, h30, h3, hy⟩ := id hq
      by_cases q : T = 0
      · right
        refine ⟨(1, w), ?_, w, rfl, hq⟩
        unfold f_law2_L941
        dsimp only
        rw [if_neg (show ¬ (4 : Int32) ≤ nI k from nnle (a := 4) hk), if_neg i10, if_pos (t0.mpr q)]
      · left
        have hT0 : Tw (A 0) (A 2) ≠ 0 := by rw [← hT]; exact q
        obtain ⟨w1, e1, f1, l1⟩ := K_where (p := k) (m := 1) hI hC hT0 (by omega) (by omega)
        have q1 : Q3 A P n 4 w1 := Q3_fr hq (wy_stC hC f1 l1) (f1 _ _ (by omega)) (fun j => f1 _ _ (by omega))
        obtain ⟨w2, e2, f2, l2⟩ := K_where (p := k) (m := 0) hI q1.2.1 hT0 (by omega) (by omega)
        have q2 : Q3 A P n 4 w2 := Q3_fr q1 (wy_stC q1.2.1 f2 l2) (f2 _ _ (by omega)) (fun j => f2 _ _ (by omega))
        have e1 : f_X11_where w (nI k) 1 = some (nI (bst (whf (A 0) (A 2) 1 k) 14), w1) := e1
        have e2 : f_X11_where w1 (nI k) 0 = some (nI (bst (whf (A 0) (A 2) 0 k) 14), w2) := e2
        have b14 : bst (whf (A 0) (A 2) 1 k) 14 < 2 ^ 14 := by
          have : ∀ m, bst (whf (A 0) (A 2) 1 k) m < 2 ^ m := fun m => by
            induction m with
            | zero => exact Nat.pow_pos (by omega)
            | succ m ih =>
              have p2 : 2 ^ m < 2 ^ (m + 1) := Nat.pow_lt_pow_right (by omega) (by omega)
              rw [bst_s]
              split
              · exact Nat.or_lt_two_pow (by omega) p2
              · omega
          exact this 14
        have sub : ndn (bst (whf (A 0) (A 2) 1 k) 14) (bst (whf (A 0) (A 2) 0 k) 14) = 0 := (sbq_iff b14).mpr (fun i hi => by
          obtain ⟨a1, a2⟩ := (bst_bit 14).mp hi
          exact (bst_bit 14).mpr ⟨a1, whf_some hI.1 hI.2.2.1 hT0 a2⟩)
        have inner : z_iter (f_law2_L971 (nI n) (nI (bst (whf (A 0) (A 2) 1 k) 14), w1)) z_fuel ((1 : Int32), (0 : Int32)) = some 1 := by
          refine it_count (fun a => ((1 : Int32), nI a)) n 1 (fun a ha => ?_) ?_ (zf (by omega))
          · have pl := pair_lp (A := A) (P := P) (W := bst (whf (A 0) (A 2) 1 k) 14) q1.2.2.2.2.2.2.2.2.2 hI.1 h01 hn9 ha b14 (fun b hb x1 x2 => whf_one hI.1 hI.2.2.1 hT0 hb ((bst_bit 14).mp x1).2 ((bst_bit 14).mp x2).2) ((1 : Int32), nI a) rfl (nI (bst (whf (A 0) (A 2) 1 k) 14), w1) rfl rfl
            unfold f_law2_L971
            dsimp only
            rw [if_neg (nnle ha), pl, Option.bind_some, nI_1]
          · unfold f_law2_L971
            dsimp only
            rw [if_pos (Int32.le_refl _)]
        refine ⟨((1 : Int32), nI (k + 1), w2), ?_, w2, rfl, q2⟩
        unfold f_law2_L941
        dsimp only
        rw [if_neg (show ¬ (4 : Int32) ≤ nI k from nnle (a := 4) hk), if_neg i10, if_neg (fun z => q (t0.mp z)), e1, Option.bind_some, inner, Option.bind_some, if_neg i10]
        dsimp only
        rw [e2, Option.bind_some]
        dsimp only
        rw [nI_ndn, sub, if_pos (show nI 0 = 0 from rfl), nI_1]
    · obtain ⟨w, rfl, hq⟩ := hs
      refine ⟨(1, w), ?_, w, rfl, hq⟩
      unfold f_law2_L941
      dsimp only
      rw [if_pos (show (4 : Int32) ≤ nI 4 from Int32.le_refl _)]
  obtain ⟨r, e, w', rfl, q1⟩ := lp
  refine ⟨w', q1, ?_⟩
  unfold f_law2_J938
  rw [e, Option.bind_some]
