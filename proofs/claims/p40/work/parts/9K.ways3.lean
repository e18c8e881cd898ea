/-! ways: the class, all years -/
theorem agree_tot (a b : Int64) : ∃ r, f_X2_agree a b = some r := by
  have key : ∃ r, z_iter (f_X2_agree_L3 a b) z_fuel (0 : Int32) = some r ∧ True := by
    refine it_inv (fun i (s : Int32) => s = nI (8 * i)) (fun _ => True) 6 (fun i s hi hP => ?_) (fun s hP => ?_) (zf (by omega)) rfl
    · rw [hP]
      unfold f_X2_agree_L3
      rw [show (48 : Int32) = nI 48 from rfl, if_neg (nnle (by omega)), show (8 : Int32) = nI 8 from rfl, nI_add, zl, zl]
      split
      · exact Or.inl ⟨_, rfl, by rw [Nat.mul_succ]⟩
      · split
        · split
          · exact Or.inr ⟨_, rfl, trivial⟩
          · exact Or.inl ⟨_, rfl, by rw [Nat.mul_succ]⟩
        · exact Or.inr ⟨_, rfl, trivial⟩
    · rw [hP]
      unfold f_X2_agree_L3
      rw [if_pos (by decide)]
      exact ⟨_, rfl, trivial⟩
  obtain ⟨r, e, -⟩ := key
  unfold f_X2_agree
  rw [e, Option.bind_some]
  cases r
  · exact ⟨_, rfl⟩
  · exact ⟨_, rfl⟩
theorem who_tot {w : ZW} {N : Nat} (hN : N ≤ 8) (h : w.1 16 0 = nI N) (x : Int64) : ∃ r, f_X2_allWhoAgree w x = some r := by
  have key : ∃ r, z_iter (f_X2_allWhoAgree_L5 w x) z_fuel ((0 : Int32), (0 : Int32)) = some r ∧ True := by
    refine it_inv (fun i (s : Int32 × Int32) => s.2 = nI i) (fun _ => True) N (fun i s hi hP => ?_) (fun s hP => ?_) (zf (by omega)) rfl
    · obtain ⟨r, e⟩ := agree_tot x (w.2 17 (nI i).toNatClampNeg)
      left
      unfold f_X2_allWhoAgree_L5
      rw [hP, h, if_neg (nnle hi), z_in_t (show i < 8 by omega) (by omega), if_pos rfl, e, Option.bind_some, zl, nI_1]
      split
      · exact ⟨_, rfl, rfl⟩
      · exact ⟨_, rfl, rfl⟩
    · unfold f_X2_allWhoAgree_L5
      rw [hP, h, if_pos (Int32.le_refl _)]
      exact ⟨_, rfl, trivial⟩
  obtain ⟨r, e, -⟩ := key
  unfold f_X2_allWhoAgree
  rw [e]
  exact ⟨_, rfl⟩
theorem first_any {L : Nat} {S : ST} {w : ZW} (hI : NamesI L S) (hC : NamesC S w.1 w.2) {l : Nat} (hl : l < 14) : ∃ r, f_X2_peopleOfFirst w (nI l) = some r ∧ ((S 0 1).testBit l = true → r = nI (wB1 S l)) := by
  unfold f_X2_peopleOfFirst
  rw [z_in_t hl (by omega), if_pos rfl, nI_clamp (show l < 2 ^ 31 by omega)]
  by_cases hb : (S 0 1).testBit l = true
  · obtain ⟨b1, b2, -⟩ := hI.2.2.2.2 l hb
    obtain ⟨v1, v2⟩ := worn_ok hI hb
    obtain ⟨c1, c2⟩ := hC.2.2.2 l hb
    rw [c1, who_eq hI hC b1.2 v1]
    exact ⟨_, rfl, fun _ => rfl⟩
  · obtain ⟨r, e⟩ := who_tot hI.1 hC.1 (w.2 18 l)
    rw [e]
    exact ⟨_, rfl, fun h => absurd h hb⟩
theorem second_any {L : Nat} {S : ST} {w : ZW} (hI : NamesI L S) (hC : NamesC S w.1 w.2) {l : Nat} (hl : l < 14) : ∃ r, f_X2_peopleOfSecond w (nI l) = some r ∧ ((S 0 1).testBit l = true → r = nI (wB2 S l)) := by
  unfold f_X2_peopleOfSecond
  rw [z_in_t hl (by omega), if_pos rfl, nI_clamp (show l < 2 ^ 31 by omega)]
  by_cases hb : (S 0 1).testBit l = true
  · obtain ⟨b1, b2, -⟩ := hI.2.2.2.2 l hb
    obtain ⟨v1, v2⟩ := worn_ok hI hb
    obtain ⟨c1, c2⟩ := hC.2.2.2 l hb
    rw [c2, who_eq hI hC b2.2 v2]
    exact ⟨_, rfl, fun _ => rfl⟩
  · obtain ⟨r, e⟩ := who_tot hI.1 hC.1 (w.2 19 l)
    rw [e]
    exact ⟨_, rfl, fun h => absurd h hb⟩
theorem prep11 {L : Nat} {S : ST} {w : ZW} (hI : NamesI L S) (hC : NamesC S w.1 w.2) : ∃ r, z_iter f_X5_findWays_L18 z_fuel ((0 : Int32), w) = some r ∧ (∀ b j, ¬ (b = 112 ∨ b = 113 ∨ b = 115 ∨ b = 116) → r.1 b j = w.1 b j) ∧ r.2 = w.2 ∧ (∀ l, l < 14 → (S 0 1).testBit l = true → r.1 112 l = nI (wB1 S l) ∧ r.1 113 l = nI (wB2 S l)) ∧ ∀ l, l < 14 → r.1 115 l = 0 ∧ r.1 116 l = -1 := by
  refine it_inv (fun i (s : Int32 × ZW) => s.1 = nI i ∧ (∀ b j, ¬ (b = 112 ∨ b = 113 ∨ b = 115 ∨ b = 116) → s.2.1 b j = w.1 b j) ∧ s.2.2 = w.2 ∧ (∀ l, l < i → (S 0 1).testBit l = true → s.2.1 112 l = nI (wB1 S l) ∧ s.2.1 113 l = nI (wB2 S l)) ∧ ∀ l, l < i → s.2.1 115 l = 0 ∧ s.2.1 116 l = -1) _ 14 (fun i s hi hP => ?_) (fun s hP => ?_) (zf (by omega)) ⟨rfl, fun b j _ => rfl, rfl, fun l hl => by omega, fun l hl => by omega⟩
  · obtain ⟨p1, p2, p3, p4, p5⟩ := hP
    obtain ⟨x, u⟩ := s
    dsimp only at p1 p2 p3 p4 p5
    subst p1
    left
    have hC1 : NamesC S u.1 u.2 := fr_NC (fun a j z => p2 a j (by unfold cNC at z; omega)) (fun a j _ => by rw [p3]) hC
    obtain ⟨r1, e1, h1⟩ := first_any hI hC1 hi
    have hC2 : NamesC S (z_upI u 112 i r1).1 (z_upI u 112 i r1).2 := fr_NC (fun a j z => upc (by unfold cNC at z; omega)) (fun a j _ => rfl) hC1
    obtain ⟨r2, e2, h2⟩ := second_any hI hC2 hi
    refine ⟨(nI (i + 1), z_upI (z_upI (z_upI (z_upI u 112 i r1) 113 i r2) 115 i 0) 116 i (-1)), ?_, rfl, fun b j h => ?_, p3, fun l hl hb => ?_, fun l hl => ?_⟩
    · unfold f_X5_findWays_L18
      dsimp only
      rw [show (14 : Int32) = nI 14 from rfl, if_neg (nnle hi), e1, Option.bind_some, z_in_t hi (by omega), if_pos rfl, nI_clamp (show i < 2 ^ 31 by omega), zl, e2, Option.bind_some, if_pos rfl, zl, if_pos rfl, zl, if_pos rfl, zl, nI_1]
    · rw [upc (by omega), upc (by omega), upc (by omega), upc (by omega)]
      exact p2 b j h
    · by_cases z : l = i
      · subst z
        refine ⟨?_, ?_⟩
        · rw [upc (by omega), upc (by omega), upc (by omega), upc_e]
          exact h1 hb
        · rw [upc (by omega), upc (by omega), upc_e]
          exact h2 hb
      · refine ⟨?_, ?_⟩
        · rw [upc (by omega), upc (by omega), upc (by omega), upc (by omega)]
          exact (p4 l (by omega) hb).1
        · rw [upc (by omega), upc (by omega), upc (by omega), upc (by omega)]
          exact (p4 l (by omega) hb).2
    · by_cases z : l = i
      · subst z
        refine ⟨?_, upc_e⟩
        rw [upc (by omega), upc_e]
      · rw [upc (by omega), upc (by omega), upc (by omega), upc (by omega), upc (by omega), upc (by omega), upc (by omega), upc (by omega)]
        exact p5 l (by omega)
  · obtain ⟨p1, p2, p3, p4, p5⟩ := hP
    obtain ⟨x, u⟩ := s
    dsimp only at p1 p2 p3 p4 p5
    subst p1
    refine ⟨u, ?_, p2, p3, p4, p5⟩
    unfold f_X5_findWays_L18
    dsimp only
    rw [show (14 : Int32) = nI 14 from rfl, if_pos (Int32.le_refl _)]
def lyn (R : ST) (y : Nat) : Nat → Nat
  | 0 => 0
  | l + 1 => if R 6 l = y then lyn R y l ||| 2 ^ l else lyn R y l
theorem lyn_s {R : ST} {y l : Nat} : lyn R y (l + 1) = if R 6 l = y then lyn R y l ||| 2 ^ l else lyn R y l := rfl
theorem lyn_bit {R : ST} {y i : Nat} : ∀ l, (lyn R y l).testBit i = true ↔ i < l ∧ R 6 i = y
  | 0 => ⟨(fun h => by rw [show lyn R y 0 = 0 from rfl, Nat.zero_testBit] at h; cases h), (fun h => by omega)⟩
  | l + 1 => by
    have ih := lyn_bit (R := R) (y := y) (i := i) l
    rw [lyn_s]
    by_cases q : R 6 l = y
    · rw [if_pos q, Nat.testBit_or, Nat.testBit_two_pow, Bool.or_eq_true, ih, decide_eq_true_eq]
      constructor
      · rintro (⟨h1, h2⟩ | h)
        · exact ⟨by omega, h2⟩
        · subst h; exact ⟨by omega, q⟩
      · rintro ⟨h1, h2⟩
        by_cases z : l = i
        · exact Or.inr z
        · exact Or.inl ⟨by omega, h2⟩
    · rw [if_neg q, ih]
      constructor
      · rintro ⟨h1, h2⟩
        exact ⟨by omega, h2⟩
      · rintro ⟨h1, h2⟩
        refine ⟨?_, h2⟩
        by_cases z : i = l
        · subst z; exact absurd h2 q
        · omega
theorem lyn11 {R : ST} {w : ZW} (hI : RailI R) (hC : RailC R w.1) {y : Nat} (hy : y < 20) : f_X5_locksOfYear w (nI y) = some (nI (lyn R y (R 0 1))) := by
  have hL := hI.2.1
  unfold f_X5_locksOfYear
  rw [show ((0 : Int32), (0 : Int32)) = (nI (lyn R y 0), nI 0) from rfl, it_count (fun l => (nI (lyn R y l), nI l)) (R 0 1) (nI (lyn R y (R 0 1))) ?_ ?_ (zf (by omega))]
  · rfl
  · intro l hl
    obtain ⟨-, -, h6, -⟩ := hI.2.2.2.2 l hl
    obtain ⟨-, -, c6, -⟩ := hC.2.2.2.2 l hl
    unfold f_X5_locksOfYear_L4
    dsimp only
    rw [hC.2.1, if_neg (nnle hl), show (14 : Int32) = nI 14 from rfl, if_neg (nnle (show l < 14 by omega)), z_in_t (show l < 14 by omega) (by omega), if_pos rfl, nI_clamp (show l < 2 ^ 31 by omega), c6, ieq (by omega) (by omega), nI_shl1 (by omega), nI_or, zl, nI_1, lyn_s]
    split <;> rfl
  · unfold f_X5_locksOfYear_L4
    dsimp only
    rw [hC.2.1, if_pos (Int32.le_refl _)]
def grp (R S : ST) (y : Nat) : Nat := S 0 1 &&& lyn R y (R 0 1)
theorem grp_bit {R S : ST} (h : S 0 1 < 2 ^ R 0 1) {y l : Nat} : (grp R S y).testBit l = true ↔ (S 0 1).testBit l = true ∧ R 6 l = y := by
  unfold grp
  rw [Nat.testBit_and, Bool.and_eq_true, lyn_bit]
  exact ⟨fun z => ⟨z.1, z.2.2⟩, fun z => ⟨z.1, bit_lt h z.1, z.2⟩⟩
def wys (R S : ST) (y : Nat) : List (Nat → Nat) := wyl (S 0 0) (cb S) (grp R S y) 14 0 0 (fun _ => 0)
def prN (f : Nat → Nat) : Nat → Nat
  | 0 => 1
  | n + 1 => prN f n * f n
theorem prN_s {f : Nat → Nat} {n : Nat} : prN f (n + 1) = prN f n * f n := rfl
theorem wyl_none {N : Nat} {c : Nat → Nat → Nat → Bool} : ∀ e k t f, (wyl N c 0 e k t f).length = 1
  | 0, _, _, _ => rfl
  | e + 1, k, t, f => by
    rw [wyl_s, if_neg (by rw [Nat.zero_testBit]; simp)]
    exact wyl_none e (k + 1) t f
theorem upJc {w : ZW} {a j b k : Nat} {x : Int64} (h : ¬ (b = a ∧ k = j)) : (z_upJ w a j x).2 b k = w.2 b k := if_neg h
theorem upJc_e {w : ZW} {a j : Nat} {x : Int64} : (z_upJ w a j x).2 a j = x := if_pos ⟨rfl, rfl⟩
theorem find_lp {R S : ST} {w : ZW} (hR : RailI R) (hI : NamesI (R 0 1) S) (hC : RailC R w.1) (h1 : w.1 111 1 = nI (S 0 0)) (h2 : w.1 111 2 = nI (S 0 1)) (hw : w.2 111 0 = 1) (hb : ∀ l, (S 0 1).testBit l = true → w.1 112 l = nI (wB1 S l) ∧ w.1 113 l = nI (wB2 S l)) (h0 : ∀ l, l < 14 → w.1 115 l = 0 ∧ w.1 116 l = -1) : ∃ r, z_iter f_X5_findWays_L73 z_fuel ((0 : Int32), w) = some r ∧ (∀ b j, ¬ (114 ≤ b ∧ b ≤ 116) → r.1 b j = w.1 b j) ∧ (∀ b j, b ≠ 111 → r.2 b j = w.2 b j) ∧ r.2 111 0 = lN (prN (fun y => (wys R S y).length) 20) ∧ ∀ l, (S 0 1).testBit l = true → r.1 115 l = nI ((wys R S (R 6 l)).foldl (fun o x => o ||| x l) 0) ∧ r.1 116 l = nI ((wys R S (R 6 l)).foldl (fun a x => a &&& x l) (2 ^ 32 - 1)) := by
  have hL := hR.2.1
  have l14 : S 0 1 < 2 ^ 14 := Nat.lt_of_lt_of_le hI.2.1 (Nat.pow_le_pow_right (by omega) hL)
  have gb := fun y l => grp_bit (R := R) (S := S) hI.2.1 (y := y) (l := l)
  have g14 : ∀ y, grp R S y < 2 ^ 14 := fun y => and14 l14
  have key : ∃ r, z_iter f_X5_findWays_L73 z_fuel ((0 : Int32), w) = some r ∧ (∀ b j, ¬ (114 ≤ b ∧ b ≤ 116) → r.1 b j = w.1 b j) ∧ (∀ b j, b ≠ 111 → r.2 b j = w.2 b j) ∧ r.2 111 0 = lN (prN (fun y => (wys R S y).length) 20) ∧ ∀ l, (S 0 1).testBit l = true → (R 6 l < 20 → r.1 115 l = nI ((wys R S (R 6 l)).foldl (fun o x => o ||| x l) 0) ∧ r.1 116 l = nI ((wys R S (R 6 l)).foldl (fun a x => a &&& x l) (2 ^ 32 - 1))) := by
    have stp : ∀ y u, y < 20 → Rd S (grp R S y) u → grp R S y ≠ 0 → ∃ w', f_X5_waysToRead 20 u (nI (grp R S y)) (nI (grp R S y)) (0 : Int32) (0 : Int32) = some (lN (wys R S y).length, w') ∧ PW (grp R S y) (grp R S y) u w' (wys R S y) := fun y u hy hRd _ => by
      have := rd11 hI (g14 y) 14 20 0 rfl (by omega) 0 0 (fun _ => 0) u (Nat.pow_pos (by omega)) (Nat.le_refl _) hRd (fun l _ hl => by omega)
      rw [hi_0 (g14 y)] at this
      exact this
    have nil : ∀ y, grp R S y = 0 → (wys R S y).length = 1 := fun y h => by
      unfold wys
      rw [h]
      exact wyl_none _ _ _ _
    generalize wys R S = W at stp nil ⊢
    refine it_inv (fun y (s : Int32 × ZW) => s.1 = nI y ∧ (∀ b j, ¬ (114 ≤ b ∧ b ≤ 116) → s.2.1 b j = w.1 b j) ∧ (∀ b j, b ≠ 111 → s.2.2 b j = w.2 b j) ∧ s.2.2 111 0 = lN (prN (fun y => (W y).length) y) ∧ ∀ l, (S 0 1).testBit l = true → (R 6 l < y → s.2.1 115 l = nI ((W (R 6 l)).foldl (fun o x => o ||| x l) 0) ∧ s.2.1 116 l = nI ((W (R 6 l)).foldl (fun a x => a &&& x l) (2 ^ 32 - 1))) ∧ (y ≤ R 6 l → s.2.1 115 l = 0 ∧ s.2.1 116 l = -1)) _ 20 (fun y s hy hP => ?_) (fun s hP => ?_) (zf (by omega)) ⟨rfl, fun b j _ => rfl, fun b j _ => rfl, hw, fun l hl => ⟨fun h => by omega, fun _ => h0 l (bit_lt l14 hl)⟩⟩
    · obtain ⟨p1, p2, p3, p4, p5⟩ := hP
      obtain ⟨x, u⟩ := s
      dsimp only at p1 p2 p3 p4 p5
      subst p1
      left
      have hC1 : RailC R u.1 := fr_RC (fun a j z => p2 a j (by unfold cRC at z; omega)) hC
      have hRd : Rd S (grp R S y) u := ⟨(p2 111 1 (by omega)).trans h1, fun l hl => by
        obtain ⟨a1, a2⟩ := hb l ((gb y l).mp hl).1
        exact ⟨(p2 112 l (by omega)).trans a1, (p2 113 l (by omega)).trans a2⟩⟩
      have g := g14 y
      have z0 : nI (grp R S y) = 0 ↔ grp R S y = 0 := nI_inj (by omega) (show 0 < 2 ^ 31 by omega)
      have eg : nI (S 0 1) &&& nI (lyn R y (R 0 1)) = nI (grp R S y) := nI_and _ _
      have st : ∀ v : Option ((Int32 × ZW) ⊕ ZW), (if grp R S y = 0 then some (.inl (nI (y + 1), u)) else (f_X5_waysToRead 20 u (nI (grp R S y)) (nI (grp R S y)) (0 : Int32) (0 : Int32)).bind fun r15 : Int64 × ZW => some (.inl (nI (y + 1), z_upJ r15.2 111 0 ((u.2 111 0) * r15.1)))) = v → f_X5_findWays_L73 (nI y, u) = v := fun v hv => by
        rw [← hv]
        unfold f_X5_findWays_L73
        dsimp only
        rw [show (20 : Int32) = nI 20 from rfl, if_neg (nnle hy), lyn11 hR hC1 hy, Option.bind_some, p2 111 2 (by omega), h2, eg, nI_1]
        by_cases q : grp R S y = 0
        · rw [if_pos q, if_pos (z0.mpr q)]
        · rw [if_neg q, if_neg (fun h => q (z0.mp h))]
          rfl
      by_cases q : grp R S y = 0
      · refine ⟨_, st _ (if_pos q), rfl, p2, p3, ?_, fun l hl => ⟨fun h => ?_, fun h => (p5 l hl).2 (by omega)⟩⟩
        · dsimp only
          rw [prN_s, nil y q, Nat.mul_one]
          exact p4
        · refine (p5 l hl).1 ?_
          by_cases z : R 6 l = y
          · have := (gb y l).mpr ⟨hl, z⟩
            rw [q, Nat.zero_testBit] at this
            cases this
          · omega
      · obtain ⟨w', e1, pw⟩ := stp y u hy hRd q
        refine ⟨(nI (y + 1), z_upJ w' 111 0 (lN (prN (fun y => (W y).length) (y + 1)))), st _ ?_, rfl, fun b j h => (pw.1 b j h).trans (p2 b j h), fun b j h => ?_, upJc_e, fun l hl => ?_⟩
        · rw [if_neg q, e1, Option.bind_some, p4, lN_mul, prN_s]
        · rw [upJc (by omega), pw.2.1]
          exact p3 b j h
        · by_cases z : R 6 l = y
          · obtain ⟨a1, a2⟩ := (p5 l hl).2 (by omega)
            obtain ⟨b1, b2⟩ := pw.2.2.2.2 l ((gb y l).mpr ⟨hl, z⟩)
            refine ⟨fun _ => ?_, fun h => by omega⟩
            rw [z]
            exact ⟨b1 0 a1, b2 (2 ^ 32 - 1) a2⟩
          · obtain ⟨b1, b2⟩ := pw.2.2.2.1 l (by
              cases y2 : (grp R S y).testBit l
              · rfl
              · exact absurd ((gb y l).mp y2).2 z)
            refine ⟨fun h => ?_, fun h => ?_⟩
            · obtain ⟨a1, a2⟩ := (p5 l hl).1 (by omega)
              exact ⟨b1.trans a1, b2.trans a2⟩
            · obtain ⟨a1, a2⟩ := (p5 l hl).2 (by omega)
              exact ⟨b1.trans a1, b2.trans a2⟩
    · obtain ⟨p1, p2, p3, p4, p5⟩ := hP
      obtain ⟨x, u⟩ := s
      dsimp only at p1 p2 p3 p4 p5
      subst p1
      refine ⟨u, ?_, p2, p3, p4, fun l hl => (p5 l hl).1⟩
      unfold f_X5_findWays_L73
      dsimp only
      rw [show (20 : Int32) = nI 20 from rfl, if_pos (Int32.le_refl _)]
  obtain ⟨r, e, a1, a2, a3, a4⟩ := key
  refine ⟨r, e, a1, a2, a3, fun l hl => a4 l hl ?_⟩
  have := (hR.2.2.2.2 l (bit_lt hI.2.1 hl)).2.2.1
  omega
theorem find11w {R S : ST} {w : ZW} (hR : RailI R) (hI : NamesI (R 0 1) S) (hC : RailC R w.1) (hN : NamesC S w.1 w.2) : ∃ r, f_X5_findWays w = some r ∧ (∀ b j, ¬ (111 ≤ b ∧ b ≤ 116) → r.1 b j = w.1 b j) ∧ (∀ b j, b ≠ 111 → r.2 b j = w.2 b j) ∧ r.2 111 0 = lN (prN (fun y => (wys R S y).length) 20) ∧ r.1 111 2 = nI (S 0 1) ∧ ∀ l, (S 0 1).testBit l = true → r.1 115 l = nI ((wys R S (R 6 l)).foldl (fun o x => o ||| x l) 0) ∧ r.1 116 l = nI ((wys R S (R 6 l)).foldl (fun a x => a &&& x l) (2 ^ 32 - 1)) := by
  have hL := hR.2.1
  have l14 : S 0 1 < 2 ^ 14 := Nat.lt_of_lt_of_le hI.2.1 (Nat.pow_le_pow_right (by omega) hL)
  obtain ⟨w2, h2⟩ : ∃ w2, w2 = z_upI (z_upI w 111 1 (nI (S 0 0))) 111 2 (nI (S 0 1)) := ⟨_, rfl⟩
  have o2 : ∀ b j, b ≠ 111 → w2.1 b j = w.1 b j := fun b j h => by rw [h2, upc (by omega), upc (by omega)]
  have l2 : w2.2 = w.2 := by rw [h2]; rfl
  have hN2 : NamesC S w2.1 w2.2 := fr_NC (fun a j z => o2 a j (by unfold cNC at z; omega)) (fun a j _ => by rw [l2]) hN
  obtain ⟨r1, e1, a1, a2, a3, a4⟩ := prep11 hI hN2
  have hC1 : RailC R (z_upJ r1 111 0 1).1 := fr_RC (fun a j z => (a1 a j (by unfold cRC at z; omega)).trans (o2 a j (by unfold cRC at z; omega))) hC
  obtain ⟨r, e, b1, b2, b3, b4⟩ := find_lp (w := z_upJ r1 111 0 1) hR hI hC1 (by
    show r1.1 111 1 = _
    rw [a1 111 1 (by omega), h2, upc (by omega), upc_e]) (by
    show r1.1 111 2 = _
    rw [a1 111 2 (by omega), h2, upc_e]) upJc_e (fun l hl => a3 l (bit_lt l14 hl) hl) a4
  refine ⟨r, ?_, fun b j h => ?_, fun b j h => ?_, b3, ?_, b4⟩
  · unfold f_X5_findWays
    rw [hN.1, zl, upc (show ¬ (16 = 111 ∧ 1 = 1) by omega), hN.2.1, zl, ← h2, e1, Option.bind_some, zl, e]
    rfl
  · rw [b1 b j (by omega)]
    show r1.1 b j = _
    rw [a1 b j (by omega), o2 b j (by omega)]
  · rw [b2 b j h, upJc (by omega), a2, l2]
  · rw [b1 111 2 (by omega)]
    show r1.1 111 2 = _
    rw [a1 111 2 (by omega), h2, upc_e]
