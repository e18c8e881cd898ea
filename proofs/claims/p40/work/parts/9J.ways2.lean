/-! ways: the class's search -/
def Rd (S : ST) (g : Nat) (w : ZW) : Prop := w.1 111 1 = nI (S 0 0) ∧ ∀ l, g.testBit l = true → w.1 112 l = nI (wB1 S l) ∧ w.1 113 l = nI (wB2 S l)
def PW (g h : Nat) (w w' : ZW) (xs : List (Nat → Nat)) : Prop :=
  (∀ b j, ¬ (114 ≤ b ∧ b ≤ 116) → w'.1 b j = w.1 b j) ∧ w'.2 = w.2 ∧
  (∀ l, g.testBit l = true → h.testBit l = false → w'.1 114 l = w.1 114 l) ∧
  (∀ l, g.testBit l = false → w'.1 115 l = w.1 115 l ∧ w'.1 116 l = w.1 116 l) ∧
  (∀ l, g.testBit l = true → (∀ o, w.1 115 l = nI o → w'.1 115 l = nI (xs.foldl (fun o x => o ||| x l) o)) ∧ ∀ a, w.1 116 l = nI a → w'.1 116 l = nI (xs.foldl (fun a x => a &&& x l) a))
theorem PW_refl {g h : Nat} {w : ZW} : PW g h w w [] := ⟨fun b j _ => rfl, rfl, fun l _ _ => rfl, fun l _ => ⟨rfl, rfl⟩, fun l _ => ⟨fun o h => h, fun a h => h⟩⟩
theorem PW_trans {g h : Nat} {w u v : ZW} {xs ys : List (Nat → Nat)} (p : PW g h w u xs) (q : PW g h u v ys) : PW g h w v (xs ++ ys) := by
  obtain ⟨p1, p2, p3, p4, p5⟩ := p
  obtain ⟨q1, q2, q3, q4, q5⟩ := q
  refine ⟨fun b j hb => (q1 b j hb).trans (p1 b j hb), q2.trans p2, fun l hl hh => (q3 l hl hh).trans (p3 l hl hh), fun l hl => ⟨(q4 l hl).1.trans (p4 l hl).1, (q4 l hl).2.trans (p4 l hl).2⟩, fun l hl => ⟨fun o ho => ?_, fun a ha => ?_⟩⟩
  · rw [List.foldl_append]
    exact (q5 l hl).1 _ ((p5 l hl).1 o ho)
  · rw [List.foldl_append]
    exact (q5 l hl).2 _ ((p5 l hl).2 a ha)
theorem PW_Rd {S : ST} {g h : Nat} {w w' : ZW} {xs : List (Nat → Nat)} (p : PW g h w w' xs) (r : Rd S g w) : Rd S g w' := ⟨(p.1 _ _ (by omega)).trans r.1, fun l hl => ⟨(p.1 _ _ (by omega)).trans (r.2 l hl).1, (p.1 _ _ (by omega)).trans (r.2 l hl).2⟩⟩
theorem keep_pw {g : Nat} {w : ZW} {f : Nat → Nat} (hg : g < 2 ^ 14) (hf : ∀ l, g.testBit l = true → w.1 114 l = nI (f l)) : ∃ w', f_X5_keepPairs w (nI g) = some w' ∧ PW g 0 w w' [f] := by
  have key : ∃ r, z_iter (f_X5_keepPairs_L2 (nI g)) z_fuel ((0 : Int32), w) = some r ∧ (∀ b j, ¬ (b = 115 ∨ b = 116) → r.1 b j = w.1 b j) ∧ r.2 = w.2 ∧ (∀ l, g.testBit l = true → r.1 115 l = (w.1 115 l ||| w.1 114 l) ∧ r.1 116 l = (w.1 116 l &&& w.1 114 l)) ∧ ∀ l, g.testBit l = false → r.1 115 l = w.1 115 l ∧ r.1 116 l = w.1 116 l := by
    refine it_inv (fun i (s : Int32 × ZW) => s.1 = nI i ∧ (∀ b j, ¬ (b = 115 ∨ b = 116) → s.2.1 b j = w.1 b j) ∧ s.2.2 = w.2 ∧ (∀ l, l < i → g.testBit l = true → s.2.1 115 l = (w.1 115 l ||| w.1 114 l) ∧ s.2.1 116 l = (w.1 116 l &&& w.1 114 l)) ∧ ∀ l, ¬ (l < i ∧ g.testBit l = true) → s.2.1 115 l = w.1 115 l ∧ s.2.1 116 l = w.1 116 l) _ 14 (fun i s hi hP => ?_) (fun s hP => ?_) (zf (by omega)) ⟨rfl, fun b j _ => rfl, rfl, fun l hl => by omega, fun l _ => ⟨rfl, rfl⟩⟩
    · obtain ⟨p1, p2, p3, p4, p5⟩ := hP
      obtain ⟨x, u⟩ := s
      dsimp only at p1 p2 p3 p4 p5
      subst p1
      left
      have e := nI_bit0 (b := g) (k := i) (by omega) (by omega)
      unfold f_X5_keepPairs_L2
      dsimp only
      rw [show (14 : Int32) = nI 14 from rfl, if_neg (nnle hi), z_in_t hi (by omega), nI_clamp (show i < 2 ^ 31 by omega), nI_1]
      by_cases q : g.testBit i = true
      · rw [if_neg (fun h => by rw [e.mp h] at q; cases q), if_pos rfl, if_pos rfl, if_pos rfl, zl, if_pos rfl, if_pos rfl, if_pos rfl, zl]
        refine ⟨_, rfl, rfl, fun b j h => by rw [upc (by omega), upc (by omega)]; exact p2 b j h, p3, fun l hl hb => ?_, fun l hl => ?_⟩
        · by_cases z : l = i
          · subst z
            obtain ⟨a1, a2⟩ := p5 l (by omega)
            rw [upc (by omega), upc_e, upc_e, upc (by omega), upc (by omega), a1, a2, p2 114 l (by omega)]
            exact ⟨rfl, rfl⟩
          · rw [upc (by omega), upc (by omega), upc (by omega), upc (by omega)]
            exact p4 l (by omega) hb
        · have ne : l ≠ i := fun z => hl ⟨by omega, by rw [z]; exact q⟩
          rw [upc (by omega), upc (by omega), upc (by omega), upc (by omega)]
          exact p5 l (fun h => hl ⟨by omega, h.2⟩)
      · have qf : g.testBit i = false := by simpa using q
        rw [if_pos (e.mpr qf)]
        refine ⟨_, rfl, rfl, p2, p3, fun l hl hb => ?_, fun l hl => ?_⟩
        · refine p4 l ?_ hb
          by_cases z : l = i
          · subst z; exact absurd hb q
          · omega
        · exact p5 l (fun h => hl ⟨by omega, h.2⟩)
    · obtain ⟨p1, p2, p3, p4, p5⟩ := hP
      obtain ⟨x, u⟩ := s
      dsimp only at p1 p2 p3 p4 p5
      subst p1
      refine ⟨u, ?_, p2, p3, fun l hl => p4 l (bit_lt hg hl) hl, fun l hl => p5 l (fun h => by rw [hl] at h; cases h.2)⟩
      unfold f_X5_keepPairs_L2
      dsimp only
      rw [show (14 : Int32) = nI 14 from rfl, if_pos (Int32.le_refl _)]
  obtain ⟨r, e, h1, h2, h3, h4⟩ := key
  refine ⟨r, ?_, fun b j hb => h1 b j (by omega), h2, fun l _ _ => h1 114 l (by omega), h4, fun l hl => ⟨fun o ho => ?_, fun a ha => ?_⟩⟩
  · unfold f_X5_keepPairs
    rw [e]
    rfl
  · rw [(h3 l hl).1, ho, hf l hl, nI_or]
    rfl
  · rw [(h3 l hl).2, ha, hf l hl, nI_and]
    rfl
/-- the least bit -/
theorem ntz_tab : ∀ j, j < 14 → (if 0 < nI (2 ^ j - 1) then (if nI (2 ^ j - 1) ≤ (65536 : Int32) then f_J6_numberOfTrailingZeros_0f7a4_J34 (nI (2 ^ j - 1)) (1 : Int32) else z_let (((nI (2 ^ j - 1)).toUInt32 >>> ((16 : Int32).toUInt32 &&& Int32.toUInt32 31)).toInt32) fun y11 => f_J6_numberOfTrailingZeros_0f7a4_J34 y11 ((1 : Int32) + (16 : Int32))) else some (nI (2 ^ j - 1) &&& (32 : Int32))) = some (nI j) := by decide +kernel
theorem ntz_eq {a k : Nat} (ha : a < 2 ^ 14) (hk : a.testBit k = true) (h0 : ∀ i, i < k → a.testBit i = false) : f_J6_numberOfTrailingZeros_0f7a4 (nI a) = some (nI k) := by
  have k14 := bit_lt ha hk
  have a0 : a ≠ 0 := fun z => by rw [z, Nat.zero_testBit] at hk; cases hk
  have pp : 0 < 2 ^ k := Nat.pow_pos (by omega)
  have m0 : a % 2 ^ k = 0 := z_bits.mpr (fun i => by
    rw [Nat.testBit_mod_two_pow]
    by_cases q : i < k
    · rw [h0 i q, Bool.and_false]
    · rw [decide_eq_false q, Bool.false_and])
  have od : a / 2 ^ k % 2 = 1 := by
    rw [Nat.testBit_eq_decide_div_mod_eq] at hk
    exact of_decide_eq_true hk
  have ea : a = 2 ^ k * (2 * (a / 2 ^ k / 2) + 1) + 0 := by
    have := Nat.div_add_mod a (2 ^ k)
    rw [show 2 * (a / 2 ^ k / 2) + 1 = a / 2 ^ k by omega]
    omega
  have e1 : a - 1 = 2 ^ k * (2 * (a / 2 ^ k / 2)) + (2 ^ k - 1) := by
    have := ea
    rw [Nat.mul_add, Nat.mul_one] at this
    omega
  have nd : ndn (a - 1) a = 2 ^ k - 1 := Nat.eq_of_testBit_eq (fun i => by
    rw [ndn_bit (by omega), Nat.testBit_two_pow_sub_one]
    by_cases q : i < k
    · rw [h0 i q, e1, Nat.testBit_two_pow_mul_add _ (by omega), if_pos q, Nat.testBit_two_pow_sub_one]
      simp
    · rw [decide_eq_false q]
      have t1 : (a - 1).testBit i = (2 * (a / 2 ^ k / 2)).testBit (i - k) := by
        rw [e1, Nat.testBit_two_pow_mul_add _ (by omega), if_neg q]
      have t2 : a.testBit i = (2 * (a / 2 ^ k / 2) + 1).testBit (i - k) := by
        rw [ea, Nat.testBit_two_pow_mul_add _ pp, if_neg q, ← ea]
      rw [t1, t2]
      generalize a / 2 ^ k / 2 = o
      generalize i - k = m
      cases m with
      | zero =>
        rw [Nat.testBit_zero, Nat.testBit_zero]
        simp
      | succ m =>
        rw [Nat.testBit_succ, Nat.testBit_succ, show (2 * o + 1) / 2 = 2 * o / 2 by omega]
        cases (2 * o / 2).testBit m <;> rfl)
  unfold f_J6_numberOfTrailingZeros_0f7a4
  rw [Int32.and_comm, show nI a - (1 : Int32) = nI (a - 1) from pk_sub (a := a) (b := 1) (by omega), nI_ndn, nd, zl]
  exact ntz_tab k k14
/-- what one step may rely on -/
def Hrc (S : ST) (g e k : Nat) (rc : ZW → Int32 → Int32 → Int32 → Int32 → Option (Int64 × ZW)) : Prop := ∀ t dep f w, t < 2 ^ S 0 0 → dep ≤ k → Rd S g w → (∀ l, g.testBit l = true → l < k → w.1 114 l = nI (f l)) → ∃ w', rc w (nI g) (nI (hi g k)) (nI t) (nI dep) = some (lN (wyl (S 0 0) (cb S) g e k t f).length, w') ∧ PW g (hi g k) w w' (wyl (S 0 0) (cb S) g e k t f)
def rdF (S : ST) (g e k t : Nat) (f : Nat → Nat) (p q : Nat) : List (Nat → Nat) := if (decide (t &&& tw p q = 0) && cb S k p q) = true then wyl (S 0 0) (cb S) g e (k + 1) (t ||| tw p q) (fun i => if i = k then tw p q else f i) else []
theorem rd_step {L : Nat} {S : ST} (hI : NamesI L S) {g e k t dep p q : Nat} {f : Nat → Nat} {rc : ZW → Int32 → Int32 → Int32 → Int32 → Option (Int64 × ZW)} (hg : g < 2 ^ 14) (hk : g.testBit k = true) (H : Hrc S g e (k + 1) rc) (ht : t < 2 ^ S 0 0) (hd : dep ≤ k) (hp : p < q) (hq : q < S 0 0) {u : ZW} (hR : Rd S g u) (hf : ∀ l, g.testBit l = true → l < k → u.1 114 l = nI (f l)) (c : Nat) (s4 : Int64 × Int32 × ZW) (h4 : s4.2.1 = nI p) : ∃ u', f_X5_waysToRead_L65 s4 (nI t) (nI k) rc (nI g) (nI (hi g k)) (nI dep) (lN c, nI q, u) = some (.inl (lN (c + (rdF S g e k t f p q).length), nI (q + 1), u')) ∧ PW g (hi g k) u u' (rdF S g e k t f p q) := by
  have hN := hI.1
  have k14 := bit_lt hg hk
  have l := tw_lt hp hq
  have l8 : tw p q < 2 ^ 8 := Nat.lt_of_lt_of_le l (Nat.pow_le_pow_right (by omega) hN)
  have t8 : t < 2 ^ 8 := Nat.lt_of_lt_of_le ht (Nat.pow_le_pow_right (by omega) hN)
  have a8 : t &&& tw p q ≤ t := Nat.and_le_left
  have z0 : nI (t &&& tw p q) = 0 ↔ t &&& tw p q = 0 := nI_inj (by omega) (show 0 < 2 ^ 31 by omega)
  have et : nI (2 ^ p) ||| nI (2 ^ q) = nI (tw p q) := nI_or _ _
  obtain ⟨r1, r2⟩ := hR.2 k hk
  have nd : ndn (hi g k) (2 ^ k) = hi g (k + 1) := Nat.eq_of_testBit_eq (fun i => by
    have := hi_lt (k := k) hg
    rw [ndn_bit (by omega), hi_bit hg, hi_bit hg, Nat.testBit_two_pow]
    by_cases z : i = k
    · subst z
      simp
    · rw [decide_eq_false (show ¬ k = i from fun y => z y.symm), Bool.not_false, Bool.and_true]
      congr 1
      exact decide_eq_decide.mpr (by omega))
  unfold f_X5_waysToRead_L65
  dsimp only
  rw [hR.1, if_neg (nnle hq), h4, nI_shl1 (by omega), nI_shl1 (by omega), et, zl, nI_and, z_in_t k14 (by omega), if_pos rfl, if_pos rfl, nI_clamp (show k < 2 ^ 31 by omega), r1, r2, canBe_eq (wB1_lt hI) (wB2_lt hI) (by omega) (by omega), Option.bind_some, if10, if_pos rfl, zl, nI_1, nI_1, nI_shl1 (by omega), nI_ndn, nd, nI_or]
  unfold rdF
  by_cases q1 : t &&& tw p q = 0
  · rw [if_pos (z0.mpr q1), decide_eq_true q1, Bool.true_and]
    by_cases q2 : cb S k p q = true
    · rw [if_pos q2]
      have q2' := q2
      unfold cb at q2'
      rw [if_pos q2']
      obtain ⟨w', e1, pw⟩ := H (t ||| tw p q) (dep + 1) (fun i => if i = k then tw p q else f i) (z_upI u 114 k (nI (tw p q))) (Nat.or_lt_two_pow ht l) (by omega) ⟨by rw [upc (by omega)]; exact hR.1, fun l hl => by rw [upc (by omega), upc (by omega)]; exact hR.2 l hl⟩ (fun l hl hlk => by
        by_cases z : l = k
        · subst z
          rw [upc_e, if_pos rfl]
        · rw [upc (by omega), if_neg z]
          exact hf l hl (by omega))
      refine ⟨w', ?_, fun b j hb => ?_, ?_, fun l hl hh => ?_, fun l hl => ?_, fun l hl => ?_⟩
      · rw [e1, Option.bind_some, lN_add]
      · rw [pw.1 b j hb, upc (by omega)]
      · exact pw.2.1
      · have lk : l ≠ k := fun z => by
          rw [z, hi_bit hg, hk, decide_eq_true (Nat.le_refl k)] at hh
          cases hh
        rw [pw.2.2.1 l hl (by
          rw [hi_bit hg, hl, Bool.true_and] at hh ⊢
          have := of_decide_eq_false hh
          exact decide_eq_false (by omega)), upc (by omega)]
      · obtain ⟨a1, a2⟩ := pw.2.2.2.1 l hl
        rw [upc (by omega)] at a1 a2
        exact ⟨a1, a2⟩
      · obtain ⟨a1, a2⟩ := pw.2.2.2.2 l hl
        rw [upc (by omega)] at a1 a2
        exact ⟨a1, a2⟩
    · rw [if_neg q2]
      have q2' := q2
      unfold cb at q2'
      rw [if_neg q2']
      exact ⟨u, rfl, PW_refl⟩
  · rw [if_neg (fun h => q1 (z0.mp h)), decide_eq_false q1, Bool.false_and, if_neg (by simp)]
    exact ⟨u, rfl, PW_refl⟩
theorem rd_q {L : Nat} {S : ST} (hI : NamesI L S) {g e k t dep p : Nat} {f : Nat → Nat} {rc : ZW → Int32 → Int32 → Int32 → Int32 → Option (Int64 × ZW)} (hg : g < 2 ^ 14) (hk : g.testBit k = true) (H : Hrc S g e (k + 1) rc) (ht : t < 2 ^ S 0 0) (hd : dep ≤ k) (hp : p < S 0 0) {w : ZW} (hR : Rd S g w) (hf : ∀ l, g.testBit l = true → l < k → w.1 114 l = nI (f l)) (c : Nat) (s4 : Int64 × Int32 × ZW) (h4 : s4.2.1 = nI p) : ∃ r, z_iter (f_X5_waysToRead_L65 s4 (nI t) (nI k) rc (nI g) (nI (hi g k)) (nI dep)) z_fuel (lN c, nI (p + 1), w) = some r ∧ ∃ w', r = (lN (c + (rws (rdF S g e k t f) p (S 0 0 - (p + 1))).length), w') ∧ PW g (hi g k) w w' (rws (rdF S g e k t f) p (S 0 0 - (p + 1))) := by
  have hN := hI.1
  have st := fun i u (hi2 : i < S 0 0 - (p + 1)) (hRu : Rd S g u) (hfu : ∀ l, g.testBit l = true → l < k → u.1 114 l = nI (f l)) c => rd_step hI hg hk H ht hd (show p < p + 1 + i by omega) (show p + 1 + i < S 0 0 by omega) hRu hfu c s4 h4
  generalize rdF S g e k t f = F at st ⊢
  refine it_inv (fun i (s : Int64 × Int32 × ZW) => s.1 = lN (c + (rws F p i).length) ∧ s.2.1 = nI (p + 1 + i) ∧ PW g (hi g k) w s.2.2 (rws F p i)) _ (S 0 0 - (p + 1)) (fun i s hi2 hP => ?_) (fun s hP => ?_) (zf (by omega)) ⟨rfl, rfl, PW_refl⟩
  · obtain ⟨p1, p2, p3⟩ := hP
    obtain ⟨x, y, u⟩ := s
    dsimp only at p1 p2 p3
    subst p1 p2
    left
    obtain ⟨u', e1, pw⟩ := st i u hi2 (PW_Rd p3 hR) (fun l hl hlk => by
      rw [p3.2.2.1 l hl (by rw [hi_bit hg, decide_eq_false (by omega), Bool.and_false])]
      exact hf l hl hlk) (c + (rws F p i).length)
    refine ⟨_, e1, ?_, rfl, ?_⟩
    · dsimp only
      rw [rws_s, List.length_append, Nat.add_assoc]
    · rw [rws_s]
      exact PW_trans p3 pw
  · obtain ⟨p1, p2, p3⟩ := hP
    obtain ⟨x, y, u⟩ := s
    dsimp only at p1 p2 p3
    subst p1 p2
    refine ⟨_, ?_, u, rfl, p3⟩
    unfold f_X5_waysToRead_L65
    dsimp only
    rw [(PW_Rd p3 hR).1, if_pos (nle (by omega))]
theorem rd_p {L : Nat} {S : ST} (hI : NamesI L S) {g e k t dep : Nat} {f : Nat → Nat} {rc : ZW → Int32 → Int32 → Int32 → Int32 → Option (Int64 × ZW)} (hg : g < 2 ^ 14) (hk : g.testBit k = true) (H : Hrc S g e (k + 1) rc) (ht : t < 2 ^ S 0 0) (hd : dep ≤ k) {w : ZW} (hR : Rd S g w) (hf : ∀ l, g.testBit l = true → l < k → w.1 114 l = nI (f l)) : ∃ r, z_iter (f_X5_waysToRead_L50 (nI t) (nI k) rc (nI g) (nI (hi g k)) (nI dep)) z_fuel ((0 : Int64), (0 : Int32), w) = some r ∧ ∃ w', r = (lN (als (rdF S g e k t f) (S 0 0) (S 0 0)).length, w') ∧ PW g (hi g k) w w' (als (rdF S g e k t f) (S 0 0) (S 0 0)) := by
  have hN := hI.1
  have st := fun p u (hp : p < S 0 0) (hRu : Rd S g u) (hfu : ∀ l, g.testBit l = true → l < k → u.1 114 l = nI (f l)) c s4 h4 => rd_q hI hg hk H ht hd hp hRu hfu c s4 h4
  generalize rdF S g e k t f = F at st ⊢
  refine it_inv (fun i (s : Int64 × Int32 × ZW) => s.1 = lN (als F (S 0 0) i).length ∧ s.2.1 = nI i ∧ PW g (hi g k) w s.2.2 (als F (S 0 0) i)) _ (S 0 0) (fun i s hi2 hP => ?_) (fun s hP => ?_) (zf (by omega)) ⟨rfl, rfl, PW_refl⟩
  · obtain ⟨p1, p2, p3⟩ := hP
    obtain ⟨x, y, u⟩ := s
    dsimp only at p1 p2 p3
    subst p1 p2
    left
    have hRu := PW_Rd p3 hR
    obtain ⟨r, e1, w', h1, pw⟩ := st i u hi2 hRu (fun l hl hlk => by
      rw [p3.2.2.1 l hl (by rw [hi_bit hg, decide_eq_false (by omega), Bool.and_false])]
      exact hf l hl hlk) (als F (S 0 0) i).length (lN (als F (S 0 0) i).length, nI i, u) rfl
    refine ⟨(lN (als F (S 0 0) (i + 1)).length, nI (i + 1), w'), ?_, rfl, rfl, ?_⟩
    · unfold f_X5_waysToRead_L50
      dsimp only
      rw [hRu.1, if_neg (nnle hi2), nI_1, e1, h1, Option.bind_some, als_s, List.length_append]
    · rw [als_s]
      exact PW_trans p3 pw
  · obtain ⟨p1, p2, p3⟩ := hP
    obtain ⟨x, y, u⟩ := s
    dsimp only at p1 p2 p3
    subst p1 p2
    refine ⟨_, ?_, u, rfl, p3⟩
    unfold f_X5_waysToRead_L50
    dsimp only
    rw [(PW_Rd p3 hR).1, if_pos (Int32.le_refl _)]
theorem rd11 {L : Nat} {S : ST} (hI : NamesI L S) {g : Nat} (hg : g < 2 ^ 14) : ∀ e m k, k + e = 14 → e < m → Hrc S g e k (f_X5_waysToRead m) := by
  have hN := hI.1
  intro e
  induction e with
  | zero =>
    intro m k hk hm t dep f w ht hd hR hf
    obtain ⟨m, rfl⟩ : ∃ x, m = x + 1 := ⟨m - 1, by omega⟩
    have : k = 14 := by omega
    subst this
    obtain ⟨w', e1, pw⟩ := keep_pw (f := f) hg (fun l hl => hf l hl (bit_lt hg hl))
    refine ⟨w', ?_, by rw [hi_14 hg]; exact pw⟩
    rw [f_X5_waysToRead, hi_14 hg, if_pos (show nI 0 = 0 from rfl), e1]
    rfl
  | succ e ih =>
    intro m k hk hm t dep f w ht hd hR hf
    by_cases q : g.testBit k = true
    · obtain ⟨m, rfl⟩ : ∃ x, m = x + 1 := ⟨m - 1, by omega⟩
      have H := ih m (k + 1) (by omega) (by omega)
      have hl := hi_lt (k := k) hg
      have t8 : t < 2 ^ 8 := Nat.lt_of_lt_of_le ht (Nat.pow_le_pow_right (by omega) hN)
      have hkb : (hi g k).testBit k = true := by rw [hi_bit hg, q, decide_eq_true (Nat.le_refl k)]; rfl
      have h0 : ¬ nI (hi g k) = 0 := nI_nz (fun z => by rw [z, Nat.zero_testBit] at hkb; cases hkb) (by omega)
      have pl := pc_le (b := hi g k)
      have pt := pc_ltN hN ht
      have ew : wyl (S 0 0) (cb S) g (e + 1) k t f = als (rdF S g e k t f) (S 0 0) (S 0 0) := by
        rw [wyl_s, if_pos q]
        rfl
      have room : 0 < (wyl (S 0 0) (cb S) g (e + 1) k t f).length → pc14 t + 2 * pc14 (hi g k) ≤ S 0 0 := fun h => by
        obtain ⟨x, hx⟩ := List.exists_mem_of_length_pos h
        exact wyl_room hN hg (e + 1) k t f x hk ht hx
      rw [f_X5_waysToRead, if_neg h0, show (14 : Int32) = nI 14 from rfl, if_neg (nnle (show dep < 14 by omega)), bitCount_eq hl, Option.bind_some, bitCount_eq (show t < 2 ^ 14 by omega), Option.bind_some, hR.1, pk_sub pt, show (2 : Int32) = nI 2 from rfl, mI, ile (by omega) (by omega)]
      by_cases q2 : 2 * pc14 (hi g k) ≤ S 0 0 - pc14 t
      · obtain ⟨r, e1, w', h1, pw⟩ := rd_p hI hg q H ht hd hR hf
        rw [if_pos q2, ntz_eq hl hkb (fun i hi2 => by rw [hi_bit hg, decide_eq_false (by omega), Bool.and_false]), Option.bind_some, e1, h1, Option.bind_some, ew]
        exact ⟨w', rfl, pw⟩
      · have nil : wyl (S 0 0) (cb S) g (e + 1) k t f = [] := List.eq_nil_of_length_eq_zero (by
          rcases Nat.eq_zero_or_pos (wyl (S 0 0) (cb S) g (e + 1) k t f).length with z | z
          · exact z
          · have := room z
            omega)
        rw [if_neg q2, nil]
        exact ⟨w, rfl, PW_refl⟩
    · have qf : g.testBit k = false := by simpa using q
      rw [hi_f hg qf, wyl_s, if_neg q]
      exact ih m (k + 1) (by omega) (by omega) t dep f w ht (by omega) hR (fun l hl hlk => by
        refine hf l hl ?_
        by_cases z : l = k
        · subst z; exact absurd hl q
        · omega)
