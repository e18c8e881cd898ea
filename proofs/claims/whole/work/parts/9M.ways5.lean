/-! ways: the model, a year and all years -/
def Wn (S : ST) (al : Nat → Nat → Nat → Bool) (g e k t : Nat) : Nat := (wyl (S 0 0) al g e k t (fun _ => 0)).length
theorem wyl_lf {N : Nat} {al : Nat → Nat → Nat → Bool} {g : Nat} (hN : N ≤ 8) : ∀ e k t f h, (wyl N al g e k t f).length = (wyl N al g e k t h).length
  | 0, _, _, _, _ => rfl
  | e + 1, k, t, f, h => by
    rw [wyl_s, wyl_s]
    by_cases q : g.testBit k = true
    · rw [if_pos q, if_pos q, als_64 hN, als_64 hN]
      refine sumN_cong 64 (fun j _ => ?_)
      by_cases q2 : j / 8 < j % 8 ∧ j % 8 < N
      · rw [if_pos q2, if_pos q2]
        by_cases q3 : (decide (t &&& tw (j / 8) (j % 8) = 0) && al k (j / 8) (j % 8)) = true
        · rw [if_pos q3, if_pos q3]
          exact wyl_lf hN e (k + 1) _ _ _
        · rw [if_neg q3, if_neg q3]
      · rw [if_neg q2, if_neg q2]
    · rw [if_neg q, if_neg q]
      exact wyl_lf hN e (k + 1) t f h
theorem Wn_t {S : ST} {al : Nat → Nat → Nat → Bool} {g e k t : Nat} (hN : S 0 0 ≤ 8) (h : g.testBit k = true) : Wn S al g (e + 1) k t = sumN (fun j => if j / 8 < j % 8 ∧ j % 8 < S 0 0 ∧ al k (j / 8) (j % 8) = true then (if t &&& tw (j / 8) (j % 8) = 0 then Wn S al g e (k + 1) (t ||| tw (j / 8) (j % 8)) else 0) else 0) 64 := by
  unfold Wn
  rw [wyl_s, if_pos h, als_64 hN]
  refine sumN_cong 64 (fun j _ => ?_)
  by_cases q1 : j / 8 < j % 8 ∧ j % 8 < S 0 0
  · rw [if_pos q1]
    by_cases q2 : al k (j / 8) (j % 8) = true
    · have r : j / 8 < j % 8 ∧ j % 8 < S 0 0 ∧ al k (j / 8) (j % 8) = true := ⟨q1.1, q1.2, q2⟩
      rw [if_pos r]
      by_cases q3 : t &&& tw (j / 8) (j % 8) = 0
      · have r2 : (decide (t &&& tw (j / 8) (j % 8) = 0) && al k (j / 8) (j % 8)) = true := by rw [decide_eq_true q3, q2]; rfl
        rw [if_pos q3, if_pos r2]
        exact wyl_lf hN e (k + 1) _ _ _
      · have r2 : ¬ (decide (t &&& tw (j / 8) (j % 8) = 0) && al k (j / 8) (j % 8)) = true := fun z => by
          rw [Bool.and_eq_true] at z
          exact q3 (of_decide_eq_true z.1)
        rw [if_neg q3, if_neg r2]
        rfl
    · have r : ¬ (j / 8 < j % 8 ∧ j % 8 < S 0 0 ∧ al k (j / 8) (j % 8) = true) := fun z => q2 z.2.2
      have r2 : ¬ (decide (t &&& tw (j / 8) (j % 8) = 0) && al k (j / 8) (j % 8)) = true := fun z => by
        rw [Bool.and_eq_true] at z
        exact q2 z.2
      rw [if_neg r, if_neg r2]
      rfl
  · rw [if_neg q1, if_neg (fun z => q1 ⟨z.1, z.2.1⟩)]
theorem Wn_f {S : ST} {al : Nat → Nat → Nat → Bool} {g e k t : Nat} (h : g.testBit k = false) : Wn S al g (e + 1) k t = Wn S al g e (k + 1) t := by
  unfold Wn
  rw [wyl_s, if_neg (by rw [h]; simp)]
theorem Wn_one {S : ST} {al : Nat → Nat → Nat → Bool} {g : Nat} : ∀ e k t, (∀ i, k ≤ i → g.testBit i = false) → Wn S al g e k t = 1
  | 0, _, _, _ => rfl
  | e + 1, k, t, h => by
    rw [Wn_f (h k (Nat.le_refl _))]
    exact Wn_one e (k + 1) t (fun i hi => h i (by omega))
theorem Wn_step {S : ST} {al : Nat → Nat → Nat → Bool} {g e k pe wy : Nat} {u : Nat → Nat} (hN : S 0 0 ≤ 8) (h : g.testBit k = true) (ha : ∀ j, j < 64 → (mayj S k pe wy j = true ↔ j / 8 < j % 8 ∧ j % 8 < S 0 0 ∧ al k (j / 8) (j % 8) = true)) : sumN (fun t => u t * Wn S al g (e + 1) k t) 256 = accj S k pe wy u (Wn S al g e (k + 1)) 64 := by
  unfold accj accs
  have e1 : sumN (fun t => u t * Wn S al g (e + 1) k t) 256 = sumN (fun t => sumN (fun j => u t * (if j / 8 < j % 8 ∧ j % 8 < S 0 0 ∧ al k (j / 8) (j % 8) = true then (if t &&& tw (j / 8) (j % 8) = 0 then Wn S al g e (k + 1) (t ||| tw (j / 8) (j % 8)) else 0) else 0)) 64) 256 := by
    refine sumN_cong 256 (fun t _ => ?_)
    rw [Wn_t hN h, ← sumN_mul]
  rw [e1, sumN_comm]
  refine sumN_cong 64 (fun j hj => ?_)
  by_cases q : mayj S k pe wy j = true
  · rw [if_pos q]
    refine sumN_cong 256 (fun t _ => ?_)
    rw [if_pos ((ha j hj).mp q)]
    by_cases q2 : t &&& tw (j / 8) (j % 8) = 0
    · rw [if_pos q2, if_pos q2]
    · rw [if_neg q2, if_neg q2, Nat.mul_zero]
  · rw [if_neg q]
    refine sumN_zero 256 (fun t _ => ?_)
    rw [if_neg (fun z => q ((ha j hj).mpr z)), Nat.mul_zero]
theorem sumN_one {W : Nat → Nat} : ∀ n, 0 < n → sumN (fun t => (if t = 0 then 1 else 0) * W t) n = W 0
  | 0, h => by omega
  | n + 1, _ => by
    rw [sumN_s]
    by_cases z : n = 0
    · subst z
      rw [if_pos rfl, Nat.one_mul]
      exact Nat.zero_add _
    · rw [if_neg z, Nat.zero_mul, Nat.add_zero]
      exact sumN_one n (by omega)
def alw (S : ST) (l pe wy : Nat) : Nat → Nat → Nat → Bool := alr (cb S) l (uph pe wy)
theorem may_alw {S : ST} {lk pe wy k j : Nat} (h0 : lk = 0 → pe = 0) : mayj S k (if lk = k + 1 then pe else 0) wy j = true ↔ j / 8 < j % 8 ∧ j % 8 < S 0 0 ∧ alw S (lk - 1) pe wy k (j / 8) (j % 8) = true := by
  have e : uph (if lk = k + 1 then pe else 0) wy (tw (j / 8) (j % 8)) = (!(decide (k = lk - 1)) || uph pe wy (tw (j / 8) (j % 8))) := by
    have u0 : ∀ b, uph 0 wy b = true := fun b => rfl
    by_cases q : lk = k + 1
    · rw [if_pos q, decide_eq_true (show k = lk - 1 by omega)]
      rfl
    · rw [if_neg q, u0]
      by_cases q2 : k = lk - 1
      · have : lk = 0 := by omega
        rw [h0 this, u0, Bool.or_true]
      · rw [decide_eq_false q2]
        rfl
  unfold mayj alw alr
  rw [e, Bool.and_eq_true, Bool.and_eq_true, decide_eq_true_eq, decide_eq_true_eq, Bool.and_comm (cb S k (j / 8) (j % 8))]
theorem wo_init {w : ZW} : ∃ r, z_iter f_X12_waysOf_L3 z_fuel ((0 : Int32), w) = some r ∧ r.1 = w.1 ∧ (∀ b j, b ≠ 147 → r.2 b j = w.2 b j) ∧ ∀ s, s < 256 → r.2 147 s = lN (if s = 0 then 1 else 0) := by
  refine it_inv (fun i (s : Int32 × ZW) => s.1 = nI i ∧ s.2.1 = w.1 ∧ (∀ b j, b ≠ 147 → s.2.2 b j = w.2 b j) ∧ ∀ t, t < i → s.2.2 147 t = lN (if t = 0 then 1 else 0)) _ 256 (fun i s hi hP => ?_) (fun s hP => ?_) (zf (by omega)) ⟨rfl, rfl, fun c j _ => rfl, fun t ht => by omega⟩
  · obtain ⟨p1, p2, p3, p4⟩ := hP
    obtain ⟨x, z⟩ := s
    dsimp only at p1 p2 p3 p4
    subst p1
    left
    have z0 : nI i = 0 ↔ i = 0 := nI_inj (by omega) (show 0 < 2 ^ 31 by omega)
    refine ⟨(nI (i + 1), z_upJ z 147 i (lN (if i = 0 then 1 else 0))), ?_, rfl, p2, fun c j h => by rw [upJc (by omega)]; exact p3 c j h, fun t ht => ?_⟩
    · unfold f_X12_waysOf_L3
      dsimp only
      rw [show (256 : Int32) = nI 256 from rfl, if_neg (nnle hi), z_in_t hi (by omega), if_pos rfl, if_pos rfl, nI_clamp (show i < 2 ^ 31 by omega), zl, zl, nI_1]
      by_cases q : i = 0
      · rw [if_pos (z0.mpr q), if_pos q]
        rfl
      · rw [if_neg (fun h => q (z0.mp h)), if_neg q]
        rfl
    · by_cases y : t = i
      · subst y; exact upJc_e
      · rw [upJc (by omega)]
        exact p4 t (by omega)
  · obtain ⟨p1, p2, p3, p4⟩ := hP
    obtain ⟨x, z⟩ := s
    dsimp only at p1 p2 p3 p4
    subst p1
    refine ⟨z, ?_, p2, p3, p4⟩
    unfold f_X12_waysOf_L3
    dsimp only
    rw [show (256 : Int32) = nI 256 from rfl, if_pos (Int32.le_refl _)]
theorem wo_sum {w : ZW} {u : Nat → Nat} (hu : ∀ s, s < 256 → w.2 147 s = lN (u s)) {n0 : Nat} (h0 : n0 = 256) : z_iter (f_X12_waysOf_L99 w) z_fuel ((0 : Int64), (0 : Int32)) = some (lN (sumN u n0)) := by
  rw [show ((0 : Int64), (0 : Int32)) = (lN (sumN u 0), nI 0) from rfl]
  refine it_count (fun i => (lN (sumN u i), nI i)) n0 _ (fun i hi => ?_) ?_ (zf (by omega))
  · unfold f_X12_waysOf_L99
    dsimp only
    rw [show (256 : Int32) = nI 256 from rfl, if_neg (nnle (by omega)), z_in_t (show i < 256 by omega) (by omega), if_pos rfl, nI_clamp (show i < 2 ^ 31 by omega), hu i (by omega), lN_add, zl, nI_1, sumN_s]
  · unfold f_X12_waysOf_L99
    dsimp only
    rw [h0, if_pos (show (256 : Int32) ≤ nI 256 from Int32.le_refl _)]
theorem waysOf12 {R S : ST} {w : ZW} (hR : RailI R) (hI : NamesI (R 0 1) S) (hM : RailM R w.1) (hN : NamesM (R 0 1) S w.1) {y lk pe wy : Nat} (hy : y < 20) (hlk : lk ≤ 14) (hpe : pe ≤ 8) (hwy : wy ≤ 2) (h0 : lk = 0 → pe = 0) : ∃ r, f_X12_waysOf w (nI y) (hol lk) (hol pe) (nI wy) = some (lN (Wn S (alw S (lk - 1) pe wy) (grp R S y) 14 0 0), r) ∧ r.1 = w.1 ∧ ∀ b j, ¬ (b = 147 ∨ b = 148) → r.2 b j = w.2 b j := by
  have hL := hR.2.1
  have hN8 := hI.1
  have gb := fun l => grp_bit (R := R) (S := S) hI.2.1 (y := y) (l := l)
  obtain ⟨r1, e1, a1, a2, a3⟩ := wo_init (w := w)
  have wt := fun e k u (hb : (grp R S y).testBit k = true) => Wn_step (S := S) (al := alw S (lk - 1) pe wy) (g := grp R S y) (e := e) (k := k) (pe := if lk = k + 1 then pe else 0) (wy := wy) (u := u) hN8 hb (fun j _ => may_alw h0)
  have wf := fun e k t (hb : (grp R S y).testBit k = false) => Wn_f (S := S) (al := alw S (lk - 1) pe wy) (g := grp R S y) (e := e) (k := k) (t := t) hb
  have w1 := fun e k t (hb : ∀ i, k ≤ i → (grp R S y).testBit i = false) => Wn_one (S := S) (al := alw S (lk - 1) pe wy) (g := grp R S y) e k t hb
  generalize Wn S (alw S (lk - 1) pe wy) (grp R S y) = W at wt wf w1 ⊢
  have key : ∃ r, z_iter (f_X12_waysOf_L37 (nI y) (hol lk) (nI wy) (hol pe)) z_fuel ((0 : Int32), r1) = some r ∧ r.1 = w.1 ∧ (∀ b j, ¬ (b = 147 ∨ b = 148) → r.2 b j = w.2 b j) ∧ ∃ u : Nat → Nat, (∀ s, s < 256 → r.2 147 s = lN (u s)) ∧ sumN u 256 = W 14 0 0 := by
    refine it_inv (fun k (s : Int32 × ZW) => s.1 = nI k ∧ s.2.1 = w.1 ∧ (∀ b j, ¬ (b = 147 ∨ b = 148) → s.2.2 b j = w.2 b j) ∧ ∃ u : Nat → Nat, (∀ s', s' < 256 → s.2.2 147 s' = lN (u s')) ∧ sumN (fun t => u t * W (14 - k) k t) 256 = W 14 0 0) _ (R 0 1) (fun k s hk hP => ?_) (fun s hP => ?_) (zf (by omega)) ⟨rfl, a1, fun b j h => a2 b j (by omega), fun s => if s = 0 then 1 else 0, a3, sumN_one 256 (by omega)⟩
    · obtain ⟨p1, p2, p3, u, p4, p5⟩ := hP
      obtain ⟨x, z⟩ := s
      dsimp only at p1 p2 p3 p4
      subst p1
      left
      have hMz : RailM R z.1 := by rw [p2]; exact hM
      have hNz : NamesM (R 0 1) S z.1 := by rw [p2]; exact hN
      have e144 := hNz.2.2.1 k hk
      have e134 := (hMz.2.2.2 k hk).2.2.1
      have h6 := (hR.2.2.2.2 k hk).2.2.1
      have ek := eq_hol (p := k) (pe := lk) (by omega) (by omega)
      rw [show 14 - k = 13 - k + 1 by omega] at p5
      have body : ∀ v : Option ((Int32 × ZW) ⊕ ZW), (if (grp R S y).testBit k = true then (f_X12_uses z (nI k) (hol (if lk = k + 1 then pe else 0)) (nI wy)).bind (fun r11 : ZW => some (.inl (nI (k + 1), r11))) else some (.inl (nI (k + 1), z))) = v → f_X12_waysOf_L37 (nI y) (hol lk) (nI wy) (hol pe) (nI k, z) = v := fun v hv => by
        rw [← hv]
        unfold f_X12_waysOf_L37 f_X12_waysOf_J82
        dsimp only
        rw [hMz.2.1, if_neg (nnle hk), z_in_t (show k < 14 by omega) (by omega), if_pos rfl, if_pos rfl, nI_clamp (show k < 2 ^ 31 by omega), e144, e134, ieq (by omega) (by omega), nI_1]
        by_cases q1 : (S 0 1).testBit k = true
        · have s3 := (hI.2.2.2.2 k q1).1
          rw [if_pos q1, if_neg (show ¬ nI (S 3 k) ≤ 0 from nnle (b := 0) (by omega))]
          by_cases q2 : R 6 k = y
          · rw [if_pos q2, if_pos ((gb k).mpr ⟨q1, q2⟩)]
            by_cases q3 : lk = k + 1
            · rw [if_pos (ek.mpr q3), if_pos q3]
            · rw [if_neg (fun h => q3 (ek.mp h)), if_neg q3]
              rfl
          · rw [if_neg q2, if_neg (fun h => q2 ((gb k).mp h).2)]
        · rw [if_neg q1, if_pos (show nI 0 ≤ 0 by decide), if_neg (fun h => q1 ((gb k).mp h).1)]
      by_cases q : (grp R S y).testBit k = true
      · obtain ⟨r2, e2, b1, b2, v, b3, b4⟩ := uses12 (w := z) hI hNz hL hk ((gb k).mp q).1 (pe := if lk = k + 1 then pe else 0) (by split <;> omega) hwy p4
        refine ⟨_, body _ (by rw [if_pos q, e2]; rfl), rfl, b1.trans p2, fun b j h => (b2 b j h).trans (p3 b j h), v, b3, ?_⟩
        rw [show 14 - (k + 1) = 13 - k by omega, b4, ← wt (13 - k) k u q]
        exact p5
      · have qf : (grp R S y).testBit k = false := by simpa using q
        refine ⟨_, body _ (by rw [if_neg q]), rfl, p2, p3, u, p4, ?_⟩
        rw [show 14 - (k + 1) = 13 - k by omega, ← p5]
        exact sumN_cong 256 (fun t _ => by rw [wf (13 - k) k t qf])
    · obtain ⟨p1, p2, p3, u, p4, p5⟩ := hP
      obtain ⟨x, z⟩ := s
      dsimp only at p1 p2 p3 p4
      subst p1
      refine ⟨z, ?_, p2, p3, u, p4, ?_⟩
      · unfold f_X12_waysOf_L37
        dsimp only
        rw [p2, hM.2.1, if_pos (Int32.le_refl _)]
      · rw [← p5]
        refine sumN_cong 256 (fun t _ => ?_)
        rw [w1 (14 - R 0 1) (R 0 1) t (fun i hi => by
          cases q : (grp R S y).testBit i
          · rfl
          · have := bit_lt hI.2.1 ((gb i).mp q).1
            omega), Nat.mul_one]
  obtain ⟨r2, e2, b1, b2, u, b3, b4⟩ := key
  refine ⟨r2, ?_, b1, b2⟩
  obtain ⟨n0, h0⟩ : ∃ n0, n0 = 256 := ⟨_, rfl⟩
  unfold f_X12_waysOf
  rw [e1, Option.bind_some, e2, Option.bind_some, wo_sum b3 h0, Option.bind_some, h0, b4]
def Wb (R S : ST) (l pe wy : Nat) : Nat := prN (fun y => Wn S (alw S l pe wy) (grp R S y) 14 0 0) 20
theorem waysBy12 {R S : ST} {w : ZW} (hR : RailI R) (hI : NamesI (R 0 1) S) (hM : RailM R w.1) (hN : NamesM (R 0 1) S w.1) {lk pe wy : Nat} (hlk : lk ≤ 14) (hpe : pe ≤ 8) (hwy : wy ≤ 2) (h0 : lk = 0 → pe = 0) : ∃ r, f_X12_waysBy w (hol lk) (hol pe) (nI wy) = some (lN (Wb R S (lk - 1) pe wy), r) ∧ r.1 = w.1 ∧ ∀ b j, ¬ (b = 147 ∨ b = 148) → r.2 b j = w.2 b j := by
  have st := fun y (z : ZW) (hy : y < 20) (hz : z.1 = w.1) => waysOf12 (w := z) hR hI (by rw [hz]; exact hM) (by rw [hz]; exact hN) hy hlk hpe hwy h0
  unfold Wb
  have key : ∃ r, z_iter (f_X12_waysBy_L6 (hol lk) (hol pe) (nI wy)) z_fuel ((1 : Int64), (0 : Int32), w) = some r ∧ ∃ w', r = (lN (prN (fun y => Wn S (alw S (lk - 1) pe wy) (grp R S y) 14 0 0) 20), w') ∧ w'.1 = w.1 ∧ ∀ b j, ¬ (b = 147 ∨ b = 148) → w'.2 b j = w.2 b j := by
    have st' : ∀ y (z : ZW), y < 20 → z.1 = w.1 → ∃ r, f_X12_waysOf z (nI y) (hol lk) (hol pe) (nI wy) = some (lN ((fun y => Wn S (alw S (lk - 1) pe wy) (grp R S y) 14 0 0) y), r) ∧ r.1 = z.1 ∧ ∀ b j, ¬ (b = 147 ∨ b = 148) → r.2 b j = z.2 b j := st
    generalize (fun y => Wn S (alw S (lk - 1) pe wy) (grp R S y) 14 0 0) = W at st' ⊢
    refine it_inv (fun y (s : Int64 × Int32 × ZW) => s.1 = lN (prN W y) ∧ s.2.1 = nI y ∧ s.2.2.1 = w.1 ∧ ∀ b j, ¬ (b = 147 ∨ b = 148) → s.2.2.2 b j = w.2 b j) _ 20 (fun y s hy hP => ?_) (fun s hP => ?_) (zf (by omega)) ⟨rfl, rfl, rfl, fun b j _ => rfl⟩
    · obtain ⟨p1, p2, p3, p4⟩ := hP
      obtain ⟨x, i, z⟩ := s
      dsimp only at p1 p2 p3 p4
      subst p1 p2
      left
      obtain ⟨r, e, b1, b2⟩ := st' y z hy p3
      refine ⟨(lN (prN W (y + 1)), nI (y + 1), r), ?_, rfl, rfl, b1.trans p3, fun b j h => (b2 b j h).trans (p4 b j h)⟩
      unfold f_X12_waysBy_L6
      dsimp only
      rw [show (20 : Int32) = nI 20 from rfl, if_neg (nnle hy), e, Option.bind_some, lN_mul, nI_1, prN_s]
    · obtain ⟨p1, p2, p3, p4⟩ := hP
      obtain ⟨x, i, z⟩ := s
      dsimp only at p1 p2 p3 p4
      subst p1 p2
      refine ⟨_, ?_, z, rfl, p3, p4⟩
      unfold f_X12_waysBy_L6
      dsimp only
      rw [show (20 : Int32) = nI 20 from rfl, if_pos (Int32.le_refl _)]
  obtain ⟨r, e, w', h1, h2, h3⟩ := key
  refine ⟨w', ?_, h2, h3⟩
  unfold f_X12_waysBy
  rw [e, h1]
  rfl
