/-! ways: the model's sums over sets of people -/
theorem sumN_upd {v W : Nat → Nat} {t0 x : Nat} : ∀ n, t0 < n → sumN (fun t => (if t = t0 then v t + x else v t) * W t) n = sumN (fun t => v t * W t) n + x * W t0
  | 0, h => by omega
  | n + 1, h => by
    rw [sumN_s, sumN_s]
    by_cases z : t0 = n
    · subst z
      rw [if_pos rfl, Nat.add_mul, sumN_cong (h := fun t => v t * W t) t0 (fun i hi => by rw [if_neg (by omega)])]
      omega
    · rw [if_neg (by omega), sumN_upd n (by omega)]
      omega
def accs (u W : Nat → Nat) (b : Nat) (n : Nat) : Nat := sumN (fun s => if s &&& b = 0 then u s * W (s ||| b) else 0) n
def fX (w w' : ZW) : Prop := w'.1 = w.1 ∧ ∀ b j, b ≠ 148 → w'.2 b j = w.2 b j
theorem add_lp {w : ZW} {u v0 : Nat → Nat} {b : Nat} (hb : b < 256) (hu : ∀ s, s < 256 → w.2 147 s = lN (u s)) (hv : ∀ s, s < 256 → w.2 148 s = lN (v0 s)) : ∃ r, z_iter (f_X12_uses_L136 (1 : Int32) (nI b)) z_fuel ((0 : Int32), w) = some r ∧ fX w r ∧ ∃ v : Nat → Nat, (∀ s, s < 256 → r.2 148 s = lN (v s)) ∧ ∀ W : Nat → Nat, sumN (fun t => v t * W t) 256 = sumN (fun t => v0 t * W t) 256 + accs u W b 256 := by
  refine it_inv (fun i (s : Int32 × ZW) => s.1 = nI i ∧ fX w s.2 ∧ ∃ v : Nat → Nat, (∀ t, t < 256 → s.2.2 148 t = lN (v t)) ∧ ∀ W : Nat → Nat, sumN (fun t => v t * W t) 256 = sumN (fun t => v0 t * W t) 256 + accs u W b i) _ 256 (fun i s hi hP => ?_) (fun s hP => ?_) (zf (by omega)) ⟨rfl, ⟨rfl, fun c j _ => rfl⟩, v0, hv, fun W => by rw [show accs u W b 0 = 0 from rfl, Nat.add_zero]⟩
  · obtain ⟨p1, ⟨p2, p3⟩, v, p4, p5⟩ := hP
    obtain ⟨x, z⟩ := s
    dsimp only at p1 p2 p3 p4
    subst p1
    left
    have o8 : i ||| b < 256 := Nat.or_lt_two_pow (n := 8) hi hb
    have a8 : i &&& b ≤ i := Nat.and_le_left
    have z0 : nI (i &&& b) = 0 ↔ i &&& b = 0 := nI_inj (by omega) (show 0 < 2 ^ 31 by omega)
    have ac : ∀ W, accs u W b (i + 1) = accs u W b i + if i &&& b = 0 then u i * W (i ||| b) else 0 := fun W => rfl
    unfold f_X12_uses_L136
    dsimp only
    rw [show (256 : Int32) = nI 256 from rfl, if_neg (nnle hi), if_neg i10, nI_or, nI_and, z_in_t o8 (by omega), if_pos rfl, z_in_t hi (by omega), if_pos rfl, if_pos rfl, if_pos rfl, nI_clamp (show i ||| b < 2 ^ 31 by omega), nI_clamp (show i < 2 ^ 31 by omega), p4 _ o8, p3 147 i (by omega), hu i hi, lN_add, zl, zl, nI_1]
    by_cases q : i &&& b = 0
    · rw [if_pos (z0.mpr q)]
      refine ⟨_, rfl, rfl, ⟨p2, fun c j h => by rw [upJc (by omega)]; exact p3 c j h⟩, fun t => if t = i ||| b then v t + u i else v t, fun t ht => ?_, fun W => ?_⟩
      · dsimp only
        by_cases y : t = i ||| b
        · rw [if_pos y, y, upJc_e]
        · rw [if_neg y, upJc (by omega)]
          exact p4 t ht
      · rw [sumN_upd 256 o8, p5, ac, if_pos q, Nat.add_assoc]
    · rw [if_neg (fun h => q (z0.mp h))]
      refine ⟨_, rfl, rfl, ⟨p2, fun c j h => by rw [upJc (by omega)]; exact p3 c j h⟩, v, fun t ht => ?_, fun W => ?_⟩
      · dsimp only
        by_cases y : t = i ||| b
        · rw [y, upJc_e]
          exact lN_add _ 0
        · rw [upJc (by omega)]
          exact p4 t ht
      · rw [p5, ac, if_neg q, Nat.add_zero]
  · obtain ⟨p1, ⟨p2, p3⟩, v, p4, p5⟩ := hP
    obtain ⟨x, z⟩ := s
    dsimp only at p1 p2 p3 p4
    subst p1
    refine ⟨z, ?_, ⟨p2, p3⟩, v, p4, p5⟩
    unfold f_X12_uses_L136
    dsimp only
    rw [show (256 : Int32) = nI 256 from rfl, if_pos (Int32.le_refl _)]
theorem add_no {w : ZW} {b : Int32} : z_iter (f_X12_uses_L136 (0 : Int32) b) z_fuel ((0 : Int32), w) = some w := by
  refine it_count (fun _ => ((0 : Int32), w)) 0 _ (fun i hi => by omega) ?_ (zf (by omega))
  unfold f_X12_uses_L136
  dsimp only
  rw [if_neg (by decide), if_pos rfl]
/-- who may be read on a lock -/
def uph (pe wy b : Nat) : Bool := decide (pe = 0) || (if wy = 1 then b.testBit (pe - 1) else !(b.testBit (pe - 1)))
def mayj (S : ST) (k pe wy j : Nat) : Bool := decide (j / 8 < j % 8) && (decide (j % 8 < S 0 0) && (uph pe wy (tw (j / 8) (j % 8)) && cb S k (j / 8) (j % 8)))
theorem eq_hol {p pe : Nat} (hp : p < 100) (hpe : pe ≤ 100) : nI p = hol pe ↔ pe = p + 1 := by
  by_cases q : pe = 0
  · rw [q, hol_0]
    refine ⟨fun h => ?_, fun h => by omega⟩
    have := nI_pos (n := p) (by omega)
    rw [h] at this
    exact absurd (by decide) this
  · rw [hol_p q, nI_inj (by omega) (by omega)]
    omega
theorem use_step {L : Nat} {S : ST} {w : ZW} (hI : NamesI L S) (hM : NamesM L S w.1) (hL : L ≤ 14) {k pe wy j : Nat} (hk : k < L) (hb : (S 0 1).testBit k = true) (hpe : pe ≤ 8) (hwy : wy ≤ 2) (hj : j < 64) : f_X12_uses_L28 (hol pe) (nI k) (nI wy) (nI j, w) = (z_iter (f_X12_uses_L136 (if mayj S k pe wy j = true then (1 : Int32) else 0) (nI (tw (j / 8) (j % 8)))) z_fuel ((0 : Int32), w)).bind (fun q27 : ZW => some (.inl (nI (j + 1), q27))) := by
  have hN := hI.1
  have j120 : ∀ b : Bool, f_X12_uses_J120 (nI j) (nI (j / 8)) (nI (j % 8)) (if b = true then (1 : Int32) else 0) w = (z_iter (f_X12_uses_L136 (if b = true then (1 : Int32) else 0) (nI (tw (j / 8) (j % 8)))) z_fuel ((0 : Int32), w)).bind (fun q27 : ZW => some (.inl (nI (j + 1), q27))) := fun b => by
    unfold f_X12_uses_J120
    rw [nI_shl1 (by omega), nI_shl1 (by omega), nI_or, zl, nI_1]
    rfl
  rw [← j120]
  have j119 : f_X12_uses_J119 (nI j) (nI (j / 8)) (nI (j % 8)) w = f_X12_uses_J120 (nI j) (nI (j / 8)) (nI (j % 8)) (if false = true then (1 : Int32) else 0) w := rfl
  have h66 : ∀ h : Bool, (pe ≠ 0 → h = (tw (j / 8) (j % 8)).testBit (pe - 1)) → f_X12_uses_J66 (hol pe) (nI k) (nI wy) (nI j) (nI (j / 8)) (nI (j % 8)) (if h = true then (1 : Int32) else 0) w = f_X12_uses_J120 (nI j) (nI (j / 8)) (nI (j % 8)) (if mayj S k pe wy j = true then (1 : Int32) else 0) w := fun h hh => by
    unfold f_X12_uses_J66 mayj
    rw [ile (by omega) (by omega), hM.1, ile (by omega) (by omega), j119]
    by_cases q1 : j / 8 < j % 8
    · rw [if_neg (by omega), decide_eq_true q1, Bool.true_and]
      by_cases q2 : j % 8 < S 0 0
      · rw [if_neg (by omega), decide_eq_true q2, Bool.true_and]
        have j103 : f_X12_uses_J103 (nI k) (nI j) (nI (j / 8)) (nI (j % 8)) w = f_X12_uses_J120 (nI j) (nI (j / 8)) (nI (j % 8)) (if cb S k (j / 8) (j % 8) = true then (1 : Int32) else 0) w := by
          unfold f_X12_uses_J103
          rw [isRead_eq hI hM hk hL hb (by omega) q2, Option.bind_some, if10, j119]
          cases cb S k (j / 8) (j % 8) <;> rfl
        have hn := hol_neg (n := pe) (by omega)
        rw [j103]
        by_cases q3 : pe = 0
        · have e : uph pe wy (tw (j / 8) (j % 8)) = true := by unfold uph; rw [decide_eq_true q3, Bool.true_or]
          rw [if_pos (hn.mpr q3), e, Bool.true_and]
        · rw [if_neg (fun z => q3 (hn.mp z))]
          have hh := hh q3
          unfold f_X12_uses_J100
          rw [j103, j119]
          have e : uph pe wy (tw (j / 8) (j % 8)) = (if wy = 1 then h else !h) := by unfold uph; rw [decide_eq_false q3, Bool.false_or, hh]
          rw [e]
          have ew : nI wy = 1 ↔ wy = 1 := nI_inj (by omega) (show 1 < 2 ^ 31 by omega)
          by_cases q4 : wy = 1
          · rw [if_pos (ew.mpr q4), if_pos q4]
            cases h <;> rfl
          · rw [if_neg (fun z => q4 (ew.mp z)), if_neg q4]
            cases h <;> rfl
      · rw [if_pos (by omega), decide_eq_false q2, Bool.false_and]
    · rw [if_pos (by omega), decide_eq_false q1, Bool.false_and]
  unfold f_X12_uses_L28
  dsimp only
  rw [show (64 : Int32) = nI 64 from rfl, if_neg (nnle hj), show (8 : Int32) = nI 8 from rfl, pk_rem (by omega) (by omega) (by omega), pk_div (by omega) (by omega) (by omega), zl]
  have j61 : f_X12_uses_J61 (hol pe) (nI k) (nI wy) (nI j) (nI (j / 8)) (nI (j % 8)) w = f_X12_uses_J66 (hol pe) (nI k) (nI wy) (nI j) (nI (j / 8)) (nI (j % 8)) (if true = true then (1 : Int32) else 0) w := rfl
  have e1 := eq_hol (p := j / 8) (pe := pe) (by omega) (by omega)
  have e2 := eq_hol (p := j % 8) (pe := pe) (by omega) (by omega)
  by_cases q1 : pe = j / 8 + 1
  · rw [if_pos (e1.mpr q1), j61, h66 true (fun _ => by rw [tw_bit, decide_eq_true (show j / 8 = pe - 1 by omega)]; rfl)]
  · rw [if_neg (fun h => q1 (e1.mp h))]
    by_cases q2 : pe = j % 8 + 1
    · rw [if_pos (e2.mpr q2), j61, h66 true (fun _ => by rw [tw_bit, decide_eq_true (show j % 8 = pe - 1 by omega), Bool.or_true])]
    · rw [if_neg (fun h => q2 (e2.mp h))]
      exact h66 false (fun h => by rw [tw_bit, decide_eq_false (show ¬ j / 8 = pe - 1 by omega), decide_eq_false (show ¬ j % 8 = pe - 1 by omega)]; rfl)
theorem use_z {w : ZW} : ∃ r, z_iter f_X12_uses_L3 z_fuel ((0 : Int32), w) = some r ∧ fX w r ∧ ∀ s, s < 256 → r.2 148 s = lN 0 := by
  refine it_inv (fun i (s : Int32 × ZW) => s.1 = nI i ∧ fX w s.2 ∧ ∀ t, t < i → s.2.2 148 t = lN 0) _ 256 (fun i s hi hP => ?_) (fun s hP => ?_) (zf (by omega)) ⟨rfl, ⟨rfl, fun c j _ => rfl⟩, fun t ht => by omega⟩
  · obtain ⟨p1, ⟨p2, p3⟩, p4⟩ := hP
    obtain ⟨x, z⟩ := s
    dsimp only at p1 p2 p3 p4
    subst p1
    left
    refine ⟨(nI (i + 1), z_upJ z 148 i 0), ?_, rfl, ⟨p2, fun c j h => by rw [upJc (by omega)]; exact p3 c j h⟩, fun t ht => ?_⟩
    · unfold f_X12_uses_L3
      dsimp only
      rw [show (256 : Int32) = nI 256 from rfl, if_neg (nnle hi), z_in_t hi (by omega), if_pos rfl, nI_clamp (show i < 2 ^ 31 by omega), zl, nI_1]
    · by_cases y : t = i
      · subst y; exact upJc_e
      · rw [upJc (by omega)]
        exact p4 t (by omega)
  · obtain ⟨p1, ⟨p2, p3⟩, p4⟩ := hP
    obtain ⟨x, z⟩ := s
    dsimp only at p1 p2 p3 p4
    subst p1
    refine ⟨z, ?_, ⟨p2, p3⟩, p4⟩
    unfold f_X12_uses_L3
    dsimp only
    rw [show (256 : Int32) = nI 256 from rfl, if_pos (Int32.le_refl _)]
theorem use_c {w : ZW} {v : Nat → Nat} (hv : ∀ s, s < 256 → w.2 148 s = lN (v s)) : ∃ r, z_iter f_X12_uses_L196 z_fuel ((0 : Int32), w) = some r ∧ r.1 = w.1 ∧ (∀ b j, b ≠ 147 → r.2 b j = w.2 b j) ∧ ∀ s, s < 256 → r.2 147 s = lN (v s) := by
  refine it_inv (fun i (s : Int32 × ZW) => s.1 = nI i ∧ s.2.1 = w.1 ∧ (∀ b j, b ≠ 147 → s.2.2 b j = w.2 b j) ∧ ∀ t, t < i → s.2.2 147 t = lN (v t)) _ 256 (fun i s hi hP => ?_) (fun s hP => ?_) (zf (by omega)) ⟨rfl, rfl, fun c j _ => rfl, fun t ht => by omega⟩
  · obtain ⟨p1, p2, p3, p4⟩ := hP
    obtain ⟨x, z⟩ := s
    dsimp only at p1 p2 p3 p4
    subst p1
    left
    refine ⟨(nI (i + 1), z_upJ z 147 i (lN (v i))), ?_, rfl, p2, fun c j h => by rw [upJc (by omega)]; exact p3 c j h, fun t ht => ?_⟩
    · unfold f_X12_uses_L196
      dsimp only
      rw [show (256 : Int32) = nI 256 from rfl, if_neg (nnle hi), z_in_t hi (by omega), if_pos rfl, if_pos rfl, nI_clamp (show i < 2 ^ 31 by omega), p3 148 i (by omega), hv i hi, zl, nI_1]
    · by_cases y : t = i
      · subst y; exact upJc_e
      · rw [upJc (by omega)]
        exact p4 t (by omega)
  · obtain ⟨p1, p2, p3, p4⟩ := hP
    obtain ⟨x, z⟩ := s
    dsimp only at p1 p2 p3 p4
    subst p1
    refine ⟨z, ?_, p2, p3, p4⟩
    unfold f_X12_uses_L196
    dsimp only
    rw [show (256 : Int32) = nI 256 from rfl, if_pos (Int32.le_refl _)]
def accj (S : ST) (k pe wy : Nat) (u W : Nat → Nat) (n : Nat) : Nat := sumN (fun j => if mayj S k pe wy j = true then accs u W (tw (j / 8) (j % 8)) 256 else 0) n
theorem uses12 {L : Nat} {S : ST} {w : ZW} (hI : NamesI L S) (hM : NamesM L S w.1) (hL : L ≤ 14) {k pe wy : Nat} (hk : k < L) (hb : (S 0 1).testBit k = true) (hpe : pe ≤ 8) (hwy : wy ≤ 2) {u : Nat → Nat} (hu : ∀ s, s < 256 → w.2 147 s = lN (u s)) : ∃ r, f_X12_uses w (nI k) (hol pe) (nI wy) = some r ∧ r.1 = w.1 ∧ (∀ b j, ¬ (b = 147 ∨ b = 148) → r.2 b j = w.2 b j) ∧ ∃ v : Nat → Nat, (∀ s, s < 256 → r.2 147 s = lN (v s)) ∧ ∀ W : Nat → Nat, sumN (fun t => v t * W t) 256 = accj S k pe wy u W 64 := by
  obtain ⟨r1, e1, ⟨a1, a2⟩, a3⟩ := use_z (w := w)
  have key : ∃ r, z_iter (f_X12_uses_L28 (hol pe) (nI k) (nI wy)) z_fuel ((0 : Int32), r1) = some r ∧ fX r1 r ∧ ∃ v : Nat → Nat, (∀ s, s < 256 → r.2 148 s = lN (v s)) ∧ ∀ W : Nat → Nat, sumN (fun t => v t * W t) 256 = accj S k pe wy u W 64 := by
    refine it_inv (fun j (s : Int32 × ZW) => s.1 = nI j ∧ fX r1 s.2 ∧ ∃ v : Nat → Nat, (∀ t, t < 256 → s.2.2 148 t = lN (v t)) ∧ ∀ W : Nat → Nat, sumN (fun t => v t * W t) 256 = accj S k pe wy u W j) _ 64 (fun j s hj hP => ?_) (fun s hP => ?_) (zf (by omega)) ⟨rfl, ⟨rfl, fun c j _ => rfl⟩, fun _ => 0, a3, fun W => sumN_zero 256 (fun i _ => Nat.zero_mul _)⟩
    · obtain ⟨p1, ⟨p2, p3⟩, v, p4, p5⟩ := hP
      obtain ⟨x, z⟩ := s
      dsimp only at p1 p2 p3 p4
      subst p1
      left
      have hMz : NamesM L S z.1 := by rw [p2, a1]; exact hM
      have tl : tw (j / 8) (j % 8) < 256 := Nat.or_lt_two_pow (n := 8) (Nat.pow_lt_pow_right (by omega) (by omega)) (Nat.pow_lt_pow_right (by omega) (by omega))
      have ac : ∀ W, accj S k pe wy u W (j + 1) = accj S k pe wy u W j + if mayj S k pe wy j = true then accs u W (tw (j / 8) (j % 8)) 256 else 0 := fun W => rfl
      rw [use_step hI hMz hL hk hb hpe hwy hj]
      by_cases q : mayj S k pe wy j = true
      · obtain ⟨r2, e2, ⟨b1, b2⟩, v', b3, b4⟩ := add_lp (w := z) (u := u) (v0 := v) tl (fun s hs => by rw [p3 147 s (by omega), a2 147 s (by omega)]; exact hu s hs) p4
        rw [if_pos q, e2]
        exact ⟨_, rfl, rfl, ⟨b1.trans p2, fun c j h => (b2 c j h).trans (p3 c j h)⟩, v', b3, fun W => by rw [b4, p5, ac, if_pos q]⟩
      · rw [if_neg q, add_no]
        exact ⟨_, rfl, rfl, ⟨p2, p3⟩, v, p4, fun W => by rw [p5, ac, if_neg q, Nat.add_zero]⟩
    · obtain ⟨p1, ⟨p2, p3⟩, v, p4, p5⟩ := hP
      obtain ⟨x, z⟩ := s
      dsimp only at p1 p2 p3 p4
      subst p1
      refine ⟨z, ?_, ⟨p2, p3⟩, v, p4, p5⟩
      unfold f_X12_uses_L28
      dsimp only
      rw [show (64 : Int32) = nI 64 from rfl, if_pos (Int32.le_refl _)]
  obtain ⟨r2, e2, ⟨b1, b2⟩, v, b3, b4⟩ := key
  obtain ⟨r3, e3, c1, c2, c3⟩ := use_c b3
  refine ⟨r3, ?_, c1.trans (b1.trans a1), fun b j h => ?_, v, c3, b4⟩
  · unfold f_X12_uses
    rw [e1, Option.bind_some, e2, Option.bind_some, e3]
    rfl
  · rw [c2 b j (by omega), b2 b j (by omega), a2 b j (by omega)]
