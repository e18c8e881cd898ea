/-! how many questions are enough -/
def anyN (c : Nat → Bool) : Nat → Bool
  | 0 => false
  | n + 1 => anyN c n || c n
theorem anyN_iff {c : Nat → Bool} : ∀ n, anyN c n = true ↔ ∃ i, i < n ∧ c i = true
  | 0 => ⟨(fun h => by cases h), (fun ⟨i, h, _⟩ => by omega)⟩
  | n + 1 => by
    unfold anyN
    rw [Bool.or_eq_true, anyN_iff n]
    constructor
    · rintro (⟨i, h1, h2⟩ | h)
      · exact ⟨i, by omega, h2⟩
      · exact ⟨n, by omega, h⟩
    · rintro ⟨i, h1, h2⟩
      by_cases e : i = n
      · subst e; exact Or.inr h2
      · exact Or.inl ⟨i, by omega, h2⟩
theorem fd_any {ρ : Type} {r : Nat → ρ} {c : Nat → Bool} : ∀ (k i : Nat), (∃ j, i ≤ j ∧ j < i + k ∧ c j = true ∧ (∀ j', i ≤ j' → j' < j → c j' = false) ∧ fd (fun s => if c s = true then .inl (r s) else .inr ()) i k = .inl (r j)) ∨ (fd (fun s => if c s = true then .inl (r s) else .inr ()) i k = .inr () ∧ ∀ j, i ≤ j → j < i + k → c j = false)
  | 0, i => Or.inr ⟨rfl, fun j h1 h2 => by omega⟩
  | k + 1, i => by
    by_cases q : c i = true
    · refine Or.inl ⟨i, Nat.le_refl _, by omega, q, fun j' h1 h2 => by omega, ?_⟩
      show Sum.elim Sum.inl (fun _ => fd (fun s => if c s = true then (.inl (r s) : ρ ⊕ Unit) else .inr ()) (i + 1) k) (if c i = true then (.inl (r i) : ρ ⊕ Unit) else .inr ()) = _
      rw [if_pos q]
      rfl
    · have e : fd (fun s => if c s = true then (.inl (r s) : ρ ⊕ Unit) else .inr ()) i (k + 1) = fd (fun s => if c s = true then (.inl (r s) : ρ ⊕ Unit) else .inr ()) (i + 1) k := by
        show Sum.elim Sum.inl (fun _ => fd (fun s => if c s = true then (.inl (r s) : ρ ⊕ Unit) else .inr ()) (i + 1) k) (if c i = true then (.inl (r i) : ρ ⊕ Unit) else .inr ()) = _
        rw [if_neg q]
        rfl
      rw [e]
      rcases fd_any (r := r) (c := c) k (i + 1) with ⟨j, h1, h2, h3, h4, h5⟩ | ⟨h1, h2⟩
      · refine Or.inl ⟨j, by omega, by omega, h3, fun j' g1 g2 => ?_, h5⟩
        by_cases z : j' = i
        · subst z; simpa using q
        · exact h4 j' (by omega) g2
      · refine Or.inr ⟨h1, fun j g1 g2 => ?_⟩
        by_cases z : j = i
        · subst z; simpa using q
        · exact h2 j (by omega) (by omega)
theorem ndn_and {s y : Nat} (hs : s < 2 ^ 14) : ndn s (s &&& y) = ndn s y := by
  apply Nat.eq_of_testBit_eq
  intro i
  rw [ndn_bit (by omega), ndn_bit (by omega), Nat.testBit_and]
  cases s.testBit i <;> cases y.testBit i <;> rfl
theorem pc_split {s y : Nat} (hs : s < 2 ^ 14) : pc14 (s &&& y) + pc14 (ndn s y) = pc14 s := by
  rw [← pc_disj (fun i h => by
    rw [Nat.testBit_and, Bool.and_eq_true] at h
    rw [ndn_bit (by omega), h.2]
    simp)]
  congr 1
  apply Nat.eq_of_testBit_eq
  intro i
  rw [Nat.testBit_or, Nat.testBit_and, ndn_bit (by omega)]
  cases s.testBit i <;> cases y.testBit i <;> rfl
theorem ndn_nz {s y : Nat} (hs : s < 2 ^ 14) : ndn s y = 0 ↔ s &&& y = s := by
  constructor
  · intro h
    apply Nat.eq_of_testBit_eq
    intro i
    have := z_bits.mp h i
    rw [ndn_bit (by omega)] at this
    rw [Nat.testBit_and]
    cases q : s.testBit i
    · rfl
    · rw [q] at this
      simpa using this
  · intro h
    rw [z_bits]
    intro i
    have : (s &&& y).testBit i = s.testBit i := by rw [h]
    rw [Nat.testBit_and] at this
    rw [ndn_bit (by omega)]
    cases q : s.testBit i
    · rfl
    · rw [q] at this
      simp at this
      simp [this]
theorem ndn_lt {s y : Nat} (hs : s < 2 ^ 14) : ndn s y < 2 ^ 14 := Nat.lt_of_le_of_lt ndn_le hs
def enb (R : ST) : Nat → Nat → Bool
  | 0, s => decide (pc14 s ≤ 1)
  | n + 1, s => decide (pc14 s ≤ 1) || anyN (fun q => !(decide (s &&& yb R q = 0)) && (!(decide (s &&& yb R q = s)) && (enb R n (s &&& yb R q) && enb R n (ndn s (yb R q))))) 28
def enc (R : ST) (n s q : Nat) : Bool := !(decide (s &&& yb R q = 0)) && (!(decide (s &&& yb R q = s)) && (enb R n (s &&& yb R q) && enb R n (ndn s (yb R q))))
theorem enb_s {R : ST} {n s : Nat} : enb R (n + 1) s = (decide (pc14 s ≤ 1) || anyN (enc R n s) 28) := rfl
theorem enc_iff {R : ST} {n s q : Nat} : enc R n s q = true ↔ s &&& yb R q ≠ 0 ∧ s &&& yb R q ≠ s ∧ enb R n (s &&& yb R q) = true ∧ enb R n (ndn s (yb R q)) = true := by
  unfold enc
  simp only [Bool.and_eq_true, Bool.not_eq_true', decide_eq_false_iff_not, ne_eq]
theorem enb_iff {R : ST} {n s : Nat} : enb R (n + 1) s = true ↔ pc14 s ≤ 1 ∨ ∃ q, q < 28 ∧ enc R n s q = true := by
  rw [enb_s, Bool.or_eq_true, decide_eq_true_eq, anyN_iff]
theorem enb_0 {R : ST} {n s : Nat} (h : pc14 s ≤ 1) : enb R n s = true := by
  cases n with
  | zero => exact decide_eq_true h
  | succ n => exact enb_iff.mpr (Or.inl h)
theorem enb_up {R : ST} : ∀ n s, enb R n s = true → enb R (n + 1) s = true
  | 0, s, h => enb_0 (of_decide_eq_true h)
  | n + 1, s, h => by
    rcases enb_iff.mp h with q | ⟨q, h1, h2⟩
    · exact enb_0 q
    · obtain ⟨e1, e2, e3, e4⟩ := enc_iff.mp h2
      exact enb_iff.mpr (Or.inr ⟨q, h1, enc_iff.mpr ⟨e1, e2, enb_up n _ e3, enb_up n _ e4⟩⟩)
theorem enb_mono {R : ST} {s n : Nat} : ∀ k, enb R n s = true → enb R (n + k) s = true
  | 0, h => h
  | k + 1, h => enb_up _ _ (enb_mono k h)
theorem enb_le {R : ST} {s n m : Nat} (h : enb R n s = true) (hm : n ≤ m) : enb R m s = true := by
  have := enb_mono (m - n) h
  rw [show n + (m - n) = m by omega] at this
  exact this
theorem enb_pow {R : ST} : ∀ n s, s < 2 ^ 14 → enb R n s = true → pc14 s ≤ 2 ^ n
  | 0, s, _, h => of_decide_eq_true h
  | n + 1, s, hs, h => by
    have p : 2 ^ (n + 1) = 2 * 2 ^ n := by rw [Nat.pow_succ]; omega
    have p1 : 1 ≤ 2 ^ n := Nat.pow_pos (by omega)
    rcases enb_iff.mp h with q | ⟨q, h1, h2⟩
    · omega
    · obtain ⟨e1, e2, e3, e4⟩ := enc_iff.mp h2
      have a := enb_pow n _ (and14 hs) e3
      have b := enb_pow n _ (ndn_lt hs) e4
      have c := pc_split (y := yb R q) hs
      omega
theorem enb_pc {R : ST} : ∀ n s, s < 2 ^ 14 → enb R n s = true → enb R (pc14 s - 1) s = true
  | 0, s, _, h => enb_0 (of_decide_eq_true h)
  | n + 1, s, hs, h => by
    rcases enb_iff.mp h with q | ⟨q, h1, h2⟩
    · exact enb_0 q
    · obtain ⟨e1, e2, e3, e4⟩ := enc_iff.mp h2
      have a := enb_pc n _ (and14 hs) e3
      have b := enb_pc n _ (ndn_lt hs) e4
      have c := pc_split (y := yb R q) hs
      have d := pc_pos (and14 hs) e1
      have e := pc_pos (ndn_lt hs) (fun z => e2 ((ndn_nz hs).mp z))
      rw [show pc14 s - 1 = pc14 s - 2 + 1 by omega]
      exact enb_iff.mpr (Or.inr ⟨q, h1, enc_iff.mpr ⟨e1, e2, enb_le a (by omega), enb_le b (by omega)⟩⟩)
/-- the least number, or endless -/
def nvf (R : ST) (s : Nat) : Nat ⊕ Unit := fd (fun n => if enb R n s = true then .inl n else .inr ()) 0 14
def nv (R : ST) (s : Nat) : Nat := (nvf R s).elim (fun n => n) (fun _ => 1000000000)
theorem nv_cases {R : ST} (s : Nat) (hs : s < 2 ^ 14) : (∃ j, j < 14 ∧ nvf R s = .inl j ∧ nv R s = j ∧ enb R j s = true ∧ ∀ j', j' < j → enb R j' s = false) ∨ (nvf R s = .inr () ∧ nv R s = 1000000000 ∧ ∀ n, enb R n s = false) := by
  rcases fd_any (r := fun n => n) (c := fun n => enb R n s) 14 0 with ⟨j, h1, h2, h3, h4, h5⟩ | ⟨h1, h2⟩
  · refine Or.inl ⟨j, by omega, h5, ?_, h3, fun j' q => h4 j' (by omega) q⟩
    show (nvf R s).elim _ _ = _
    rw [show nvf R s = .inl j from h5]
    rfl
  · refine Or.inr ⟨h1, ?_, fun n => ?_⟩
    · show (nvf R s).elim _ _ = _
      rw [show nvf R s = .inr () from h1]
      rfl
    · cases q : enb R n s
      · rfl
      · have a := enb_pc n s hs q
        have b := pc_le (b := s)
        rw [h2 (pc14 s - 1) (by omega) (by omega)] at a
        cases a
theorem nv_le {R : ST} {s n : Nat} (hs : s < 2 ^ 14) (hn : n < 1000000000) : nv R s ≤ n ↔ enb R n s = true := by
  rcases nv_cases (R := R) s hs with ⟨j, h1, h2, h3, h4, h5⟩ | ⟨h1, h2, h3⟩
  · rw [h3]
    constructor
    · exact fun h => enb_le h4 h
    · intro h
      cases Nat.lt_or_ge n j with
      | inl q => rw [h5 n q] at h; cases h
      | inr q => exact q
  · rw [h2, h3 n]
    constructor
    · intro h; omega
    · intro h; cases h
theorem nv_top {R : ST} {s : Nat} (hs : s < 2 ^ 14) : nv R s ≤ 1000000000 := by
  rcases nv_cases (R := R) s hs with ⟨j, h1, h2, h3, h4, h5⟩ | ⟨h1, h2, h3⟩ <;> omega
/-! class -/
/-- what the question ahead said -/
def lst (R : ST) (s : Nat) : Nat → Nat
  | 0 => 0
  | q + 1 => s &&& yb R q
theorem lst_lt {R : ST} {s : Nat} (hs : s < 2 ^ 14) : ∀ q, lst R s q < 2 ^ 14
  | 0 => show 0 < 2 ^ 14 from by decide
  | q + 1 => and14 hs
theorem enc_like {R : ST} {n s q q' : Nat} (hs : s < 2 ^ 14) (h : s &&& yb R q = s &&& yb R q') (g : enc R n s q' = false) : enc R n s q = false := by
  have e : ndn s (yb R q) = ndn s (yb R q') := by rw [← ndn_and hs, h, ndn_and hs]
  unfold enc at g ⊢
  rw [h, e]
  exact g
theorem enc_last {R : ST} {n s q : Nat} (hs : s < 2 ^ 14) (hb : ∀ q', q' < q → enc R n s q' = false) (h : s &&& yb R q = lst R s q) : enc R n s q = false := by
  cases q with
  | zero =>
    cases z : enc R n s 0
    · rfl
    · exact absurd h (enc_iff.mp z).1
  | succ k => exact enc_like hs h (hb k (by omega))
theorem en_lp {R : ST} {w : ZW} (hy : ∀ q, q < 28 → w.1 118 q = nI (yb R q)) {rc : ZW → Int32 → Int32 → Option Int32} {n s : Nat} (hn : n < 14) (hs : s < 2 ^ 14) (ih : ∀ s, s < 2 ^ 14 → rc w (nI s) (nI n) = some (if enb R n s = true then 1 else 0)) : ∃ r, z_iter (f_X6_areEnough_L37 (nI s) w rc (nI (n + 1))) z_fuel ((0 : Int32), (0 : Int32)) = some r ∧ ((r = .inl 1 ∧ ∃ q, q < 28 ∧ enc R n s q = true) ∨ (r = .inr () ∧ ∀ q, q < 28 → enc R n s q = false)) := by
  refine it_inv (fun q st => st = (nI (lst R s q), nI q) ∧ ∀ q', q' < q → enc R n s q' = false) _ 28 (fun q st hq hP => ?_) (fun st hP => ?_) (zf (by omega)) ⟨rfl, fun q' h => by omega⟩
  · obtain ⟨rfl, hb⟩ := hP
    have a1 := and14 (b := yb R q) hs
    have l1 := lst_lt (R := R) hs q
    have c1 : nI (s &&& yb R q) = nI (lst R s q) ↔ s &&& yb R q = lst R s q := nI_inj (by omega) (by omega)
    have c2 : nI (s &&& yb R q) = 0 ↔ s &&& yb R q = 0 := nI_inj (by omega) (show 0 < 2 ^ 31 by omega)
    have c3 : nI (s &&& yb R q) = nI s ↔ s &&& yb R q = s := nI_inj (by omega) (by omega)
    have ec := enc_iff (R := R) (n := n) (s := s) (q := q)
    have hB : f_X6_areEnough_L37 (nI s) w rc (nI (n + 1)) (nI (lst R s q), nI q) = some (if s &&& yb R q ≠ lst R s q ∧ enc R n s q = true then .inr (.inl (1 : Int32)) else .inl (nI (s &&& yb R q), nI (q + 1))) := by
      unfold f_X6_areEnough_L37
      dsimp only
      rw [show (28 : Int32) = nI 28 from rfl, if_neg (nnle hq), z_in_t hq (by omega), if_pos rfl, nI_clamp (show q < 2 ^ 31 by omega), hy q hq, nI_1]
      simp only [z_let]
      rw [nI_and, show nI (n + 1) - (1 : Int32) = nI n from pk_sub (a := n + 1) (b := 1) (by omega), ih _ a1, Option.bind_some, if10, nI_ndn, ndn_and hs, ih _ (ndn_lt hs), Option.bind_some, if10]
      by_cases z0 : s &&& yb R q = lst R s q
      · rw [if_pos (c1.mpr z0), if_neg (fun h => h.1 z0)]
      · rw [if_neg (fun h => z0 (c1.mp h))]
        by_cases z1 : s &&& yb R q = 0
        · rw [if_pos (c2.mpr z1), if_neg (fun h => (ec.mp h.2).1 z1)]
        · rw [if_neg (fun h => z1 (c2.mp h))]
          by_cases z2 : s &&& yb R q = s
          · rw [if_pos (c3.mpr z2), if_neg (fun h => (ec.mp h.2).2.1 z2)]
          · rw [if_neg (fun h => z2 (c3.mp h))]
            by_cases z3 : enb R n (s &&& yb R q) = true
            · rw [if_pos z3]
              by_cases z4 : enb R n (ndn s (yb R q)) = true
              · rw [if_pos z4, if_pos ⟨z0, ec.mpr ⟨z1, z2, z3, z4⟩⟩]
              · rw [if_neg z4, if_neg (fun h => z4 (ec.mp h.2).2.2.2)]
            · rw [if_neg z3, if_neg (fun h => z3 (ec.mp h.2).2.2.1)]
    by_cases z : enc R n s q = true
    · right
      refine ⟨.inl 1, ?_, Or.inl ⟨rfl, q, hq, z⟩⟩
      have z0 : s &&& yb R q ≠ lst R s q := fun h => by
        rw [enc_last hs hb h] at z
        cases z
      rw [hB, if_pos ⟨z0, z⟩]
    · left
      refine ⟨_, hB.trans (by rw [if_neg (fun h => z h.2)]; rfl), rfl, fun q' h => ?_⟩
      by_cases e : q' = q
      · rw [e]
        simpa using z
      · exact hb q' (by omega)
  · obtain ⟨rfl, hb⟩ := hP
    refine ⟨.inr (), ?_, Or.inr ⟨rfl, hb⟩⟩
    unfold f_X6_areEnough_L37
    dsimp only
    rw [show (28 : Int32) = nI 28 from rfl, if_pos (Int32.le_refl _)]
theorem en11 {R : ST} {w : ZW} (hy : ∀ q, q < 28 → w.1 118 q = nI (yb R q)) : ∀ n f s, n ≤ 14 → n < f → s < 2 ^ 14 → f_X6_areEnough f w (nI s) (nI n) = some (if enb R n s = true then 1 else 0) := by
  intro n
  induction n with
  | zero =>
    intro f s hn hf hs
    obtain ⟨f, rfl⟩ : ∃ g, f = g + 1 := ⟨f - 1, by omega⟩
    have p := pc_le (b := s)
    have c1 : (1 : Int32) < nI (pc14 s) ↔ 1 < pc14 s := nI_ltI (show 1 < 2 ^ 31 by omega) (by omega)
    rw [f_X6_areEnough, bitCount_eq hs, Option.bind_some]
    by_cases q : pc14 s ≤ 1
    · rw [if_neg (fun h => by have := c1.mp h; omega), enb_0 q, if_pos rfl]
    · rw [if_pos (c1.mpr (by omega)), if_pos (show nI 0 ≤ 0 by decide), show enb R 0 s = false from decide_eq_false q]
      rfl
  | succ n ih =>
    intro f s hn hf hs
    obtain ⟨f, rfl⟩ : ∃ g, f = g + 1 := ⟨f - 1, by omega⟩
    have p := pc_le (b := s)
    have c1 : (1 : Int32) < nI (pc14 s) ↔ 1 < pc14 s := nI_ltI (show 1 < 2 ^ 31 by omega) (by omega)
    rw [f_X6_areEnough, bitCount_eq hs, Option.bind_some]
    by_cases q : pc14 s ≤ 1
    · rw [if_neg (fun h => by have := c1.mp h; omega), enb_0 q, if_pos rfl]
    · have p2 : 2 ^ (n + 1) ≤ 2 ^ 14 := Nat.pow_le_pow_right (by omega) (by omega)
      rw [if_pos (c1.mpr (by omega)), if_neg (show ¬ nI (n + 1) ≤ 0 from nnle (b := 0) (show 0 < n + 1 by omega)), if_neg (show ¬ (14 : Int32) < nI (n + 1) from fun h => by
        have := (nI_ltI (a := 14) (by omega) (by omega)).mp h
        omega), nI_shl1 (by omega), ile (by omega) (by omega)]
      by_cases q2 : pc14 s ≤ 2 ^ (n + 1)
      · rw [if_pos q2]
        obtain ⟨r, er, hr⟩ := en_lp (n := n) hy (by omega) hs (fun s hs => ih f s (by omega) (by omega) hs)
        rw [er, Option.bind_some]
        rcases hr with ⟨rfl, j, h2, h3⟩ | ⟨rfl, h2⟩
        · rw [Sum.elim_inl, if_pos (enb_iff.mpr (Or.inr ⟨j, h2, h3⟩))]
        · rw [Sum.elim_inr, if_neg (fun h => by
            rcases enb_iff.mp h with z | ⟨j, z1, z2⟩
            · exact q z
            · rw [h2 j z1] at z2
              cases z2)]
      · rw [if_neg q2, if_neg (fun h => q2 (enb_pow _ _ hs h))]
/-- those of a set that answer as lock l does -/
def lkn (R : ST) (l k : Nat) : Nat → Nat
  | 0 => k
  | i + 1 => if (yb R i).testBit l = true then lkn R l k i &&& yb R i else ndn (lkn R l k i) (yb R i)
theorem lkn_s {R : ST} {l k i : Nat} : lkn R l k (i + 1) = if (yb R i).testBit l = true then lkn R l k i &&& yb R i else ndn (lkn R l k i) (yb R i) := rfl
theorem lkn_lt {R : ST} {l k : Nat} (hk : k < 2 ^ 14) : ∀ i, lkn R l k i < 2 ^ 14
  | 0 => hk
  | i + 1 => by
    rw [lkn_s]
    split
    · exact and14 (lkn_lt hk i)
    · exact ndn_lt (lkn_lt hk i)
theorem lkn_bit {R : ST} {l k j : Nat} (hk : k < 2 ^ 14) : ∀ i, (lkn R l k i).testBit j = true ↔ k.testBit j = true ∧ ∀ q, q < i → (yb R q).testBit j = (yb R q).testBit l
  | 0 => ⟨fun h => ⟨h, fun q hq => by omega⟩, fun h => h.1⟩
  | i + 1 => by
    have ih := lkn_bit (R := R) (l := l) (j := j) hk i
    have hl := lkn_lt (R := R) (l := l) hk i
    rw [lkn_s]
    have e : (∀ q, q < i + 1 → (yb R q).testBit j = (yb R q).testBit l) ↔ (∀ q, q < i → (yb R q).testBit j = (yb R q).testBit l) ∧ (yb R i).testBit j = (yb R i).testBit l := by
      constructor
      · exact fun h => ⟨fun q hq => h q (by omega), h i (by omega)⟩
      · rintro ⟨h1, h2⟩ q hq
        by_cases z : q = i
        · subst z; exact h2
        · exact h1 q (by omega)
    rw [e, ← and_assoc, ← ih]
    by_cases z : (yb R i).testBit l = true
    · rw [if_pos z, Nat.testBit_and, z, Bool.and_eq_true]
    · rw [if_neg z, ndn_bit (by omega), Bool.and_eq_true]
      simp only [Bool.not_eq_true] at z
      rw [z]
      simp
theorem lk_lp {R : ST} {w : ZW} (hL : R 0 1 ≤ 14) (hy : ∀ q, q < 28 → w.1 118 q = nI (yb R q)) {l k i0 : Nat} (hl : l < 14) (h0 : i0 = 28) : z_iter (f_X6_areApart_L25 w (nI l)) z_fuel (nI k, (0 : Int32)) = some (nI (lkn R l k i0)) := by
  refine it_count (fun i => (nI (lkn R l k i), nI i)) i0 _ (fun i hi => ?_) ?_ (zf (by omega))
  · have y14 := yb_lt hL i
    unfold f_X6_areApart_L25
    dsimp only
    rw [show (28 : Int32) = nI 28 from rfl, if_neg (nnle (by omega)), z_in_t (show i < 28 by omega) (by omega), nI_clamp (show i < 2 ^ 31 by omega), hy i (by omega), nI_1, lkn_s]
    simp only [z_let, if_true, nI_bit0 (show yb R i < 2 ^ 31 by omega) (show l < 32 by omega)]
    rw [nI_ndn, nI_and]
    cases (yb R i).testBit l <;> rfl
  · unfold f_X6_areApart_L25
    dsimp only
    rw [show (28 : Int32) = nI 28 from rfl, h0, if_pos (Int32.le_refl _)]
def apc (R : ST) (s i0 l : Nat) : Bool := decide (1 < pc14 (lkn R l (if s.testBit l = true then s else 0) i0))
theorem j21 {R : ST} {w : ZW} (hL : R 0 1 ≤ 14) (hy : ∀ q, q < 28 → w.1 118 q = nI (yb R q)) {s l i0 : Nat} (hs : s < 2 ^ 14) (hl : l < 14) (h0 : i0 = 28) : f_X6_areApart_J21 w (nI l) (nI (if s.testBit l = true then s else 0)) = some ((if apc R s i0 l = true then (.inl (0 : Int32) : Int32 ⊕ Unit) else .inr ()).elim (fun r => .inr (.inl r)) (fun _ => .inl (nI (l + 1)))) := by
  have hk : (if s.testBit l = true then s else 0) < 2 ^ 14 := by split <;> omega
  have hlk := lkn_lt (R := R) (l := l) hk i0
  have p := pc_le (b := lkn R l (if s.testBit l = true then s else 0) i0)
  unfold f_X6_areApart_J21
  rw [lk_lp hL hy hl h0, Option.bind_some, bitCount_eq hlk, Option.bind_some, show (1 : Int32) = nI 1 from rfl, ile (by omega) (by omega), nI_add]
  unfold apc
  by_cases z : 1 < pc14 (lkn R l (if s.testBit l = true then s else 0) i0)
  · rw [if_neg (by omega), if_pos (decide_eq_true z)]
    rfl
  · rw [if_pos (by omega), if_neg (by simp only [decide_eq_true_eq]; exact z)]
    rfl
theorem apart11 {R : ST} {w : ZW} (hL : R 0 1 ≤ 14) (hy : ∀ q, q < 28 → w.1 118 q = nI (yb R q)) {s i0 : Nat} (hs : s < 2 ^ 14) (h0 : i0 = 28) : f_X6_areApart w (nI s) = some (if anyN (apc R s i0) 14 = true then 0 else 1) := by
  unfold f_X6_areApart
  rw [it_fd (fun l => if apc R s i0 l = true then .inl (0 : Int32) else .inr ()) 14 ?_ ?_ (zf (by omega)), Option.bind_some]
  · rcases fd_any (r := fun _ => (0 : Int32)) (c := apc R s i0) 14 0 with ⟨j, h1, h2, h3, h4, h5⟩ | ⟨h1, h2⟩
    · rw [h5, Sum.elim_inl, if_pos ((anyN_iff _).mpr ⟨j, by omega, h3⟩)]
    · rw [h1, Sum.elim_inr, if_neg (fun h => by
        obtain ⟨j, z1, z2⟩ := (anyN_iff _).mp h
        rw [h2 j (by omega) (by omega)] at z2
        cases z2)]
  · intro l hl
    have j := j21 hL hy hs hl h0
    unfold f_X6_areApart_L2
    rw [show (14 : Int32) = nI 14 from rfl, if_neg (nnle hl)]
    simp only [nI_bit0 (show s < 2 ^ 31 by omega) (show l < 32 by omega)]
    cases z : s.testBit l
    · rw [if_pos rfl]
      rw [z, if_neg (by simp)] at j
      exact j
    · rw [if_neg (by simp)]
      rw [z, if_pos rfl] at j
      exact j
  · unfold f_X6_areApart_L2
    rw [show (14 : Int32) = nI 14 from rfl, if_pos (Int32.le_refl _)]
