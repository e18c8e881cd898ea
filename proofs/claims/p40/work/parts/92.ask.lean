/-! questions -/
def ans (R : ST) (q l : Nat) : Bool := if q < 6 then decide (R 7 l ≤ q) else if q < 26 then decide (R 6 l ≤ q - 6) else if q = 26 then decide (R 5 l = 0) else decide (R 9 l = 0)
def ybn (R : ST) (q : Nat) : Nat → Nat
  | 0 => 0
  | l + 1 => if ans R q l = true then ybn R q l ||| 2 ^ l else ybn R q l
def yb (R : ST) (q : Nat) : Nat := ybn R q (R 0 1)
theorem ybn_lt {R : ST} {q : Nat} : ∀ l, ybn R q l < 2 ^ l
  | 0 => by
    show (0 : Nat) < 1
    omega
  | l + 1 => by
    have := ybn_lt (R := R) (q := q) l
    unfold ybn
    have p : 2 ^ (l + 1) = 2 * 2 ^ l := by rw [Nat.pow_succ]; omega
    split
    · exact or_pow_lt (by omega) (by omega)
    · omega
theorem yb_lt {R : ST} (hL : R 0 1 ≤ 14) (q : Nat) : yb R q < 2 ^ 14 := by
  have := ybn_lt (R := R) (q := q) (R 0 1)
  have := pw14 hL
  unfold yb
  omega
theorem ybn_s {R : ST} {q l : Nat} : ybn R q (l + 1) = if ans R q l = true then ybn R q l ||| 2 ^ l else ybn R q l := rfl
theorem ifn {α : Type} {p : Prop} [Decidable p] {q : Bool} (h : q = true ↔ ¬ p) (x y : α) : (if p then x else y) = if q = true then y else x := by
  by_cases z : p
  · rw [if_pos z, if_neg (fun y => h.mp y z)]
  · rw [if_neg z, if_pos (h.mpr z)]
theorem ify {α : Type} {p : Prop} [Decidable p] {q : Bool} (h : q = true ↔ p) (x y : α) : (if p then x else y) = if q = true then x else y := by
  by_cases z : p
  · rw [if_pos z, if_pos (h.mpr z)]
  · rw [if_neg z, if_neg (fun y => z (h.mp y))]
theorem ans11 {R : ST} {w : ZW} (hI : RailI R) (hC : RailC R w.1) {q l : Nat} (hq : q < 28) (hl : l < R 0 1) : f_X6_answer w (nI q) (nI l) = some (if ans R q l = true then 1 else 0) := by
  have hL := hI.2.1
  obtain ⟨h4, h5, h6, h7, h8, h9, -⟩ := hI.2.2.2.2 l hl
  obtain ⟨c4, c5, c6, c7, c8, c9⟩ := hC.2.2.2.2 l hl
  have hP := hI.1
  unfold f_X6_answer
  rw [z_in_t (show l < 14 by omega) (by omega), nI_clamp (show l < 2 ^ 31 by omega), c5, c6, c7, c9, show (6 : Int32) = nI 6 from rfl, show (26 : Int32) = nI 26 from rfl]
  simp only [if_true]
  rw [ile (by omega) (by omega), ile (by omega) (by omega), ieq (by omega) (by omega)]
  unfold ans
  by_cases q1 : q < 6
  · rw [if_neg (by omega), if_pos q1, ilt (by omega) (by omega), ifn (q := decide (R 7 l ≤ q)) (by rw [decide_eq_true_eq]; omega)]
    split <;> rfl
  · rw [if_pos (by omega), if_neg q1]
    by_cases q2 : q < 26
    · rw [if_neg (by omega), if_pos q2, pk_sub (by omega), ilt (by omega) (by omega), ifn (q := decide (R 6 l ≤ q - 6)) (by rw [decide_eq_true_eq]; omega)]
      split <;> rfl
    · rw [if_pos (by omega), if_neg q2]
      by_cases q3 : q = 26
      · rw [if_pos q3, if_pos q3, ify (q := decide (R 5 l = 0)) (by rw [decide_eq_true_eq, show (0 : Int32) = nI 0 from rfl, nI_inj (by omega) (by omega)])]
        split <;> rfl
      · rw [if_neg q3, if_neg q3, ify (q := decide (R 9 l = 0)) (by
          rw [decide_eq_true_eq]
          constructor
          · intro h; rw [h]; rfl
          · intro h
            rw [← hol_neg (show R 9 l < 2 ^ 31 by omega), h]
            decide)]
        split <;> rfl
theorem ln_in {R : ST} {w : ZW} (hI : RailI R) (hC : RailC R w.1) {q : Nat} (hq : q < 28) (s1 : Int32 × ZW) (hs : s1.1 = nI q) : ∃ r, z_iter (f_X6_learn_L17 s1) z_fuel ((0 : Int32), z_upI w 118 q 0) = some r ∧ (∀ c j, ¬ (c = 118 ∧ j = q) → r.1 c j = w.1 c j) ∧ r.2 = w.2 ∧ r.1 118 q = nI (yb R q) := by
  have hL := hI.2.1
  refine it_inv (fun l (s : Int32 × ZW) => s.1 = nI l ∧ (∀ c j, ¬ (c = 118 ∧ j = q) → s.2.1 c j = w.1 c j) ∧ s.2.2 = w.2 ∧ s.2.1 118 q = nI (ybn R q l)) _ (R 0 1) (fun l s hl hP => ?_) (fun s hP => ?_) (zf (by omega)) ⟨rfl, fun c j h => upc h, rfl, upc_e⟩
  · obtain ⟨p1, p2, p3, p4⟩ := hP
    obtain ⟨x, u⟩ := s
    dsimp only at p1 p2 p3 p4
    subst p1
    left
    have hC' : RailC R u.1 := fr_RC (fun a j z => p2 a j (by unfold cRC at z; omega)) hC
    have cL := hC'.2.1
    refine ⟨(nI (l + 1), z_upI u 118 q (nI (ybn R q (l + 1)))), ?_, rfl, fun c j h => by rw [upc h]; exact p2 c j h, p3, upc_e⟩
    unfold f_X6_learn_L17
    dsimp only
    rw [cL, if_neg (nnle hl), show (14 : Int32) = nI 14 from rfl, if_neg (nnle (show l < 14 by omega)), hs, z_in_t hq (by omega), if_pos rfl, ans11 hI hC' hq hl, Option.bind_some, if10, nI_clamp (show q < 2 ^ 31 by omega), p4, nI_shl1 (show l < 31 by omega), nI_1, nI_or, show (0 : Int32) = nI 0 from rfl, nI_or, Nat.or_zero, ybn_s]
    simp only [z_let, if_true]
    split <;> rfl
  · obtain ⟨p1, p2, p3, p4⟩ := hP
    obtain ⟨x, u⟩ := s
    dsimp only at p1 p2 p3 p4
    subst p1
    have cL := hC.2.1
    refine ⟨u, ?_, p2, p3, p4⟩
    unfold f_X6_learn_L17
    dsimp only
    rw [p2 2 4 (by omega), cL, if_pos (Int32.le_refl _)]
theorem learn11 {R : ST} {w : ZW} (hI : RailI R) (hC : RailC R w.1) : ∃ w', f_X6_learn w = some w' ∧ (∀ c j, c ≠ 118 → w'.1 c j = w.1 c j) ∧ w'.2 = w.2 ∧ ∀ q, q < 28 → w'.1 118 q = nI (yb R q) := by
  have key : ∃ r, z_iter f_X6_learn_L2 z_fuel ((0 : Int32), w) = some r ∧ (∀ c j, c ≠ 118 → r.1 c j = w.1 c j) ∧ r.2 = w.2 ∧ ∀ q, q < 28 → r.1 118 q = nI (yb R q) := by
    refine it_inv (fun k (s : Int32 × ZW) => s.1 = nI k ∧ (∀ c j, c ≠ 118 → s.2.1 c j = w.1 c j) ∧ s.2.2 = w.2 ∧ ∀ q, q < k → s.2.1 118 q = nI (yb R q)) _ 28 (fun k s hk hP => ?_) (fun s hP => ?_) (zf (by omega)) ⟨rfl, fun c j _ => rfl, rfl, fun q hq => by omega⟩
    · obtain ⟨p1, p2, p3, p4⟩ := hP
      obtain ⟨x, u⟩ := s
      dsimp only at p1 p2 p3 p4
      subst p1
      left
      have hC' : RailC R u.1 := fr_RC (fun a j z => p2 a j (by unfold cRC at z; omega)) hC
      obtain ⟨r, e, r1, r2, r3⟩ := ln_in hI hC' hk (nI k, u) rfl
      refine ⟨(nI (k + 1), r), ?_, rfl, fun c j h => (r1 c j (by omega)).trans (p2 c j h), r2.trans p3, fun q hq => ?_⟩
      · unfold f_X6_learn_L2
        dsimp only
        rw [show (28 : Int32) = nI 28 from rfl, if_neg (nnle hk), z_in_t hk (by omega), if_pos rfl, nI_clamp (show k < 2 ^ 31 by omega), zl, e, nI_1]
        rfl
      · by_cases z : q = k
        · subst z; exact r3
        · rw [r1 118 q (by omega)]
          exact p4 q (by omega)
    · obtain ⟨p1, p2, p3, p4⟩ := hP
      obtain ⟨x, u⟩ := s
      dsimp only at p1 p2 p3 p4
      subst p1
      refine ⟨u, ?_, p2, p3, p4⟩
      unfold f_X6_learn_L2
      dsimp only
      rw [show (28 : Int32) = nI 28 from rfl, if_pos (Int32.le_refl _)]
  obtain ⟨r, e, h⟩ := key
  refine ⟨r, ?_, h⟩
  unfold f_X6_learn
  rw [e]
  rfl
def qn (q : Nat) : Nat := if q < 6 then q else q + 4
def wo (R : ST) (n q : Nat) : Nat := if pc14 (n &&& yb R q) < pc14 n - pc14 (n &&& yb R q) then pc14 n - pc14 (n &&& yb R q) else pc14 (n &&& yb R q)
theorem pc_le {b : Nat} : pc14 b ≤ 14 := pcf_le 14 b
theorem pc_and {a b : Nat} : pc14 (a &&& b) ≤ pc14 a := pc_mono (fun i h => by
  rw [Nat.testBit_and, Bool.and_eq_true] at h
  exact h.1)
theorem wo_le {R : ST} {n q : Nat} : wo R n q ≤ 14 := by
  have := pc_le (b := n)
  have := pc_le (b := n &&& yb R q)
  unfold wo
  split <;> omega
theorem and14 {a b : Nat} (h : a < 2 ^ 14) : a &&& b < 2 ^ 14 := Nat.lt_of_le_of_lt Nat.and_le_left h
def bqn (R : ST) (n : Nat) : Nat → Nat
  | 0 => 0
  | k + 1 => if wo R n (k + 1) < wo R n (bqn R n k) then k + 1 else bqn R n k
theorem bqn_s {R : ST} {n k : Nat} : bqn R n (k + 1) = if wo R n (k + 1) < wo R n (bqn R n k) then k + 1 else bqn R n k := rfl
theorem bqn_le {R : ST} {n : Nat} : ∀ k, bqn R n k ≤ k
  | 0 => Nat.le_refl _
  | k + 1 => by
    have := bqn_le (R := R) (n := n) k
    rw [bqn_s]
    split <;> omega
def kq (i : Nat) : Nat := if i ≤ 6 then i else if i ≤ 10 then 6 else i - 4
def aB (R : ST) (n i : Nat) : Int32 := if i = 0 then -4 else nI (qn (bqn R n (kq i - 1)))
def aF (R : ST) (n i : Nat) : Nat := if i = 0 then 100 else wo R n (bqn R n (kq i - 1))
theorem aF_le {R : ST} {n i : Nat} : aF R n i ≤ 100 := by
  unfold aF
  split
  · omega
  · have := wo_le (R := R) (n := n) (q := bqn R n (kq i - 1))
    omega
