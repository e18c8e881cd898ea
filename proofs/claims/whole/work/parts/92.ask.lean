/-! questions -/
def ans (R : ST) (q l : Nat) : Bool := if q < 6 then decide (R 7 l ≤ q) else if q < 26 then decide (R 6 l ≤ q - 6) else if q = 26 then decide (R 5 l = 0) else decide (R 9 l = 0)
def ybn (R : ST) (q : Nat) : Nat → Nat
  | 0 => 0
  | l + 1 => if ans R q l = true then ybn R q l ||| 2 ^ l else ybn R q l
def yb (R : ST) (q : Nat) : Nat := ybn R q (R 0 1)
theorem ybn_lt {R : ST} {q : Nat} : ∀ l, ybn R q l < 2 ^ l
  | 0 => by
    show (0 : Nat) < 1
    omega
  | l + 1 => by
    have := ybn_lt (R := R) (q := q) l
    unfold ybn
    have p : 2 ^ (l + 1) = 2 * 2 ^ l := by rw [Nat.pow_succ]; omega
    split
    · exact or_pow_lt (by omega) (by omega)
    · omega
theorem yb_lt {R : ST} (hL : R 0 1 ≤ 14) (q : Nat) : yb R q < 2 ^ 14 := by
  have := ybn_lt (R := R) (q := q) (R 0 1)
  have := pw14 hL
  unfold yb
  omega
theorem ybn_s {R : ST} {q l : Nat} : ybn R q (l + 1) = if ans R q l = true then ybn R q l ||| 2 ^ l else ybn R q l := rfl
theorem ifn {α : Type} {p : Prop} [Decidable p] {q : Bool} (h : q = true ↔ ¬ p) (x y : α) : (if p then x else y) = if q = true then y else x := by
  by_cases z : p
  · rw [if_pos z, if_neg (fun y => h.mp y z)]
  · rw [if_neg z, if_pos (h.mpr z)]
theorem ify {α : Type} {p : Prop} [Decidable p] {q : Bool} (h : q = true ↔ p) (x y : α) : (if p then x else y) = if q = true then x else y := by
  by_cases z : p
  · rw [if_pos z, if_pos (h.mpr z)]
  · rw [if_neg z, if_neg (fun y => z (h.mp y))]
theorem ans11 {R : ST} {w : ZW} (hI : RailI R) (hC : RailC R w.1) {q l : Nat} (hq : q < 28) (hl : l < R 0 1) : f_X6_answer w (nI q) (nI l) = some (if ans R q l = true then 1 else 0) := by
  have hL := hI.2.1
  obtain ⟨h4, h5, h6, h7, h8, h9, -⟩ := hI.2.2.2.2 l hl
  obtain ⟨c4, c5, c6, c7, c8, c9⟩ := hC.2.2.2.2 l hl
  have hP := hI.1
  unfold f_X6_answer
  rw [z_in_t (show l < 14 by omega) (by omega), nI_clamp (show l < 2 ^ 31 by omega), c5, c6, c7, c9, show (6 : Int32) = nI 6 from rfl, show (26 : Int32) = nI 26 from rfl]
  simp only [if_true]
  rw [ile (by omega) (by omega), ile (by omega) (by omega), ieq (by omega) (by omega)]
  unfold ans
  by_cases q1 : q < 6
  · rw [if_neg (by omega), if_pos q1, ilt (by omega) (by omega), ifn (q := decide (R 7 l ≤ q)) (by rw [decide_eq_true_eq]; omega)]
    split <;> rfl
  · rw [if_pos (by omega), if_neg q1]
    by_cases q2 : q < 26
    · rw [if_neg (by omega), if_pos q2, pk_sub (by omega), ilt (by omega) (by omega), ifn (q := decide (R 6 l ≤ q - 6)) (by rw [decide_eq_true_eq]; omega)]
      split <;> rfl
    · rw [if_pos (by omega), if_neg q2]
      by_cases q3 : q = 26
      · rw [if_pos q3, if_pos q3, ify (q := decide (R 5 l = 0)) (by rw [decide_eq_true_eq, show (0 : Int32) = nI 0 from rfl, nI_inj (by omega) (by omega)])]
        split <;> rfl
      · rw [if_neg q3, if_neg q3, ify (q := decide (R 9 l = 0)) (by
          rw [decide_eq_true_eq]
          constructor
          · intro h; rw [h]; rfl
          · intro h
            rw [← hol_neg (show R 9 l < 2 ^ 31 by omega), h]
            decide)]
        split <;> rfl
theorem ln_in {R : ST} {w : ZW} (hI : RailI R) (hC : RailC R w.1) {q : Nat} (hq : q < 28) (s1 : Int32 × ZW) (hs : s1.1 = nI q) : ∃ r, z_iter (f_X6_learn_L17 s1) z_fuel ((0 : Int32), z_upI w 118 q 0) = some r ∧ (∀ c j, ¬ (c = 118 ∧ j = q) → r.1 c j = w.1 c j) ∧ r.2 = w.2 ∧ r.1 118 q = nI (yb R q) := by
  have hL := hI.2.1
  refine it_inv (fun l (s : Int32 × ZW) => s.1 = nI l ∧ (∀ c j, ¬ (c = 118 ∧ j = q) → s.2.1 c j = w.1 c j) ∧ s.2.2 = w.2 ∧ s.2.1 118 q = nI (ybn R q l)) _ (R 0 1) (fun l s hl hP => ?_) (fun s hP => ?_) (zf (by omega)) ⟨rfl, fun c j h => upc h, rfl, upc_e⟩
  · obtain ⟨p1, p2, p3, p4⟩ := hP
    obtain ⟨x, u⟩ := s
    dsimp only at p1 p2 p3 p4
    subst p1
    left
    have hC' : RailC R u.1 := fr_RC (fun a j z => p2 a j (by unfold cRC at z; omega)) hC
    have cL := hC'.2.1
    refine ⟨(nI (l + 1), z_upI u 118 q (nI (ybn R q (l + 1)))), ?_, rfl, fun c j h => by rw [upc h]; exact p2 c j h, p3, upc_e⟩
    unfold f_X6_learn_L17
    dsimp only
    rw [cL, if_neg (nnle hl), show (14 : Int32) = nI 14 from rfl, if_neg (nnle (show l < 14 by omega)), hs, z_in_t hq (by omega), if_pos rfl, ans11 hI hC' hq hl, Option.bind_some, if10, nI_clamp (show q < 2 ^ 31 by omega), p4, nI_shl1 (show l < 31 by omega), nI_1, nI_or, show (0 : Int32) = nI 0 from rfl, nI_or, Nat.or_zero, ybn_s]
    simp only [z_let, if_true]
    split <;> rfl
  · obtain ⟨p1, p2, p3, p4⟩ := hP
    obtain ⟨x, u⟩ := s
    dsimp only at p1 p2 p3 p4
    subst p1
    have cL := hC.2.1
    refine ⟨u, ?_, p2, p3, p4⟩
    unfold f_X6_learn_L17
    dsimp only
    rw [p2 2 4 (by omega), cL, if_pos (Int32.le_refl _)]
theorem learn11 {R : ST} {w : ZW} (hI : RailI R) (hC : RailC R w.1) : ∃ w', f_X6_learn w = some w' ∧ (∀ c j, c ≠ 118 → w'.1 c j = w.1 c j) ∧ w'.2 = w.2 ∧ ∀ q, q < 28 → w'.1 118 q = nI (yb R q) := by
  have key : ∃ r, z_iter f_X6_learn_L2 z_fuel ((0 : Int32), w) = some r ∧ (∀ c j, c ≠ 118 → r.1 c j = w.1 c j) ∧ r.2 = w.2 ∧ ∀ q, q < 28 → r.1 118 q = nI (yb R q) := by
    refine it_inv (fun k (s : Int32 × ZW) => s.1 = nI k ∧ (∀ c j, c ≠ 118 → s.2.1 c j = w.1 c j) ∧ s.2.2 = w.2 ∧ ∀ q, q < k → s.2.1 118 q = nI (yb R q)) _ 28 (fun k s hk hP => ?_) (fun s hP => ?_) (zf (by omega)) ⟨rfl, fun c j _ => rfl, rfl, fun q hq => by omega⟩
    · obtain ⟨p1, p2, p3, p4⟩ := hP
      obtain ⟨x, u⟩ := s
      dsimp only at p1 p2 p3 p4
      subst p1
      left
      have hC' : RailC R u.1 := fr_RC (fun a j z => p2 a j (by unfold cRC at z; omega)) hC
      obtain ⟨r, e, r1, r2, r3⟩ := ln_in hI hC' hk (nI k, u) rfl
      refine ⟨(nI (k + 1), r), ?_, rfl, fun c j h => (r1 c j (by omega)).trans (p2 c j h), r2.trans p3, fun q hq => ?_⟩
      · unfold f_X6_learn_L2
        dsimp only
        rw [show (28 : Int32) = nI 28 from rfl, if_neg (nnle hk), z_in_t hk (by omega), if_pos rfl, nI_clamp (show k < 2 ^ 31 by omega), zl, e, nI_1]
        rfl
      · by_cases z : q = k
        · subst z; exact r3
        · rw [r1 118 q (by omega)]
          exact p4 q (by omega)
    · obtain ⟨p1, p2, p3, p4⟩ := hP
      obtain ⟨x, u⟩ := s
      dsimp only at p1 p2 p3 p4
      subst p1
      refine ⟨u, ?_, p2, p3, p4⟩
      unfold f_X6_learn_L2
      dsimp only
      rw [show (28 : Int32) = nI 28 from rfl, if_pos (Int32.le_refl _)]
  obtain ⟨r, e, h⟩ := key
  refine ⟨r, ?_, h⟩
  unfold f_X6_learn
  rw [e]
  rfl
def qn (q : Nat) : Nat := if q < 6 then q else q + 4
theorem y106 {x l : Nat} (hl : l < 31) (b : Bool) : f_X12_yes_J106 (nI x) (nI l) (if b = true then 1 else 0) = some (.inl (nI (if b = true then x ||| 2 ^ l else x), nI (l + 1))) := by
  unfold f_X12_yes_J106
  rw [if10, nI_1, nI_shl1 hl, nI_or, show (0 : Int32) = nI 0 from rfl, nI_or, Nat.or_zero]
  cases b <;> rfl
theorem y106a {x l : Nat} (hl : l < 31) : f_X12_yes_J106 (nI x) (nI l) 1 = some (.inl (nI (x ||| 2 ^ l), nI (l + 1))) := y106 hl true
theorem y106b {x l : Nat} (hl : l < 31) : f_X12_yes_J106 (nI x) (nI l) 0 = some (.inl (nI x, nI (l + 1))) := y106 hl false
theorem ys_step {R : ST} {w : ZW} (hI : RailI R) (hM : RailM R w.1) {q l : Nat} (hq : q < 28) (hl : l < R 0 1) : f_X12_yes_L5 w (nI (qn q)) (nI (ybn R q l), nI l) = some (.inl (nI (ybn R q (l + 1)), nI (l + 1))) := by
  have hL := hI.2.1
  obtain ⟨h4, h5, h6, h7, h8, h9, -⟩ := hI.2.2.2.2 l hl
  obtain ⟨c4, c5, c6, c7, c8, c9, -⟩ := hM.2.2.2 l hl
  have hP := hI.1
  rw [ybn_s]
  unfold f_X12_yes_L5
  dsimp only
  rw [hM.2.1, if_neg (nnle hl), z_in_t (show l < 14 by omega) (by omega), nI_clamp (show l < 2 ^ 31 by omega), c5, c6, c7, c9, y106a (by omega), y106b (by omega), show (6 : Int32) = nI 6 from rfl, show (30 : Int32) = nI 30 from rfl]
  simp only [if_true]
  unfold ans qn
  by_cases q1 : q < 6
  · rw [if_pos q1, if_pos q1, ile (by omega) (by omega), if_neg (by omega), ilt (by omega) (by omega), ifn (q := decide (R 7 l ≤ q)) (by rw [decide_eq_true_eq]; omega)]
    split <;> rfl
  · rw [if_neg q1, if_neg q1, ile (by omega) (by omega), if_pos (by omega), ile (by omega) (by omega)]
    by_cases q2 : q < 26
    · rw [if_neg (by omega), if_pos q2, show (10 : Int32) = nI 10 from rfl, pk_sub (by omega), ilt (by omega) (by omega), ifn (q := decide (R 6 l ≤ q - 6)) (by rw [decide_eq_true_eq]; omega)]
      split <;> rfl
    · rw [if_pos (by omega), if_neg q2, ieq (by omega) (by omega)]
      by_cases q3 : q = 26
      · rw [if_pos (by omega), if_pos q3, ify (q := decide (R 5 l = 0)) (by rw [decide_eq_true_eq, show (0 : Int32) = nI 0 from rfl, nI_inj (by omega) (by omega)])]
        split <;> rfl
      · rw [if_neg (by omega), if_neg q3, ifn (q := decide (R 9 l = 0)) (by
          rw [decide_eq_true_eq, ← lt_nle]
          exact (hol_neg (by omega)).symm)]
        split <;> rfl
theorem yes12 {R : ST} {w : ZW} (hI : RailI R) (hM : RailM R w.1) {q n : Nat} (hq : q < 28) : f_X12_yes w (nI n) (nI (qn q)) = some (nI (n &&& yb R q)) := by
  have hL := hI.2.1
  unfold f_X12_yes
  rw [show ((0 : Int32), (0 : Int32)) = (nI (ybn R q 0), nI 0) from rfl, it_count (fun l => (nI (ybn R q l), nI l)) (R 0 1) (nI (yb R q)) (fun l hl => ys_step hI hM hq hl) ?_ (zf (by omega)), Option.bind_some, nI_and]
  unfold f_X12_yes_L5
  dsimp only
  rw [hM.2.1, if_pos (Int32.le_refl _)]
  rfl
def wo (R : ST) (n q : Nat) : Nat := if pc14 (n &&& yb R q) < pc14 n - pc14 (n &&& yb R q) then pc14 n - pc14 (n &&& yb R q) else pc14 (n &&& yb R q)
theorem pc_le {b : Nat} : pc14 b ≤ 14 := pcf_le 14 b
theorem pc_and {a b : Nat} : pc14 (a &&& b) ≤ pc14 a := pc_mono (fun i h => by
  rw [Nat.testBit_and, Bool.and_eq_true] at h
  exact h.1)
theorem wo_le {R : ST} {n q : Nat} : wo R n q ≤ 14 := by
  have := pc_le (b := n)
  have := pc_le (b := n &&& yb R q)
  unfold wo
  split <;> omega
theorem and14 {a b : Nat} (h : a < 2 ^ 14) : a &&& b < 2 ^ 14 := Nat.lt_of_le_of_lt Nat.and_le_left h
theorem worst11 {R : ST} {w : ZW} (hy : ∀ q, q < 28 → w.1 118 q = nI (yb R q)) {n q : Nat} (hn : n < 2 ^ 14) (hq : q < 28) : f_X6_leftAtWorst w (nI n) (nI q) = some (nI (wo R n q)) := by
  have := pc_le (b := n)
  have := pc_le (b := n &&& yb R q)
  unfold f_X6_leftAtWorst
  rw [z_in_t hq (by omega), if_pos rfl, nI_clamp (show q < 2 ^ 31 by omega), hy q hq, nI_and, bitCount_eq (and14 hn), Option.bind_some, bitCount_eq hn, Option.bind_some, pk_sub pc_and, ilt (by omega) (by omega)]
  unfold wo
  split <;> rfl
def bqn (R : ST) (n : Nat) : Nat → Nat
  | 0 => 0
  | k + 1 => if wo R n (k + 1) < wo R n (bqn R n k) then k + 1 else bqn R n k
theorem bqn_s {R : ST} {n k : Nat} : bqn R n (k + 1) = if wo R n (k + 1) < wo R n (bqn R n k) then k + 1 else bqn R n k := rfl
theorem bqn_le {R : ST} {n : Nat} : ∀ k, bqn R n k ≤ k
  | 0 => Nat.le_refl _
  | k + 1 => by
    have := bqn_le (R := R) (n := n) k
    rw [bqn_s]
    split <;> omega
theorem best11 {R : ST} {w : ZW} (hy : ∀ q, q < 28 → w.1 118 q = nI (yb R q)) {n k0 : Nat} (hn : n < 2 ^ 14) (hk : k0 = 27) : f_X6_bestQuestion w (nI n) = some (nI (bqn R n k0)) := by
  unfold f_X6_bestQuestion
  rw [it_at (s0 := ((0 : Int32), (1 : Int32))) (fun i => (nI (bqn R n (i - 1)), nI i)) 1 (k0 + 1) (nI (bqn R n k0)) rfl (by omega) ?_ ?_ (zf (by omega))]
  · rfl
  · intro i h1 h2
    obtain ⟨k, rfl⟩ : ∃ k, i = k + 1 := ⟨i - 1, by omega⟩
    have b := bqn_le (R := R) (n := n) k
    have w1 := wo_le (R := R) (n := n) (q := k + 1)
    have w2 := wo_le (R := R) (n := n) (q := bqn R n k)
    rw [Nat.add_sub_cancel, Nat.add_sub_cancel, bqn_s]
    unfold f_X6_bestQuestion_L4
    dsimp only
    rw [show (28 : Int32) = nI 28 from rfl, if_neg (nnle (by omega)), worst11 hy hn (by omega), Option.bind_some, worst11 hy hn (by omega), Option.bind_some, ile (by omega) (by omega), nI_1]
    by_cases z : wo R n (bqn R n k) ≤ wo R n (k + 1)
    · rw [if_pos z, if_neg (by omega)]
    · rw [if_neg z, if_pos (by omega)]
  · unfold f_X6_bestQuestion_L4
    dsimp only
    rw [show (28 : Int32) = nI 28 from rfl, if_pos (nle (by omega)), Nat.add_sub_cancel]
theorem num11 : ∀ q, q < 28 → f_X6_numberOf (nI q) = some (nI (qn q)) := by decide +kernel
/-! ask: the model's loop -/
theorem j86 {x : Int32} {f i v : Nat} (hf : f < 2 ^ 31) (hv : v < 2 ^ 31) : f_X12_ask_J86 x (nI f) (nI i) (nI v) = some (.inl (if v < f then nI i else x, nI (if v < f then v else f), nI (i + 1))) := by
  unfold f_X12_ask_J86 f_X12_ask_J101
  rw [nI_1]
  by_cases z : f ≤ v
  · have y := (nI_leI hf hv).mpr z
    rw [if_pos y, if_pos y, if_neg (by omega), if_neg (by omega)]
  · have y : ¬ nI f ≤ nI v := fun q => z ((nI_leI hf hv).mp q)
    rw [if_neg y, if_neg y, if_pos (by omega), if_pos (by omega)]
def kq (i : Nat) : Nat := if i ≤ 6 then i else if i ≤ 10 then 6 else i - 4
def aB (R : ST) (n i : Nat) : Int32 := if i = 0 then -4 else nI (qn (bqn R n (kq i - 1)))
def aF (R : ST) (n i : Nat) : Nat := if i = 0 then 100 else wo R n (bqn R n (kq i - 1))
theorem aF_le {R : ST} {n i : Nat} : aF R n i ≤ 100 := by
  unfold aF
  split
  · omega
  · have := wo_le (R := R) (n := n) (q := bqn R n (kq i - 1))
    omega
theorem j51 {R : ST} {w : ZW} (hI : RailI R) (hM : RailM R w.1) {n i : Nat} (hn : n < 2 ^ 14) (hi : i < 32) (h : i < 6 ∨ 9 < i) : f_X12_ask_J51 w (nI n) (aB R n i) (nI (aF R n i)) (nI i) = some (.inl (aB R n (i + 1), nI (aF R n (i + 1)), nI (i + 1))) := by
  have e : i = qn (kq i) := by unfold qn kq; split <;> split <;> (try split) <;> omega
  have hk : kq i < 28 := by unfold kq; split <;> (try split) <;> omega
  have e1 : kq (i + 1) = kq i + 1 := by unfold kq; split <;> split <;> (try split) <;> (try split) <;> omega
  have p1 := pc_le (b := n)
  have p2 := pc_le (b := n &&& yb R (kq i))
  have w1 := wo_le (R := R) (n := n) (q := kq i)
  have af := aF_le (R := R) (n := n) (i := i)
  have hv : f_X12_ask_J51 w (nI n) (aB R n i) (nI (aF R n i)) (nI i) = f_X12_ask_J86 (aB R n i) (nI (aF R n i)) (nI i) (nI (wo R n (kq i))) := by
    unfold f_X12_ask_J51
    have y := yes12 (w := w) (n := n) hI hM hk
    rw [← e] at y
    rw [y, Option.bind_some, size_eq (and14 hn), Option.bind_some, size_eq hn, Option.bind_some, pk_sub pc_and, ile (by omega) (by omega)]
    unfold wo
    by_cases z : pc14 (n &&& yb R (kq i)) < pc14 n - pc14 (n &&& yb R (kq i))
    · rw [if_pos z, if_pos (by omega)]
    · rw [if_neg z]
      by_cases z2 : pc14 (n &&& yb R (kq i)) = pc14 n - pc14 (n &&& yb R (kq i))
      · rw [if_pos (by omega), ← z2]
      · rw [if_neg (by omega)]
  rw [hv, j86 (by omega) (by omega)]
  have eB : (if wo R n (kq i) < aF R n i then nI i else aB R n i) = aB R n (i + 1) := by
    unfold aB aF
    rw [if_neg (Nat.succ_ne_zero _), e1, Nat.add_sub_cancel]
    by_cases z : i = 0
    · subst z
      rw [if_pos rfl, if_pos (by omega)]
      rfl
    · rw [if_neg z, if_neg z]
      obtain ⟨k, hk2⟩ : ∃ k, kq i = k + 1 := ⟨kq i - 1, by unfold kq; split <;> (try split) <;> omega⟩
      rw [hk2, Nat.add_sub_cancel, bqn_s]
      by_cases y : wo R n (k + 1) < wo R n (bqn R n k)
      · rw [if_pos y, if_pos y, ← hk2, ← e]
      · rw [if_neg y, if_neg y]
  have eF : (if wo R n (kq i) < aF R n i then wo R n (kq i) else aF R n i) = aF R n (i + 1) := by
    unfold aF
    rw [if_neg (Nat.succ_ne_zero _), e1, Nat.add_sub_cancel]
    by_cases z : i = 0
    · subst z
      rw [if_pos rfl, if_pos (by omega)]
      rfl
    · rw [if_neg z]
      obtain ⟨k, hk2⟩ : ∃ k, kq i = k + 1 := ⟨kq i - 1, by unfold kq; split <;> (try split) <;> omega⟩
      rw [hk2, Nat.add_sub_cancel, bqn_s]
      by_cases y : wo R n (k + 1) < wo R n (bqn R n k)
      · rw [if_pos y, if_pos y]
      · rw [if_neg y, if_neg y]
  rw [eB, eF]
theorem ask_lp {R : ST} {w : ZW} (hI : RailI R) (hM : RailM R w.1) {n i0 : Nat} (hn : n < 2 ^ 14) (h0 : i0 = 32) : z_iter (f_X12_ask_L30 w (nI n)) z_fuel ((-4 : Int32), (100 : Int32), (0 : Int32)) = some (aB R n i0, nI (aF R n i0)) := by
  refine it_count (fun i => (aB R n i, nI (aF R n i), nI i)) i0 _ (fun i hi => ?_) ?_ (zf (by omega))
  · unfold f_X12_ask_L30
    dsimp only
    rw [show (32 : Int32) = nI 32 from rfl, if_neg (nnle (by omega)), show (6 : Int32) = nI 6 from rfl, ilt (by omega) (by omega), show (9 : Int32) = nI 9 from rfl, ile (by omega) (by omega)]
    by_cases z : i < 6
    · rw [if_pos z, j51 hI hM hn (by omega) (Or.inl z)]
    · rw [if_neg z]
      by_cases y : i ≤ 9
      · have e : kq (i + 1) = kq i := by unfold kq; split <;> split <;> (try split) <;> (try split) <;> omega
        rw [if_pos y, nI_1]
        unfold aB aF
        rw [if_neg (show ¬ i = 0 by omega), if_neg (show ¬ i = 0 by omega), if_neg (Nat.succ_ne_zero _), if_neg (Nat.succ_ne_zero _), e]
      · rw [if_neg y, j51 hI hM hn (by omega) (Or.inr (by omega))]
  · unfold f_X12_ask_L30
    dsimp only
    rw [show (32 : Int32) = nI 32 from rfl, if_pos (nle (by omega))]
theorem sim_ask {w : ZW} (h : Rel w) (a b : Int32) : ∃ r w1, f_X11_ask w a b = some (r, w1) ∧ f_X12_ask w1 a b = some r ∧ Rel w1 := by
  have h0 := h
  obtain ⟨A, hA⟩ := h
  obtain ⟨hI, hC, hM, -⟩ := id hA
  by_cases g : sgA (A 0) a = true
  · by_cases g2 : rg 0 1 b = true
    · obtain ⟨n, rfl, n1, n2, n3⟩ := sgA_t hI.1.2.1 g
      have n4 : n < 2 ^ 14 := by have := pw14 hI.1.2.1; omega
      obtain ⟨m, hm, rfl⟩ := rg_0 g2 (by decide)
      obtain ⟨w1, e1, f1, f2, f3⟩ := learn11 hI.1 hC.1
      obtain ⟨k0, hk⟩ : ∃ k0, k0 = 27 := ⟨_, rfl⟩
      have b0 := bqn_le (R := A 0) (n := n) k0
      have hM1 : RailM (A 0) w1.1 := fr_RM (fun a j q => f1 a j (by unfold cRM at q; omega)) hM.1
      refine ⟨if m = 0 then nI (qn (bqn (A 0) n k0)) else nI (wo (A 0) n (bqn (A 0) n k0)), w1, ?_, ?_, A, fr_X (fun a j q => f1 a j (fun z => q (by unfold cX; omega))) (fun a j q => by rw [f2]) hA⟩
      · unfold f_X11_ask
        rw [sought11 hI.1 hC.1, Option.bind_some, if10, if_pos g, within_rg, Option.bind_some, if10, if_pos g2, e1, Option.bind_some, best11 f3 n4 hk, Option.bind_some, num11 _ (by omega), worst11 f3 n4 (by omega)]
        by_cases z : m = 0
        · rw [if_pos (by rw [z]; rfl), if_pos z]
          rfl
        · rw [if_neg (nI_nz z (by omega)), if_neg z]
          rfl
      · unfold f_X12_ask
        rw [sought12 hI.1 hM1, Option.bind_some, if10, if_pos g, in_rg _ _ _ (by decide) (by decide), Option.bind_some, if10, if_pos g2, ask_lp (i0 := k0 + 5) hI.1 hM1 n4 (by omega), Option.bind_some]
        have e2 : kq (k0 + 5) - 1 = k0 := by unfold kq; split <;> (try split) <;> omega
        unfold aB aF
        rw [if_neg (Nat.succ_ne_zero _), if_neg (Nat.succ_ne_zero _), e2]
        by_cases z : m = 0
        · rw [if_pos (by rw [z]; rfl), if_pos z]
        · rw [if_neg (nI_nz z (by omega)), if_neg z]
    · refine ⟨-1, w, ?_, ?_, h0⟩
      · unfold f_X11_ask
        rw [sought11 hI.1 hC.1, Option.bind_some, if10, if_pos g, within_rg, Option.bind_some, if10, if_neg g2]
      · unfold f_X12_ask
        rw [sought12 hI.1 hM.1, Option.bind_some, if10, if_pos g, in_rg _ _ _ (by decide) (by decide), Option.bind_some, if10, if_neg g2]
  · refine ⟨-1, w, ?_, ?_, h0⟩
    · unfold f_X11_ask
      rw [sought11 hI.1 hC.1, Option.bind_some, if10, if_neg g]
    · unfold f_X12_ask
      rw [sought12 hI.1 hM.1, Option.bind_some, if10, if_neg g]
