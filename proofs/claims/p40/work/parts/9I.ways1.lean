/-! ways: who is on what, as lists -/
def rws {α : Type} (F : Nat → Nat → List α) (p : Nat) : Nat → List α
  | 0 => []
  | k + 1 => rws F p k ++ F p (p + 1 + k)
def als {α : Type} (F : Nat → Nat → List α) (N : Nat) : Nat → List α
  | 0 => []
  | p + 1 => als F N p ++ rws F p (N - (p + 1))
theorem rws_s {α : Type} {F : Nat → Nat → List α} {p k : Nat} : rws F p (k + 1) = rws F p k ++ F p (p + 1 + k) := rfl
theorem als_s {α : Type} {F : Nat → Nat → List α} {N p : Nat} : als F N (p + 1) = als F N p ++ rws F p (N - (p + 1)) := rfl
theorem rws_mem {α : Type} {F : Nat → Nat → List α} {p : Nat} {x : α} : ∀ k, x ∈ rws F p k ↔ ∃ j, j < k ∧ x ∈ F p (p + 1 + j)
  | 0 => ⟨(fun h => by cases h), (fun ⟨j, h, _⟩ => by omega)⟩
  | k + 1 => by
    rw [rws_s, List.mem_append, rws_mem k]
    constructor
    · rintro (⟨j, h1, h2⟩ | h)
      · exact ⟨j, by omega, h2⟩
      · exact ⟨k, by omega, h⟩
    · rintro ⟨j, h1, h2⟩
      by_cases z : j = k
      · subst z; exact Or.inr h2
      · exact Or.inl ⟨j, by omega, h2⟩
theorem als_mem {α : Type} {F : Nat → Nat → List α} {N : Nat} {x : α} : ∀ m, x ∈ als F N m ↔ ∃ p q, p < m ∧ p < q ∧ q < N ∧ x ∈ F p q
  | 0 => ⟨(fun h => by cases h), (fun ⟨p, q, h, _⟩ => by omega)⟩
  | m + 1 => by
    rw [als_s, List.mem_append, als_mem m, rws_mem]
    constructor
    · rintro (⟨p, q, h1, h2, h3, h4⟩ | ⟨j, h1, h2⟩)
      · exact ⟨p, q, by omega, h2, h3, h4⟩
      · exact ⟨m, m + 1 + j, by omega, by omega, by omega, h2⟩
    · rintro ⟨p, q, h1, h2, h3, h4⟩
      by_cases z : p = m
      · subst z
        exact Or.inr ⟨q - (p + 1), by omega, by rw [show p + 1 + (q - (p + 1)) = q by omega]; exact h4⟩
      · exact Or.inl ⟨p, q, by omega, h2, h3, h4⟩
theorem rws_cong {α : Type} {F G : Nat → Nat → List α} {p : Nat} : ∀ k, (∀ j, j < k → F p (p + 1 + j) = G p (p + 1 + j)) → rws F p k = rws G p k
  | 0, _ => rfl
  | k + 1, h => by rw [rws_s, rws_s, rws_cong k (fun j hj => h j (by omega)), h k (by omega)]
theorem als_cong {α : Type} {F G : Nat → Nat → List α} {N : Nat} (h : ∀ p q, p < q → q < N → F p q = G p q) : ∀ m, als F N m = als G N m
  | 0 => rfl
  | m + 1 => by rw [als_s, als_s, als_cong h m, rws_cong _ (fun j hj => h m _ (by omega) (by omega))]
theorem rws_filter {α : Type} {F : Nat → Nat → List α} {p : Nat} {f : α → Bool} : ∀ k, (rws F p k).filter f = rws (fun p q => (F p q).filter f) p k
  | 0 => rfl
  | k + 1 => by rw [rws_s, rws_s, List.filter_append, rws_filter k]
theorem als_filter {α : Type} {F : Nat → Nat → List α} {N : Nat} {f : α → Bool} : ∀ m, (als F N m).filter f = als (fun p q => (F p q).filter f) N m
  | 0 => rfl
  | m + 1 => by rw [als_s, als_s, List.filter_append, als_filter m, rws_filter]
def tw (p q : Nat) : Nat := 2 ^ p ||| 2 ^ q
def wyl (N : Nat) (c : Nat → Nat → Nat → Bool) (g : Nat) : Nat → Nat → Nat → (Nat → Nat) → List (Nat → Nat)
  | 0, _, _, f => [f]
  | e + 1, k, t, f => if g.testBit k = true then als (fun p q => if (decide (t &&& tw p q = 0) && c k p q) = true then wyl N c g e (k + 1) (t ||| tw p q) (fun i => if i = k then tw p q else f i) else []) N N else wyl N c g e (k + 1) t f
theorem wyl_s {N : Nat} {c : Nat → Nat → Nat → Bool} {g e k t : Nat} {f : Nat → Nat} : wyl N c g (e + 1) k t f = if g.testBit k = true then als (fun p q => if (decide (t &&& tw p q = 0) && c k p q) = true then wyl N c g e (k + 1) (t ||| tw p q) (fun i => if i = k then tw p q else f i) else []) N N else wyl N c g e (k + 1) t f := rfl
/-- what has been read stays -/
theorem wyl_low {N : Nat} {c : Nat → Nat → Nat → Bool} {g l : Nat} : ∀ e k t f x, l < k → x ∈ wyl N c g e k t f → x l = f l
  | 0, k, t, f, x, _, hx => by
    have : x = f := List.mem_singleton.mp hx
    rw [this]
  | e + 1, k, t, f, x, hl, hx => by
    rw [wyl_s] at hx
    by_cases q : g.testBit k = true
    · rw [if_pos q, als_mem] at hx
      obtain ⟨p, r, -, -, -, h⟩ := hx
      by_cases z : (decide (t &&& tw p r = 0) && c k p r) = true
      · rw [if_pos z] at h
        rw [wyl_low e (k + 1) _ _ x (by omega) h, if_neg (by omega)]
      · rw [if_neg z] at h
        cases h
    · rw [if_neg q] at hx
      exact wyl_low e (k + 1) t f x (by omega) hx
def alr (c : Nat → Nat → Nat → Bool) (l : Nat) (f : Nat → Bool) : Nat → Nat → Nat → Bool := fun k p q => c k p q && (!(decide (k = l)) || f (tw p q))
/-- a bound of one lock asks nothing of others -/
theorem wyl_free {N : Nat} {c : Nat → Nat → Nat → Bool} {g l : Nat} {f : Nat → Bool} : ∀ e k t h, (l < k ∨ g.testBit l = false) → wyl N (alr c l f) g e k t h = wyl N c g e k t h
  | 0, k, t, h, _ => rfl
  | e + 1, k, t, h, hl => by
    have ih := fun t h => wyl_free (N := N) (c := c) (g := g) (l := l) (f := f) e (k + 1) t h (by
      rcases hl with z | z
      · exact Or.inl (by omega)
      · exact Or.inr z)
    rw [wyl_s, wyl_s]
    by_cases q : g.testBit k = true
    · rw [if_pos q, if_pos q]
      refine als_cong (fun p r _ _ => ?_) N
      have ne : k ≠ l := fun z => by
        rcases hl with y | y
        · omega
        · rw [← z, q] at y; cases y
      have e1 : alr c l f k p r = c k p r := by
        unfold alr
        rw [decide_eq_false ne]
        simp
      rw [e1, ih]
    · rw [if_neg q, if_neg q, ih]
/-- a bound of one lock picks among all -/
theorem wyl_pick {N : Nat} {c : Nat → Nat → Nat → Bool} {g l : Nat} {f : Nat → Bool} (hg : g.testBit l = true) : ∀ e k t h, k ≤ l → l < k + e → wyl N (alr c l f) g e k t h = (wyl N c g e k t h).filter (fun x => f (x l))
  | 0, k, t, h, h1, h2 => by omega
  | e + 1, k, t, h, h1, h2 => by
    rw [wyl_s, wyl_s]
    by_cases z : k = l
    · subst z
      rw [if_pos hg, if_pos hg, als_filter]
      refine als_cong (fun p r _ _ => ?_) N
      unfold alr
      rw [decide_eq_true rfl, Bool.not_true, Bool.false_or]
      by_cases q1 : (decide (t &&& tw p r = 0) && c k p r) = true
      · rw [if_pos q1, ← Bool.and_assoc, q1, Bool.true_and]
        have lw := fun x => wyl_low (N := N) (c := c) (g := g) (l := k) e (k + 1) (t ||| tw p r) (fun i => if i = k then tw p r else h i) x (by omega)
        have fr := wyl_free (N := N) (c := c) (g := g) (l := k) (f := f) e (k + 1) (t ||| tw p r) (fun i => if i = k then tw p r else h i) (Or.inl (by omega))
        unfold alr at fr
        rw [fr]
        by_cases q2 : f (tw p r) = true
        · rw [if_pos q2]
          refine (List.filter_eq_self.mpr (fun x hx => ?_)).symm
          rw [lw x hx, if_pos rfl]
          exact q2
        · rw [if_neg q2]
          refine (List.filter_eq_nil_iff.mpr (fun x hx => ?_)).symm
          rw [lw x hx, if_pos rfl]
          exact q2
      · rw [if_neg q1, ← Bool.and_assoc, if_neg (fun y => q1 (by rw [Bool.and_eq_true] at y; exact y.1))]
        rfl
    · by_cases q : g.testBit k = true
      · rw [if_pos q, if_pos q, als_filter]
        refine als_cong (fun p r _ _ => ?_) N
        have e1 : alr c l f k p r = c k p r := by
          unfold alr
          rw [decide_eq_false z]
          simp
        rw [e1, wyl_pick hg e (k + 1) _ _ (by omega) (by omega)]
        by_cases q1 : (decide (t &&& tw p r = 0) && c k p r) = true
        · rw [if_pos q1, if_pos q1]
        · rw [if_neg q1, if_neg q1]
          rfl
      · rw [if_neg q, if_neg q]
        exact wyl_pick hg e (k + 1) t h (by omega) (by omega)
/-- the bits from one on -/
def hi (g k : Nat) : Nat := ndn g (2 ^ k - 1)
theorem hi_bit {g k i : Nat} (hg : g < 2 ^ 14) : (hi g k).testBit i = (g.testBit i && decide (k ≤ i)) := by
  unfold hi
  rw [ndn_bit (by omega), Nat.testBit_two_pow_sub_one]
  by_cases q : k ≤ i
  · rw [decide_eq_true q, decide_eq_false (show ¬ i < k by omega)]
    rfl
  · rw [decide_eq_false q, decide_eq_true (show i < k by omega)]
    rfl
theorem hi_lt {g k : Nat} (hg : g < 2 ^ 14) : hi g k < 2 ^ 14 := ndn_lt hg
theorem hi_0 {g : Nat} (hg : g < 2 ^ 14) : hi g 0 = g := Nat.eq_of_testBit_eq (fun i => by
  rw [hi_bit hg, decide_eq_true (Nat.zero_le _), Bool.and_true])
theorem hi_14 {g : Nat} (hg : g < 2 ^ 14) : hi g 14 = 0 := z_bits.mpr (fun i => by
  rw [hi_bit hg]
  cases q : g.testBit i
  · rfl
  · have := bit_lt hg q
    rw [decide_eq_false (by omega)]
    rfl)
theorem hi_f {g k : Nat} (hg : g < 2 ^ 14) (h : g.testBit k = false) : hi g k = hi g (k + 1) := Nat.eq_of_testBit_eq (fun i => by
  rw [hi_bit hg, hi_bit hg]
  by_cases z : i = k
  · subst z; rw [h]; rfl
  · congr 1
    exact decide_eq_decide.mpr (by omega))
theorem hi_t {g k : Nat} (hg : g < 2 ^ 14) (h : g.testBit k = true) : hi g k = 2 ^ k ||| hi g (k + 1) := Nat.eq_of_testBit_eq (fun i => by
  rw [Nat.testBit_or, hi_bit hg, hi_bit hg, Nat.testBit_two_pow]
  by_cases z : i = k
  · subst z
    rw [h]
    simp
  · rw [decide_eq_false (show ¬ k = i from fun y => z y.symm), Bool.false_or]
    congr 1
    exact decide_eq_decide.mpr (by omega))
theorem hi_pc {g k : Nat} (hg : g < 2 ^ 14) (h : g.testBit k = true) : pc14 (hi g k) = pc14 (hi g (k + 1)) + 1 := by
  rw [hi_t hg h, pc_disj (fun i hi => by
    rw [Nat.testBit_two_pow] at hi
    have := of_decide_eq_true hi
    rw [hi_bit hg, decide_eq_false (by omega), Bool.and_false]), pc_pow k (bit_lt hg h)]
  omega
theorem tw_bit {p q i : Nat} : (tw p q).testBit i = (decide (p = i) || decide (q = i)) := by
  unfold tw
  rw [Nat.testBit_or, Nat.testBit_two_pow, Nat.testBit_two_pow]
theorem tw_pc {p q : Nat} (h : p < q) (hq : q < 14) : pc14 (tw p q) = 2 := by
  unfold tw
  rw [pc_disj (fun i hi => by
    rw [Nat.testBit_two_pow] at hi ⊢
    have := of_decide_eq_true hi
    exact decide_eq_false (by omega)), pc_pow p (by omega), pc_pow q hq]
theorem tw_lt {p q N : Nat} (h : p < q) (hq : q < N) : tw p q < 2 ^ N := Nat.or_lt_two_pow (Nat.pow_lt_pow_right (by omega) (by omega)) (Nat.pow_lt_pow_right (by omega) hq)
theorem pcN : ∀ N, N ≤ 8 → pc14 (2 ^ N - 1) = N := by decide
theorem pc_ltN {t N : Nat} (hN : N ≤ 8) (ht : t < 2 ^ N) : pc14 t ≤ N := by
  have : pc14 t ≤ pc14 (2 ^ N - 1) := pc_mono (fun i hi => by
    rw [Nat.testBit_two_pow_sub_one]
    exact decide_eq_true (bit_lt ht hi))
  rw [pcN N hN] at this
  exact this
/-- enough people are free -/
theorem wyl_room {N : Nat} {c : Nat → Nat → Nat → Bool} {g : Nat} (hN : N ≤ 8) (hg : g < 2 ^ 14) : ∀ e k t f x, k + e = 14 → t < 2 ^ N → x ∈ wyl N c g e k t f → pc14 t + 2 * pc14 (hi g k) ≤ N
  | 0, k, t, f, x, hk, ht, _ => by
    have : k = 14 := by omega
    subst this
    have := pc_ltN hN ht
    rw [hi_14 hg, show pc14 0 = 0 from by decide]
    omega
  | e + 1, k, t, f, x, hk, ht, hx => by
    rw [wyl_s] at hx
    by_cases q : g.testBit k = true
    · rw [if_pos q, als_mem] at hx
      obtain ⟨p, r, -, h1, h2, h⟩ := hx
      by_cases z : (decide (t &&& tw p r = 0) && c k p r) = true
      · rw [if_pos z] at h
        rw [Bool.and_eq_true, decide_eq_true_eq] at z
        have l := tw_lt h1 h2
        have ih := wyl_room hN hg e (k + 1) _ _ x (by omega) (Nat.or_lt_two_pow ht l) h
        rw [pc_disj (fun i hi => by
          have := z_bits.mp z.1 i
          rw [Nat.testBit_and, hi, Bool.true_and] at this
          exact this), tw_pc h1 (by omega)] at ih
        rw [hi_pc hg q]
        omega
      · rw [if_neg z] at h
        cases h
    · rw [if_neg q] at hx
      rw [hi_f hg (by simpa using q)]
      exact wyl_room hN hg e (k + 1) t f x (by omega) ht hx
/-- how many at most -/
theorem rws_len {α : Type} {F : Nat → Nat → List α} {B p : Nat} (h : ∀ q, (F p q).length ≤ B) : ∀ k, (rws F p k).length ≤ B * k
  | 0 => Nat.zero_le _
  | k + 1 => by
    have ih := rws_len h k
    have := h (p + 1 + k)
    rw [rws_s, List.length_append, Nat.mul_succ]
    omega
def tri (N : Nat) : Nat → Nat
  | 0 => 0
  | p + 1 => tri N p + (N - (p + 1))
theorem tri_28 : ∀ N, N ≤ 8 → tri N N ≤ 28 := by decide
theorem als_len {α : Type} {F : Nat → Nat → List α} {B N : Nat} (h : ∀ p q, (F p q).length ≤ B) : ∀ m, (als F N m).length ≤ B * tri N m
  | 0 => Nat.zero_le _
  | m + 1 => by
    have ih := als_len (N := N) h m
    have := rws_len (h m) (N - (m + 1))
    rw [als_s, List.length_append]
    show _ ≤ B * (tri N m + (N - (m + 1)))
    rw [Nat.mul_add]
    omega
theorem wyl_len {N : Nat} {c : Nat → Nat → Nat → Bool} {g : Nat} (hN : N ≤ 8) (hg : g < 2 ^ 14) : ∀ e k t f, k + e = 14 → (wyl N c g e k t f).length ≤ 28 ^ pc14 (hi g k)
  | 0, k, t, f, hk => by
    have : k = 14 := by omega
    subst this
    rw [hi_14 hg, show pc14 0 = 0 from by decide]
    exact Nat.le_refl _
  | e + 1, k, t, f, hk => by
    rw [wyl_s]
    by_cases q : g.testBit k = true
    · rw [if_pos q, hi_pc hg q, Nat.pow_succ]
      refine Nat.le_trans (als_len (B := 28 ^ pc14 (hi g (k + 1))) (fun p r => ?_) N) (Nat.mul_le_mul_left _ (tri_28 N hN))
      split
      · exact wyl_len hN hg e (k + 1) _ _ (by omega)
      · exact Nat.zero_le _
    · rw [if_neg q, hi_f hg (by simpa using q)]
      exact wyl_len hN hg e (k + 1) t f (by omega)
/-! as sums -/
def sumN (f : Nat → Nat) : Nat → Nat
  | 0 => 0
  | n + 1 => sumN f n + f n
theorem sumN_s {f : Nat → Nat} {n : Nat} : sumN f (n + 1) = sumN f n + f n := rfl
theorem sumN_cong {f h : Nat → Nat} : ∀ n, (∀ i, i < n → f i = h i) → sumN f n = sumN h n
  | 0, _ => rfl
  | n + 1, g => by rw [sumN_s, sumN_s, sumN_cong n (fun i hi => g i (by omega)), g n (by omega)]
theorem sumN_zero {f : Nat → Nat} : ∀ n, (∀ i, i < n → f i = 0) → sumN f n = 0
  | 0, _ => rfl
  | n + 1, g => by rw [sumN_s, sumN_zero n (fun i hi => g i (by omega)), g n (by omega)]
theorem sumN_add {f h : Nat → Nat} : ∀ n, sumN (fun i => f i + h i) n = sumN f n + sumN h n
  | 0 => rfl
  | n + 1 => by rw [sumN_s, sumN_s, sumN_s, sumN_add n]; omega
theorem sumN_app {f : Nat → Nat} {a : Nat} : ∀ b, sumN f (a + b) = sumN f a + sumN (fun i => f (a + i)) b
  | 0 => rfl
  | b + 1 => by rw [← Nat.add_assoc, sumN_s, sumN_s, sumN_app b]; omega
theorem sumN_comm {f : Nat → Nat → Nat} {m : Nat} : ∀ n, sumN (fun i => sumN (fun j => f i j) m) n = sumN (fun j => sumN (fun i => f i j) n) m
  | 0 => (sumN_zero m (fun _ _ => rfl)).symm
  | n + 1 => by
    rw [sumN_s, sumN_comm n, ← sumN_add]
    exact sumN_cong m (fun j _ => rfl)
theorem sumN_mul {f : Nat → Nat} {a : Nat} : ∀ n, sumN (fun i => a * f i) n = a * sumN f n
  | 0 => rfl
  | n + 1 => by rw [sumN_s, sumN_s, sumN_mul n, Nat.mul_add]
theorem sumN_8 {f : Nat → Nat → Nat} : ∀ m, sumN (fun j => f (j / 8) (j % 8)) (8 * m) = sumN (fun p => sumN (fun q => f p q) 8) m
  | 0 => rfl
  | m + 1 => by
    rw [Nat.mul_succ, sumN_app, sumN_8 m, sumN_s]
    congr 1
    refine sumN_cong 8 (fun i hi => ?_)
    rw [show (8 * m + i) / 8 = m by omega, show (8 * m + i) % 8 = i by omega]
theorem rws_sum {α : Type} {F : Nat → Nat → List α} {p : Nat} : ∀ k, (rws F p k).length = sumN (fun i => (F p (p + 1 + i)).length) k
  | 0 => rfl
  | k + 1 => by rw [rws_s, List.length_append, rws_sum k, sumN_s]
theorem als_sum {α : Type} {F : Nat → Nat → List α} {N : Nat} : ∀ m, (als F N m).length = sumN (fun p => sumN (fun i => (F p (p + 1 + i)).length) (N - (p + 1))) m
  | 0 => rfl
  | m + 1 => by rw [als_s, List.length_append, als_sum m, rws_sum, sumN_s]
theorem row_sum {f : Nat → Nat} {p N : Nat} (hN : N ≤ 8) : sumN (fun q => if p < q ∧ q < N then f q else 0) 8 = sumN (fun i => f (p + 1 + i)) (N - (p + 1)) := by
  by_cases h : p + 1 ≤ N
  · have e : 8 = (p + 1) + ((N - (p + 1)) + (8 - N)) := by omega
    rw [e, sumN_app (a := p + 1) (N - (p + 1) + (8 - N)), sumN_app (a := N - (p + 1)) (8 - N), sumN_zero (p + 1) (fun i hi => if_neg (by omega)), sumN_zero (8 - N) (fun i hi => if_neg (by omega)), Nat.zero_add, Nat.add_zero]
    exact sumN_cong _ (fun i hi => if_pos ⟨by omega, by omega⟩)
  · rw [show N - (p + 1) = 0 by omega, sumN_zero 8 (fun i hi => if_neg (by omega))]
    rfl
theorem als_64 {α : Type} {F : Nat → Nat → List α} {N : Nat} (hN : N ≤ 8) : (als F N N).length = sumN (fun j => if j / 8 < j % 8 ∧ j % 8 < N then (F (j / 8) (j % 8)).length else 0) 64 := by
  have e := sumN_8 (f := fun p q => if p < q ∧ q < N then (F p q).length else 0) 8
  rw [show 8 * 8 = 64 from rfl] at e
  rw [e, als_sum, show 8 = N + (8 - N) by omega, sumN_app, ← show 8 = N + (8 - N) by omega, sumN_zero (8 - N) (fun i hi => sumN_zero 8 (fun q hq => if_neg (by omega))), Nat.add_zero]
  exact sumN_cong N (fun p hp => (row_sum (f := fun q => (F p q).length) (p := p) hN).symm)
