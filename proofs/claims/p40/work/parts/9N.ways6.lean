/-! ways, who, where: both -/
theorem alw_0 {S : ST} {l wy : Nat} : alw S l 0 wy = cb S := by
  funext k p q
  unfold alw alr
  rw [show uph 0 wy (tw p q) = true from rfl, Bool.or_true, Bool.and_true]
theorem Wb_0 {R S : ST} {l wy : Nat} : Wb R S l 0 wy = prN (fun y => (wys R S y).length) 20 := by
  unfold Wb
  rw [alw_0]
  rfl
def Tw (R S : ST) : Nat := prN (fun y => (wys R S y).length) 20
theorem prN_nz {f : Nat → Nat} : ∀ n, prN f n ≠ 0 ↔ ∀ y, y < n → f y ≠ 0
  | 0 => ⟨(fun _ y hy => by omega), (fun _ => by show (1 : Nat) ≠ 0; omega)⟩
  | n + 1 => by
    rw [prN_s, Nat.mul_ne_zero_iff, prN_nz n]
    constructor
    · rintro ⟨h1, h2⟩ y hy
      by_cases z : y = n
      · subst z; exact h2
      · exact h1 y (by omega)
    · exact fun h => ⟨fun y hy => h y (by omega), h n (by omega)⟩
theorem prN_le {f h : Nat → Nat} : ∀ n, (∀ y, y < n → f y ≤ h y) → prN f n ≤ prN h n
  | 0, _ => Nat.le_refl _
  | n + 1, g => by
    rw [prN_s, prN_s]
    exact Nat.mul_le_mul (prN_le n (fun y hy => g y (by omega))) (g n (by omega))
def gun (R S : ST) : Nat → Nat
  | 0 => 0
  | y + 1 => gun R S y ||| grp R S y
theorem gun_bit {R S : ST} (h : S 0 1 < 2 ^ R 0 1) {l : Nat} : ∀ y, (gun R S y).testBit l = true ↔ (S 0 1).testBit l = true ∧ R 6 l < y
  | 0 => ⟨(fun h => by rw [show gun R S 0 = 0 from rfl, Nat.zero_testBit] at h; cases h), (fun h => by omega)⟩
  | y + 1 => by
    show (gun R S y ||| grp R S y).testBit l = true ↔ _
    rw [Nat.testBit_or, Bool.or_eq_true, gun_bit h y, grp_bit h]
    constructor
    · rintro (⟨h1, h2⟩ | ⟨h1, h2⟩)
      · exact ⟨h1, by omega⟩
      · exact ⟨h1, by omega⟩
    · rintro ⟨h1, h2⟩
      by_cases z : R 6 l = y
      · exact Or.inr ⟨h1, z⟩
      · exact Or.inl ⟨h1, by omega⟩
theorem Tw_lt {R S : ST} (hR : RailI R) (hI : NamesI (R 0 1) S) : Tw R S < 2 ^ 63 := by
  have hL := hR.2.1
  have l14 : S 0 1 < 2 ^ 14 := Nat.lt_of_lt_of_le hI.2.1 (Nat.pow_le_pow_right (by omega) hL)
  have key : ∀ y, prN (fun y => (wys R S y).length) y ≤ 28 ^ pc14 (gun R S y) := by
    intro y
    induction y with
    | zero =>
      show 1 ≤ 28 ^ pc14 0
      rw [show pc14 0 = 0 from by decide]
      exact Nat.le_refl _
    | succ y ih =>
      have b := wyl_len (c := cb S) hI.1 (show grp R S y < 2 ^ 14 from and14 l14) 14 0 0 (fun _ => 0) rfl
      rw [hi_0 (show grp R S y < 2 ^ 14 from and14 l14)] at b
      rw [prN_s, show gun R S (y + 1) = gun R S y ||| grp R S y from rfl, pc_disj (fun i hi => by
        have h1 := ((gun_bit hI.2.1 y).mp hi).2
        cases q : (grp R S y).testBit i
        · rfl
        · have h2 := ((grp_bit hI.2.1).mp q).2
          omega), Nat.pow_add]
      exact Nat.mul_le_mul ih b
  have p12 : pc14 (gun R S 20) ≤ 12 := by
    have : pc14 (gun R S 20) ≤ pc14 (S 0 1) := pc_mono (fun i hi => ((gun_bit hI.2.1 20).mp hi).1)
    have := hI.2.2.1
    omega
  have h1 := key 20
  have h2 : 28 ^ pc14 (gun R S 20) ≤ 28 ^ 12 := Nat.pow_le_pow_right (by omega) p12
  have h3 : 28 ^ 12 < 2 ^ 63 := by decide
  exact Nat.lt_of_le_of_lt h1 (Nat.lt_of_le_of_lt h2 h3)
theorem Wn_alw {R S : ST} (hI : NamesI (R 0 1) S) (hL : R 0 1 ≤ 14) {l pe wy y : Nat} (hl : (S 0 1).testBit l = true) : Wn S (alw S l pe wy) (grp R S y) 14 0 0 = if R 6 l = y then ((wys R S y).filter (fun x => uph pe wy (x l))).length else (wys R S y).length := by
  have hlL := bit_lt hI.2.1 hl
  unfold Wn alw wys
  by_cases q : R 6 l = y
  · rw [if_pos q, wyl_pick ((grp_bit hI.2.1).mpr ⟨hl, q⟩) 14 0 0 _ (Nat.zero_le _) (by omega)]
  · rw [if_neg q, wyl_free 14 0 0 _ (Or.inr (by
      cases z : (grp R S y).testBit l
      · rfl
      · exact absurd ((grp_bit hI.2.1).mp z).2 q))]
theorem Wb_lt {R S : ST} (hR : RailI R) (hI : NamesI (R 0 1) S) {l pe wy : Nat} (hl : (S 0 1).testBit l = true) : Wb R S l pe wy < 2 ^ 63 := by
  refine Nat.lt_of_le_of_lt ?_ (Tw_lt hR hI)
  refine prN_le 20 (fun y _ => ?_)
  rw [Wn_alw hI hR.2.1 hl]
  split
  · exact List.length_filter_le _ _
  · exact Nat.le_refl _
theorem Wb_iff {R S : ST} (hR : RailI R) (hI : NamesI (R 0 1) S) (hT : Tw R S ≠ 0) {l pe wy : Nat} (hl : (S 0 1).testBit l = true) : Wb R S l pe wy ≠ 0 ↔ ∃ x, x ∈ wys R S (R 6 l) ∧ uph pe wy (x l) = true := by
  have hT' := (prN_nz 20).mp hT
  have h6 := (hR.2.2.2.2 l (bit_lt hI.2.1 hl)).2.2.1
  unfold Wb
  rw [prN_nz]
  constructor
  · intro h
    have h1 := h (R 6 l) (by omega)
    rw [Wn_alw hI hR.2.1 hl, if_pos rfl] at h1
    obtain ⟨x, hx⟩ := List.exists_mem_of_length_pos (Nat.pos_of_ne_zero h1)
    rw [List.mem_filter] at hx
    exact ⟨x, hx.1, hx.2⟩
  · rintro ⟨x, hx, hu⟩ y hy
    rw [Wn_alw hI hR.2.1 hl]
    by_cases q : R 6 l = y
    · rw [if_pos q]
      have : x ∈ (wys R S y).filter (fun x => uph pe wy (x l)) := List.mem_filter.mpr ⟨by rw [← q]; exact hx, hu⟩
      have := List.length_pos_of_mem this
      omega
    · rw [if_neg q]
      exact hT' y hy
/-- what the class gathers, bit by bit -/
theorem orf_bit {l i : Nat} : ∀ (xs : List (Nat → Nat)) (o : Nat), (xs.foldl (fun o x => o ||| x l) o).testBit i = true ↔ o.testBit i = true ∨ ∃ x, x ∈ xs ∧ (x l).testBit i = true
  | [], o => ⟨fun h => Or.inl h, fun h => by
    rcases h with h | ⟨x, h, _⟩
    · exact h
    · cases h⟩
  | x :: xs, o => by
    rw [List.foldl_cons, orf_bit xs, Nat.testBit_or, Bool.or_eq_true]
    constructor
    · rintro ((h | h) | ⟨y, h1, h2⟩)
      · exact Or.inl h
      · exact Or.inr ⟨x, List.mem_cons_self .., h⟩
      · exact Or.inr ⟨y, List.mem_cons_of_mem _ h1, h2⟩
    · rintro (h | ⟨y, h1, h2⟩)
      · exact Or.inl (Or.inl h)
      · rcases List.mem_cons.mp h1 with z | z
        · subst z; exact Or.inl (Or.inr h2)
        · exact Or.inr ⟨y, z, h2⟩
theorem anf_bit {l i : Nat} : ∀ (xs : List (Nat → Nat)) (a : Nat), (xs.foldl (fun a x => a &&& x l) a).testBit i = true ↔ a.testBit i = true ∧ ∀ x, x ∈ xs → (x l).testBit i = true
  | [], a => ⟨fun h => ⟨h, fun x hx => by cases hx⟩, fun h => h.1⟩
  | x :: xs, a => by
    rw [List.foldl_cons, anf_bit xs, Nat.testBit_and, Bool.and_eq_true]
    constructor
    · rintro ⟨⟨h1, h2⟩, h3⟩
      refine ⟨h1, fun y hy => ?_⟩
      rcases List.mem_cons.mp hy with z | z
      · subst z; exact h2
      · exact h3 y z
    · rintro ⟨h1, h2⟩
      exact ⟨⟨h1, h2 x (List.mem_cons_self ..)⟩, fun y hy => h2 y (List.mem_cons_of_mem _ hy)⟩
theorem wyl_bits {N : Nat} {c : Nat → Nat → Nat → Bool} {g l : Nat} (hg : g.testBit l = true) : ∀ e k t f x, k ≤ l → l < k + e → x ∈ wyl N c g e k t f → x l < 2 ^ N
  | 0, k, t, f, x, h1, h2, _ => by omega
  | e + 1, k, t, f, x, h1, h2, hx => by
    rw [wyl_s] at hx
    by_cases q : g.testBit k = true
    · rw [if_pos q, als_mem] at hx
      obtain ⟨p, r, -, p1, p2, h⟩ := hx
      by_cases z : (decide (t &&& tw p r = 0) && c k p r) = true
      · rw [if_pos z] at h
        by_cases y : k = l
        · rw [wyl_low e (k + 1) _ _ x (by omega) h, if_pos y.symm]
          exact tw_lt p1 p2
        · exact wyl_bits hg e (k + 1) _ _ x (by omega) (by omega) h
      · rw [if_neg z] at h
        cases h
    · rw [if_neg q] at hx
      by_cases y : k = l
      · subst y; exact absurd hg q
      · exact wyl_bits hg e (k + 1) t f x (by omega) (by omega) hx
def onS (R S : ST) (m l : Nat) : Nat := if m = 0 then (wys R S (R 6 l)).foldl (fun o x => o ||| x l) 0 else (wys R S (R 6 l)).foldl (fun a x => a &&& x l) (2 ^ 32 - 1)
theorem wys_bits {R S : ST} (hI : NamesI (R 0 1) S) (hL : R 0 1 ≤ 14) {l : Nat} (hl : (S 0 1).testBit l = true) {x : Nat → Nat} (hx : x ∈ wys R S (R 6 l)) : x l < 2 ^ S 0 0 :=
  wyl_bits ((grp_bit hI.2.1).mpr ⟨hl, rfl⟩) 14 0 0 _ x (Nat.zero_le _) (by have := bit_lt hI.2.1 hl; omega) hx
theorem onS_lt {R S : ST} (hR : RailI R) (hI : NamesI (R 0 1) S) (hT : Tw R S ≠ 0) {m l : Nat} (hl : (S 0 1).testBit l = true) : onS R S m l < 2 ^ S 0 0 := by
  have h6 := (hR.2.2.2.2 l (bit_lt hI.2.1 hl)).2.2.1
  refine Nat.lt_pow_two_of_testBit _ (fun i hi => ?_)
  cases q : (onS R S m l).testBit i
  · rfl
  · unfold onS at q
    by_cases z : m = 0
    · rw [if_pos z, orf_bit, Nat.zero_testBit] at q
      rcases q with q | ⟨x, h1, h2⟩
      · cases q
      · have := bit_lt (wys_bits hI hR.2.1 hl h1) h2
        omega
    · rw [if_neg z, anf_bit] at q
      obtain ⟨x, hx⟩ := List.exists_mem_of_length_pos (Nat.pos_of_ne_zero ((prN_nz 20).mp hT (R 6 l) (by omega)))
      have := bit_lt (wys_bits hI hR.2.1 hl hx) (q.2 x hx)
      omega
theorem lc0 {P : Nat} (h : P < 2 ^ 63) : lg_cmp (lN P) (0 : Int64) = 0 ↔ P = 0 := by
  rw [lg_cmp_eq, ← Int64.toInt_inj, pk_lT h, show (0 : Int64).toInt = 0 from rfl]
  omega
theorem lc1 {P : Nat} (h : P < 2 ^ 63) : lg_cmp (lN P) (0 : Int64) ≤ 0 ↔ P = 0 := by
  rw [← Int32.not_lt, lg_cmp_gt, show (0 : Int64) = lN 0 from rfl, pk_lLT (by omega) h]
  omega
def bst (f : Nat → Bool) : Nat → Nat
  | 0 => 0
  | n + 1 => if f n = true then bst f n ||| 2 ^ n else bst f n
theorem bst_s {f : Nat → Bool} {n : Nat} : bst f (n + 1) = if f n = true then bst f n ||| 2 ^ n else bst f n := rfl
theorem bst_bit {f : Nat → Bool} {i : Nat} : ∀ n, (bst f n).testBit i = true ↔ i < n ∧ f i = true
  | 0 => ⟨(fun h => by rw [show bst f 0 = 0 from rfl, Nat.zero_testBit] at h; cases h), (fun h => by omega)⟩
  | n + 1 => by
    rw [bst_s]
    by_cases q : f n = true
    · rw [if_pos q, Nat.testBit_or, Nat.testBit_two_pow, Bool.or_eq_true, bst_bit n, decide_eq_true_eq]
      constructor
      · rintro (⟨h1, h2⟩ | h)
        · exact ⟨by omega, h2⟩
        · subst h; exact ⟨by omega, q⟩
      · rintro ⟨h1, h2⟩
        by_cases z : n = i
        · exact Or.inr z
        · exact Or.inl ⟨by omega, h2⟩
    · rw [if_neg q, bst_bit n]
      constructor
      · rintro ⟨h1, h2⟩
        exact ⟨by omega, h2⟩
      · rintro ⟨h1, h2⟩
        refine ⟨?_, h2⟩
        by_cases z : i = n
        · subst z; exact absurd h2 q
        · omega
