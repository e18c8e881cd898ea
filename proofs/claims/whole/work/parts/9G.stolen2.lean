/-! stolen: the model's list -/
def dl (all : Nat) : Nat → List Nat
  | 0 => []
  | s + 1 => if ndn (s + 1) all = 0 then (s + 1) :: dl all s else dl all s
theorem dl_s {all s : Nat} : dl all (s + 1) = if ndn (s + 1) all = 0 then (s + 1) :: dl all s else dl all s := rfl
theorem dl_mem {all x : Nat} : ∀ t, x ∈ dl all t ↔ x ≠ 0 ∧ x ≤ t ∧ ndn x all = 0
  | 0 => ⟨(fun h => by cases h), (fun h => by omega)⟩
  | t + 1 => by
    have ih := dl_mem (all := all) (x := x) t
    rw [dl_s]
    by_cases q : ndn (t + 1) all = 0
    · rw [if_pos q, List.mem_cons, ih]
      constructor
      · rintro (h | ⟨h1, h2, h3⟩)
        · subst h; exact ⟨by omega, Nat.le_refl _, q⟩
        · exact ⟨h1, by omega, h3⟩
      · rintro ⟨h1, h2, h3⟩
        by_cases z : x = t + 1
        · exact Or.inl z
        · exact Or.inr ⟨h1, by omega, h3⟩
    · rw [if_neg q, ih]
      constructor
      · rintro ⟨h1, h2, h3⟩
        exact ⟨h1, by omega, h3⟩
      · rintro ⟨h1, h2, h3⟩
        refine ⟨h1, ?_, h3⟩
        by_cases z : x = t + 1
        · subst z; exact absurd h3 q
        · omega
theorem dl_nodup {all : Nat} : ∀ t, (dl all t).Nodup
  | 0 => List.Pairwise.nil
  | t + 1 => by
    rw [dl_s]
    split
    · refine List.nodup_cons.mpr ⟨fun h => ?_, dl_nodup t⟩
      have := ((dl_mem t).mp h).2.1
      omega
    · exact dl_nodup t
theorem dl_len {all : Nat} : ∀ t, (dl all t).length ≤ t
  | 0 => Nat.le_refl _
  | t + 1 => by
    have := dl_len (all := all) t
    rw [dl_s]
    split
    · rw [List.length_cons]; omega
    · omega
theorem dl_skip {all y : Nat} : ∀ t, y ≤ t → (∀ x, y < x → x ≤ t → ndn x all ≠ 0) → dl all t = dl all y
  | 0, h, _ => by
    have : y = 0 := by omega
    rw [this]
  | t + 1, h, hx => by
    by_cases z : y = t + 1
    · rw [z]
    · rw [dl_s, if_neg (hx (t + 1) (by omega) (Nat.le_refl _))]
      exact dl_skip t (by omega) (fun x h1 h2 => hx x h1 (by omega))
theorem odd_dec : ∀ n t, t ≤ n → t ≠ 0 → ∃ j o, t = 2 ^ j * (2 * o + 1)
  | 0, t, h, h0 => by omega
  | n + 1, t, h, h0 => by
    by_cases q : t % 2 = 1
    · exact ⟨0, t / 2, by rw [Nat.pow_zero, Nat.one_mul]; omega⟩
    · obtain ⟨j, o, e⟩ := odd_dec n (t / 2) (by omega) (by omega)
      refine ⟨j + 1, o, ?_⟩
      have : t = 2 * (t / 2) := by omega
      rw [this, e, Nat.pow_succ, Nat.mul_comm (2 ^ j) 2, Nat.mul_assoc]
/-- the submask before one -/
theorem sub_prev {all t x : Nat} (h0 : t ≠ 0) (ht : sbq t all) (hx : sbq x all) (hl : x ≤ t - 1) : x ≤ (t - 1) &&& all := by
  obtain ⟨j, o, e⟩ := odd_dec t t (Nat.le_refl _) h0
  have pp : 0 < 2 ^ j := Nat.pow_pos (by omega)
  have tb : ∀ a b i, b < 2 ^ j → (2 ^ j * a + b).testBit i = if i < j then b.testBit i else a.testBit (i - j) := fun a b i hb => Nat.testBit_two_pow_mul_add a hb i
  have e1 : t - 1 = 2 ^ j * (2 * o) + (2 ^ j - 1) := by
    rw [e, Nat.mul_add, Nat.mul_one]
    omega
  have e2 : t = 2 ^ j * (2 * o + 1) + 0 := by rw [Nat.add_zero]; exact e
  have am : all % 2 ^ j < 2 ^ j := Nat.mod_lt _ pp
  have y0 : 2 ^ j * (2 * o) + all % 2 ^ j ≤ (t - 1) &&& all := Nat.le_of_testBit (fun i hi => by
    rw [tb _ _ _ am] at hi
    rw [Nat.testBit_and, Bool.and_eq_true, e1, tb _ _ _ (by omega)]
    by_cases q : i < j
    · rw [if_pos q, Nat.testBit_mod_two_pow, decide_eq_true q, Bool.true_and] at hi
      rw [if_pos q, Nat.testBit_two_pow_sub_one]
      exact ⟨decide_eq_true q, hi⟩
    · rw [if_neg q] at hi
      rw [if_neg q]
      refine ⟨hi, ht i ?_⟩
      rw [e2, tb _ _ _ pp, if_neg q]
      generalize i - j = k at hi
      cases k with
      | zero =>
        rw [Nat.testBit_zero] at hi
        have := of_decide_eq_true hi
        omega
      | succ k =>
        rw [Nat.testBit_succ] at hi ⊢
        rw [show (2 * o + 1) / 2 = 2 * o / 2 by omega]
        exact hi)
  have x1 : x / 2 ^ j < 2 * o + 1 := by
    rw [Nat.div_lt_iff_lt_mul pp, Nat.mul_comm, ← e]
    omega
  have x2 : x % 2 ^ j ≤ all % 2 ^ j := Nat.le_of_testBit (fun i hi => by
    rw [Nat.testBit_mod_two_pow, Bool.and_eq_true] at hi ⊢
    exact ⟨hi.1, hx i hi.2⟩)
  have x3 : 2 ^ j * (x / 2 ^ j) ≤ 2 ^ j * (2 * o) := Nat.mul_le_mul_left _ (by omega)
  have x4 := Nat.div_add_mod x (2 ^ j)
  omega
theorem dl_next {all t : Nat} (h14 : t < 2 ^ 14) (h0 : t ≠ 0) (ht : sbq t all) : dl all t = t :: dl all ((t - 1) &&& all) := by
  obtain ⟨s, rfl⟩ : ∃ s, t = s + 1 := ⟨t - 1, by omega⟩
  rw [dl_s, if_pos ((sbq_iff h14).mpr ht), Nat.add_sub_cancel]
  congr 1
  refine dl_skip s Nat.and_le_left (fun x h1 h2 h3 => ?_)
  have := sub_prev (t := s + 1) h0 ht ((sbq_iff (by omega)).mp h3) (by omega)
  rw [Nat.add_sub_cancel] at this
  omega
/-- what the model asks of a loot -/
def abv (R : ST) (s k : Nat) : Bool := decide (R 9 k ≠ 0) && s.testBit (R 9 k - 1)
def lb1 (R : ST) (s k : Nat) : Bool := if s.testBit k = true then abv R s k || decide (R 5 k = 0) else !(abv R s k) || (R 0 2).testBit k
def lbn (R : ST) (s : Nat) : Nat → Bool
  | 0 => true
  | k + 1 => lbn R s k && lb1 R s k
theorem lbn_s {R : ST} {s k : Nat} : lbn R s (k + 1) = (lbn R s k && lb1 R s k) := rfl
theorem lbn_iff {R : ST} {s : Nat} : ∀ k, lbn R s k = true ↔ ∀ i, i < k → lb1 R s i = true
  | 0 => ⟨fun _ i hi => by omega, fun _ => rfl⟩
  | k + 1 => by
    rw [lbn_s, Bool.and_eq_true, lbn_iff k]
    constructor
    · rintro ⟨h1, h2⟩ i hi
      by_cases z : i = k
      · subst z; exact h2
      · exact h1 i (by omega)
    · exact fun h => ⟨fun i hi => h i (by omega), h k (by omega)⟩
def lob (R : ST) (s : Nat) : Bool := decide (s ≠ 0) && lbn R s (R 0 1)
theorem j68 {R : ST} {w : ZW} (hI : RailI R) (hM : RailM R w.1) {k : Nat} (hk : k < R 0 1) (a h : Bool) : f_X12_isLoot_J68 w (nI k) (if a = true then 1 else 0) (if h = true then 1 else 0) = some (.inl ((if (if h = true then a || decide (R 5 k = 0) else !a || (R 0 2).testBit k) = true then 1 else 0), nI (k + 1))) := by
  have hL := hI.2.1
  obtain ⟨-, h5, -⟩ := hI.2.2.2.2 k hk
  obtain ⟨-, c5, -, -, -, -, c8⟩ := hM.2.2.2 k hk
  have z5 : nI (R 5 k) = 0 ↔ R 5 k = 0 := nI_inj (by omega) (show 0 < 2 ^ 31 by omega)
  unfold f_X12_isLoot_J68
  rw [if10, if10, if10, z_in_t (show k < 14 by omega) (by omega), if_pos rfl, if_pos rfl, nI_clamp (show k < 2 ^ 31 by omega), c5, c8, nI_1]
  have b1 := nI_b1 ((R 0 2).testBit k)
  cases h
  · cases a
    · rfl
    · cases q : (R 0 2).testBit k
      · rw [q] at b1
        rw [if_neg (by simp), if_pos rfl, if_neg (fun z => by have := b1.mp z; cases this)]
        rfl
      · rw [q] at b1
        rw [if_neg (by simp), if_pos rfl, if_pos (b1.mpr rfl)]
        rfl
  · cases a
    · by_cases q : R 5 k = 0
      · rw [if_pos rfl, if_neg (by simp), if_pos (z5.mpr q), decide_eq_true q]
        rfl
      · rw [if_pos rfl, if_neg (by simp), if_neg (fun z => q (z5.mp z)), decide_eq_false q]
        rfl
    · rfl
theorem lob12 {R : ST} {w : ZW} (hI : RailI R) (hM : RailM R w.1) {s : Nat} (hs : s < 2 ^ 14) : f_X12_isLoot w (nI s) = some (if lob R s = true then 1 else 0) := by
  have hL := hI.2.1
  have z0 : nI s = 0 ↔ s = 0 := nI_inj (by omega) (show 0 < 2 ^ 31 by omega)
  unfold f_X12_isLoot f_X12_isLoot_J9 lob
  by_cases q : s = 0
  · have lp : z_iter (f_X12_isLoot_L12 w (nI s)) z_fuel ((0 : Int32), (0 : Int32)) = some 0 := by
      refine it_count (fun _ => ((0 : Int32), (0 : Int32))) 0 _ (fun i hi => by omega) ?_ (zf (by omega))
      unfold f_X12_isLoot_L12
      dsimp only
      rw [if_pos rfl]
      split <;> rfl
    rw [if_pos (z0.mpr q), lp, decide_eq_false (show ¬ s ≠ 0 from fun h => h q)]
    rfl
  · have lp : ∃ r, z_iter (f_X12_isLoot_L12 w (nI s)) z_fuel ((1 : Int32), (0 : Int32)) = some r ∧ r = (if lbn R s (R 0 1) = true then 1 else 0) := by
      refine it_inv (fun i (st : Int32 × Int32) => st.2 = nI i ∧ st.1 = (if lbn R s i = true then 1 else 0)) _ (R 0 1) (fun i st hi hP => ?_) (fun st hP => ?_) (zf (by omega)) ⟨rfl, rfl⟩
      · obtain ⟨p1, p2⟩ := hP
        obtain ⟨x, y⟩ := st
        dsimp only at p1 p2
        subst p1 p2
        obtain ⟨-, -, -, -, -, h9, -⟩ := hI.2.2.2.2 i hi
        have c9 := (hM.2.2.2 i hi).2.2.2.2.2.1
        have hn := hol_neg (n := R 9 i) (by omega)
        unfold f_X12_isLoot_L12
        dsimp only
        rw [hM.2.1, if_neg (nnle hi), if10]
        by_cases q2 : lbn R s i = true
        · left
          have e1 := nI_bit1 (b := s) (k := i) (by omega) (by omega)
          have j52 : ∀ a : Bool, f_X12_isLoot_J52 (nI s) w (nI i) (if a = true then 1 else 0) = some (.inl ((if (if s.testBit i = true then a || decide (R 5 i = 0) else !a || (R 0 2).testBit i) = true then 1 else 0), nI (i + 1))) := fun a => by
            unfold f_X12_isLoot_J52
            cases z : s.testBit i
            · rw [if_neg (fun h => by rw [e1.mp h] at z; cases z)]
              exact j68 hI hM hi a false
            · rw [if_pos (e1.mpr z)]
              exact j68 hI hM hi a true
          refine ⟨((if lbn R s (i + 1) = true then 1 else 0), nI (i + 1)), ?_, rfl, rfl⟩
          have el : lbn R s (i + 1) = lb1 R s i := by rw [lbn_s, q2, Bool.true_and]
          rw [el]
          unfold lb1
          unfold f_X12_isLoot_J51
          rw [if_pos q2, z_in_t (show i < 14 by omega) (by omega), if_pos rfl, if_pos rfl, nI_clamp (show i < 2 ^ 31 by omega), c9]
          by_cases q9 : R 9 i = 0
          · have ea : abv R s i = false := by unfold abv; rw [decide_eq_false (show ¬ R 9 i ≠ 0 from fun h => h q9)]; rfl
            rw [if_pos (hn.mpr q9), ea]
            exact j52 false
          · have e2 := nI_bit1 (b := s) (k := R 9 i - 1) (by omega) (by omega)
            rw [if_neg (fun h => q9 (hn.mp h)), hol_p q9]
            cases z : s.testBit (R 9 i - 1)
            · have ea : abv R s i = false := by unfold abv; rw [z, Bool.and_false]
              rw [if_neg (fun h => by rw [e2.mp h] at z; cases z), ea]
              exact j52 false
            · have ea : abv R s i = true := by unfold abv; rw [z, decide_eq_true q9]; rfl
              rw [if_pos (e2.mpr z), ea]
              exact j52 true
        · right
          refine ⟨_, by rw [if_neg q2], ?_⟩
          have : ¬ lbn R s (R 0 1) = true := fun h => q2 ((lbn_iff i).mpr (fun j hj => (lbn_iff _).mp h j (by omega)))
          rw [if_neg this, if_neg q2]
      · obtain ⟨p1, p2⟩ := hP
        obtain ⟨x, y⟩ := st
        dsimp only at p1 p2
        subst p1 p2
        refine ⟨_, ?_, rfl⟩
        unfold f_X12_isLoot_L12
        dsimp only
        rw [hM.2.1, if_pos (Int32.le_refl _)]
    obtain ⟨r, e, h⟩ := lp
    rw [if_neg (fun h => q (z0.mp h)), e, h, Option.bind_some, bo_if, if_pos rfl, decide_eq_true q, Bool.true_and]
def cnl (R : ST) (W load s : Nat) : Bool := decide (W - rW R s = load) && lob R s
theorem rW_sub {R : ST} {a b : Nat} (h : sbq a b) : rW R a ≤ rW R b := by
  have : ∀ k, rWn R a k ≤ rWn R b k := by
    intro k
    induction k with
    | zero => exact Nat.le_refl _
    | succ k ih =>
      rw [rWn_s, rWn_s]
      by_cases q : a.testBit k = true
      · rw [if_pos q, if_pos (h k q)]
        omega
      · rw [if_neg q]
        omega
  exact this _
theorem loot_lp {R : ST} {w : ZW} (hI : RailI R) (hM : RailM R w.1) {all load : Nat} (ha : all < 2 ^ 14) (hl : load ≤ 99999) : ∀ n t N c a o, t ≤ n → sbq t all → t < N → t < 2 ^ 14 → z_iter (f_X12_stolen_L77 w (nI (rW R all)) (nI load) (nI all)) N (nI c, nI a, nI o, nI t) = some (nI (c + ((dl all t).filter (cnl R (rW R all) load)).length), nI (((dl all t).filter (cnl R (rW R all) load)).foldl (fun x y => x &&& y) a), nI (((dl all t).filter (cnl R (rW R all) load)).foldl (fun x y => x ||| y) o)) := by
  intro n
  have hW := rW_le hI all
  induction n with
  | zero =>
    intro t N c a o ht hs hN h14
    have : t = 0 := by omega
    subst this
    obtain ⟨N, rfl⟩ : ∃ M, N = M + 1 := ⟨N - 1, by omega⟩
    have e : f_X12_stolen_L77 w (nI (rW R all)) (nI load) (nI all) (nI c, nI a, nI o, nI 0) = some (.inr (nI c, nI a, nI o)) := by
      unfold f_X12_stolen_L77
      dsimp only
      rw [if_pos (show nI 0 ≤ 0 by decide)]
    simp only [z_iter, e, Option.bind_some, Sum.elim_inr]
    rfl
  | succ n ih =>
    intro t N c a o ht hs hN h14
    by_cases t0 : t = 0
    · exact ih t N c a o (by omega) hs hN h14
    · obtain ⟨N, rfl⟩ : ∃ M, N = M + 1 := ⟨N - 1, by omega⟩
      have le := rW_sub (R := R) hs
      have lt : (t - 1) &&& all ≤ t - 1 := Nat.and_le_left
      have sq : sbq ((t - 1) &&& all) all := fun i hi => by
        rw [Nat.testBit_and, Bool.and_eq_true] at hi
        exact hi.2
      have ih' := fun c a o => ih ((t - 1) &&& all) N c a o (by omega) sq (by omega) (by omega)
      have e : f_X12_stolen_L77 w (nI (rW R all)) (nI load) (nI all) (nI c, nI a, nI o, nI t) = some (.inl (if cnl R (rW R all) load t = true then (nI (c + 1), nI (a &&& t), nI (o ||| t), nI ((t - 1) &&& all)) else (nI c, nI a, nI o, nI ((t - 1) &&& all)))) := by
        unfold f_X12_stolen_L77
        dsimp only
        rw [if_neg (show ¬ nI t ≤ 0 from nnle (b := 0) (by omega)), X12_weigh_eq hI hM h14, Option.bind_some, pk_sub le, ieq (by omega) (by omega), lob12 hI hM h14, Option.bind_some, if10, show nI t - (1 : Int32) = nI (t - 1) from pk_sub (a := t) (b := 1) (by omega), nI_and, zl, zl, nI_1, nI_and, nI_or]
        unfold cnl
        by_cases q1 : rW R all - rW R t = load
        · rw [if_pos q1, decide_eq_true q1, Bool.true_and]
          by_cases q2 : lob R t = true
          · rw [if_pos q2, if_pos q2]
          · rw [if_neg q2, if_neg q2]
        · rw [if_neg q1, decide_eq_false q1, Bool.false_and, if_neg (by simp)]
      rw [dl_next h14 t0 hs, List.filter_cons]
      by_cases q : cnl R (rW R all) load t = true
      · rw [if_pos q] at e ⊢
        simp only [z_iter, e, Option.bind_some, Sum.elim_inl]
        rw [ih', List.length_cons, List.foldl_cons, List.foldl_cons, Nat.add_assoc, Nat.add_comm 1]
      · rw [if_neg q] at e ⊢
        simp only [z_iter, e, Option.bind_some, Sum.elim_inl]
        exact ih' c a o
