/-! stolen: the class's recursion as a list -/
def pul (R : ST) (hg went l : Nat) : Bool := hg.testBit l && (decide (R 9 l ≠ 0) && went.testBit (R 9 l - 1))
def tkl (R : ST) (hg : Nat) : Nat → Nat → Nat → Nat → List Nat
  | 0, _, went, m => if m = 0 ∧ went ≠ 0 then [went] else []
  | d + 1, l, went, m => (if pul R hg went l = true then [] else tkl R hg d (l + 1) went m) ++ (if (pul R hg went l || (hg.testBit l && decide (R 5 l = 0))) = true ∧ R 4 l ≤ m then tkl R hg d (l + 1) (went ||| 2 ^ l) (m - R 4 l) else [])
theorem tkl_s {R : ST} {hg d l went m : Nat} : tkl R hg (d + 1) l went m = (if pul R hg went l = true then [] else tkl R hg d (l + 1) went m) ++ (if (pul R hg went l || (hg.testBit l && decide (R 5 l = 0))) = true ∧ R 4 l ≤ m then tkl R hg d (l + 1) (went ||| 2 ^ l) (m - R 4 l) else []) := rfl
def kw (w : ZW) (n : Nat) : ZW := z_upI (z_upI (z_upI w 119 0 (w.1 119 0 + 1)) 119 1 (w.1 119 1 &&& nI n)) 119 2 (w.1 119 2 ||| nI n)
theorem kw_o {w : ZW} {n b j : Nat} (h : b ≠ 119) : (kw w n).1 b j = w.1 b j := by
  unfold kw
  rw [upc (by omega), upc (by omega), upc (by omega)]
theorem kws_o : ∀ (xs : List Nat) (w : ZW), (∀ b j, b ≠ 119 → (xs.foldl kw w).1 b j = w.1 b j) ∧ (xs.foldl kw w).2 = w.2
  | [], w => ⟨fun b j _ => rfl, rfl⟩
  | x :: xs, w => by
    obtain ⟨h1, h2⟩ := kws_o xs (kw w x)
    exact ⟨fun b j h => (h1 b j h).trans (kw_o h), h2⟩
theorem keep11 {w : ZW} {n : Nat} : f_X1_keepLoot w (nI n) = some (kw w n) := by
  unfold f_X1_keepLoot kw
  rw [zl, zl, zl, upc (show ¬ (119 = 119 ∧ 1 = 0) by omega), upc (show ¬ (119 = 119 ∧ 2 = 1) by omega), upc (show ¬ (119 = 119 ∧ 2 = 0) by omega)]
theorem take_neg {f : Nat} {w : ZW} {a b c x : Int32} (h : x < 0) : f_X1_takeFrom (f + 1) w a b c x = some w := by
  rw [f_X1_takeFrom, if_neg (fun q => (lt_nle _ _).mp h q)]
theorem kws_C {R : ST} {w : ZW} (hC : RailC R w.1) (xs : List Nat) : RailC R (xs.foldl kw w).1 := fr_RC (fun a j q => (kws_o xs w).1 a j (by unfold cRC at q; omega)) hC
theorem take11 {R : ST} {hg : Nat} (hI : RailI R) (hh : hg < 2 ^ 14) : ∀ d f l went m w, l + d = R 0 1 → d < f → went < 2 ^ l → m < 2 ^ 30 → RailC R w.1 → f_X1_takeFrom f w (nI hg) (nI l) (nI went) (nI m) = some ((tkl R hg d l went m).foldl kw w) := by
  intro d
  induction d with
  | zero =>
    intro f l went m w hl hf hw hm hC
    obtain ⟨f, rfl⟩ : ∃ g, f = g + 1 := ⟨f - 1, by omega⟩
    have hL := hI.2.1
    have w14 := pw14 (show l ≤ 14 by omega)
    have z1 : nI m = 0 ↔ m = 0 := nI_inj (by omega) (show 0 < 2 ^ 31 by omega)
    have z2 : nI went = 0 ↔ went = 0 := nI_inj (by omega) (show 0 < 2 ^ 31 by omega)
    rw [f_X1_takeFrom, if_pos (show (0 : Int32) ≤ nI m from nle (a := 0) (b := m) (Nat.zero_le _) (by omega)), hC.2.1, if_pos (nle (by omega))]
    unfold f_X1_takeFrom_J20
    show _ = some (List.foldl kw w (if m = 0 ∧ went ≠ 0 then [went] else []))
    by_cases q1 : m = 0
    · rw [if_pos (z1.mpr q1)]
      by_cases q2 : went = 0
      · rw [if_pos (z2.mpr q2), if_neg (fun h => h.2 q2)]
        rfl
      · rw [if_neg (fun h => q2 (z2.mp h)), if_pos ⟨q1, q2⟩, keep11]
        rfl
    · rw [if_neg (fun h => q1 (z1.mp h)), if_neg (fun h => q1 h.1)]
      rfl
  | succ d ih =>
    intro f l went m w hl hf hw hm hC
    obtain ⟨f, rfl⟩ : ∃ g, f = g + 1 := ⟨f - 1, by omega⟩
    have hL := hI.2.1
    have w14 := pw14 (show l ≤ 14 by omega)
    obtain ⟨h4, h5, -, -, -, h9, -⟩ := hI.2.2.2.2 l (by omega)
    have wl : went ||| 2 ^ l < 2 ^ (l + 1) := or_pow_lt (by rw [Nat.pow_succ]; omega) (by omega)
    have wl2 : went < 2 ^ (l + 1) := by rw [Nat.pow_succ]; omega
    -- taken
    have j124 : ∀ u, RailC R u.1 → f_X1_takeFrom_J124 (nI l) (f_X1_takeFrom f) (nI hg) (nI went) (nI m) u = some ((if R 4 l ≤ m then tkl R hg d (l + 1) (went ||| 2 ^ l) (m - R 4 l) else []).foldl kw u) := fun u hu => by
      unfold f_X1_takeFrom_J124
      rw [z_in_t (show l < 14 by omega) (by omega), if_pos rfl, nI_clamp (show l < 2 ^ 31 by omega), (hu.2.2.2.2 l (by omega)).1, nI_shl1 (by omega), nI_or, nI_1]
      by_cases q : R 4 l ≤ m
      · rw [if_pos q, pk_sub q, ih f (l + 1) _ _ u (by omega) (by omega) wl (by omega) hu]
        rfl
      · rw [if_neg q]
        obtain ⟨g, rfl⟩ : ∃ g, f = g + 1 := ⟨f - 1, by omega⟩
        rw [take_neg (by
          rw [Int32.lt_iff_toInt_lt, pk_sub_toInt (by omega) (by omega)]
          have : (0 : Int32).toInt = 0 := by decide
          omega)]
        rfl
    have j105 : ∀ (u : ZW) (h p : Bool), (p = true → h = true) → RailC R u.1 → f_X1_takeFrom_J105 (nI l) (f_X1_takeFrom f) (nI hg) (nI went) (nI m) (if h = true then 1 else 0) (if p = true then 1 else 0) u = some ((if (p || (h && decide (R 5 l = 0))) = true ∧ R 4 l ≤ m then tkl R hg d (l + 1) (went ||| 2 ^ l) (m - R 4 l) else []).foldl kw u) := fun u h p hp hu => by
      have z5 : nI (R 5 l) = 0 ↔ R 5 l = 0 := nI_inj (by omega) (show 0 < 2 ^ 31 by omega)
      unfold f_X1_takeFrom_J105
      rw [if10, if10, z_in_t (show l < 14 by omega) (by omega), if_pos rfl, nI_clamp (show l < 2 ^ 31 by omega), (hu.2.2.2.2 l (by omega)).2.1, j124 u hu]
      cases p
      · cases h
        · rw [if_neg (by simp), if_neg (by simp), if_neg (by simp)]
          rfl
        · rw [if_neg (by simp), if_pos rfl]
          by_cases q : R 5 l = 0
          · rw [if_pos (z5.mpr q), decide_eq_true q]
            by_cases q2 : R 4 l ≤ m
            · rw [if_pos q2, if_pos ⟨rfl, q2⟩]
            · rw [if_neg q2, if_neg (fun z => q2 z.2)]
          · rw [if_neg (fun z => q (z5.mp z)), decide_eq_false q, if_neg (fun z => by have := z.1; simp at this)]
            rfl
      · rw [if_pos rfl]
        by_cases q2 : R 4 l ≤ m
        · rw [if_pos q2, if_pos ⟨rfl, q2⟩]
        · rw [if_neg q2, if_neg (fun z => q2 z.2)]
    have j85 : ∀ (h p : Bool), (p = true → h = true) → f_X1_takeFrom_J85 (f_X1_takeFrom f) (nI hg) (nI l) (nI went) (nI m) (if h = true then 1 else 0) (if p = true then 1 else 0) w = some (((if p = true then [] else tkl R hg d (l + 1) went m) ++ (if (p || (h && decide (R 5 l = 0))) = true ∧ R 4 l ≤ m then tkl R hg d (l + 1) (went ||| 2 ^ l) (m - R 4 l) else [])).foldl kw w) := fun h p hp => by
      unfold f_X1_takeFrom_J85
      rw [if10, j105 w h p hp hC, nI_1, ih f (l + 1) went m w (by omega) (by omega) wl2 hm hC, Option.bind_some, j105 _ h p hp (kws_C hC _), List.foldl_append]
      cases p
      · simp only [Bool.false_eq_true, if_false]
      · simp only [if_true]
        rfl
    rw [tkl_s, f_X1_takeFrom, if_pos (show (0 : Int32) ≤ nI m from nle (a := 0) (b := m) (Nat.zero_le _) (by omega)), hC.2.1, if_neg (nnle (by omega)), if_pos (show nI l < (14 : Int32) from (nI_ltI (b := 14) (by omega) (by omega)).mpr (by omega))]
    have eh := nI_bit0 (b := hg) (k := l) (by omega) (by omega)
    cases qh : hg.testBit l
    · have j := j85 false false (fun h => h)
      have ep : pul R hg went l = false := by unfold pul; rw [qh]; rfl
      rw [if_pos (eh.mpr qh), ep]
      unfold f_X1_takeFrom_J50
      rw [if_pos rfl]
      exact j
    · rw [if_neg (fun h => by rw [eh.mp h] at qh; cases qh)]
      have e9 := (hC.2.2.2.2 l (by omega)).2.2.2.2.2
      unfold f_X1_takeFrom_J50 f_X1_takeFrom_J84
      rw [if_neg i10, z_in_t (show l < 14 by omega) (by omega), if_pos rfl, if_pos rfl, nI_clamp (show l < 2 ^ 31 by omega), e9]
      have hn := hol_neg (n := R 9 l) (by omega)
      by_cases q9 : R 9 l = 0
      · have ep : pul R hg went l = false := by unfold pul; rw [qh, q9]; rfl
        rw [if_pos (hn.mpr q9), ep]
        exact j85 true false (fun h => by cases h)
      · have eb := nI_bit0 (b := went) (k := R 9 l - 1) (by omega) (by omega)
        rw [if_neg (fun h => q9 (hn.mp h)), hol_p q9]
        cases qw : went.testBit (R 9 l - 1)
        · have ep : pul R hg went l = false := by unfold pul; rw [qw, Bool.and_false, Bool.and_false]
          rw [if_pos (eb.mpr qw), ep]
          exact j85 true false (fun h => by cases h)
        · have ep : pul R hg went l = true := by unfold pul; rw [qh, qw, decide_eq_true q9]; rfl
          rw [if_neg (fun h => by rw [eb.mp h] at qw; cases qw), ep]
          exact j85 true true (fun h => h)
/-! which sets are in the list -/
def vld (R : ST) (hg i n : Nat) : Prop := if n.testBit i = true then (pul R hg n i || (hg.testBit i && decide (R 5 i = 0))) = true else pul R hg n i = false
theorem mod_low {n l : Nat} : n % 2 ^ (l + 1) = n % 2 ^ l + if n.testBit l = true then 2 ^ l else 0 := by
  rw [Nat.pow_succ, Nat.mod_mul, Nat.testBit_eq_decide_div_mod_eq]
  have : n / 2 ^ l % 2 < 2 := Nat.mod_lt _ (by omega)
  by_cases q : n / 2 ^ l % 2 = 1
  · rw [q, if_pos (by simp)]
    omega
  · rw [show n / 2 ^ l % 2 = 0 by omega, if_neg (by simp)]
    omega
theorem rWn_s {R : ST} {b k : Nat} : rWn R b (k + 1) = rWn R b k + if b.testBit k = true then R 4 k else 0 := rfl
theorem rWn_mono {R : ST} {b k : Nat} : ∀ d, rWn R b k ≤ rWn R b (k + d)
  | 0 => Nat.le_refl _
  | d + 1 => by
    have := rWn_mono (R := R) (b := b) (k := k) d
    rw [← Nat.add_assoc, rWn_s]
    omega
theorem pul_low {R : ST} {hg went l n : Nat} (h9 : R 9 l ≤ l) (h : n % 2 ^ l = went) : pul R hg went l = pul R hg n l := by
  unfold pul
  rw [← h, Nat.testBit_mod_two_pow]
  by_cases q : R 9 l = 0
  · rw [q]
    simp
  · rw [decide_eq_true (show R 9 l - 1 < l by omega), Bool.true_and]
theorem tkl_mem {R : ST} {hg : Nat} (hI : RailI R) : ∀ d l went m n, l + d ≤ R 0 1 → went < 2 ^ l → (n ∈ tkl R hg d l went m ↔ n < 2 ^ (l + d) ∧ n % 2 ^ l = went ∧ (∀ i, l ≤ i → i < l + d → vld R hg i n) ∧ rWn R n (l + d) = rWn R n l + m ∧ n ≠ 0) := by
  intro d
  induction d with
  | zero =>
    intro l went m n _ hw
    show n ∈ (if m = 0 ∧ went ≠ 0 then [went] else []) ↔ _
    rw [Nat.add_zero]
    constructor
    · intro h
      by_cases q : m = 0 ∧ went ≠ 0
      · rw [if_pos q, List.mem_singleton] at h
        subst h
        exact ⟨hw, Nat.mod_eq_of_lt hw, fun i h1 h2 => by omega, by omega, q.2⟩
      · rw [if_neg q] at h
        cases h
    · rintro ⟨h1, h2, -, h4, h5⟩
      rw [Nat.mod_eq_of_lt h1] at h2
      rw [if_pos ⟨by omega, by omega⟩, List.mem_singleton]
      exact h2
  | succ d ih =>
    intro l went m n hl hw
    obtain ⟨-, -, -, -, -, h9, -⟩ := hI.2.2.2.2 l (by omega)
    have wl : went ||| 2 ^ l < 2 ^ (l + 1) := or_pow_lt (by rw [Nat.pow_succ]; omega) (by omega)
    have wl2 : went < 2 ^ (l + 1) := by rw [Nat.pow_succ]; omega
    have wo : went ||| 2 ^ l = went + 2 ^ l := Nat.or_two_pow_eq_add_of_lt hw
    have pp : 0 < 2 ^ l := Nat.pow_pos (by omega)
    have ml := mod_low (n := n) (l := l)
    have mlt : n % 2 ^ l < 2 ^ l := Nat.mod_lt _ pp
    have ws := rWn_s (R := R) (b := n) (k := l)
    have wm := rWn_mono (R := R) (b := n) (k := l + 1) d
    have i1 := ih (l + 1) went m n (by omega) wl2
    have i2 := ih (l + 1) (went ||| 2 ^ l) (m - R 4 l) n (by omega) wl
    rw [tkl_s, List.mem_append]
    rw [show l + 1 + d = l + (d + 1) by omega] at i1 i2 wm
    have split : (∀ i, l ≤ i → i < l + (d + 1) → vld R hg i n) ↔ vld R hg l n ∧ ∀ i, l + 1 ≤ i → i < l + (d + 1) → vld R hg i n := by
      constructor
      · exact fun h => ⟨h l (by omega) (by omega), fun i h1 h2 => h i (by omega) h2⟩
      · rintro ⟨h1, h2⟩ i h3 h4
        by_cases z : i = l
        · subst z; exact h1
        · exact h2 i (by omega) h4
    rw [split]
    cases qb : n.testBit l
    · rw [qb, if_neg (by simp), Nat.add_zero] at ml ws
      have no : ¬ (n ∈ if (pul R hg went l || (hg.testBit l && decide (R 5 l = 0))) = true ∧ R 4 l ≤ m then tkl R hg d (l + 1) (went ||| 2 ^ l) (m - R 4 l) else []) := by
        intro h
        by_cases q : (pul R hg went l || (hg.testBit l && decide (R 5 l = 0))) = true ∧ R 4 l ≤ m
        · rw [if_pos q] at h
          have := (i2.mp h).2.1
          omega
        · rw [if_neg q] at h
          cases h
      constructor
      · rintro (h | h)
        · by_cases q : pul R hg went l = true
          · rw [if_pos q] at h
            cases h
          · rw [if_neg q] at h
            obtain ⟨a1, a2, a3, a4, a5⟩ := i1.mp h
            refine ⟨a1, by omega, ⟨?_, a3⟩, by omega, a5⟩
            unfold vld
            rw [qb, if_neg (by simp), ← pul_low h9 (show n % 2 ^ l = went by omega)]
            simpa using q
        · exact absurd h no
      · rintro ⟨a1, a2, ⟨a3, a4⟩, a5, a6⟩
        left
        unfold vld at a3
        rw [qb, if_neg (by simp), ← pul_low h9 a2] at a3
        rw [if_neg (by rw [a3]; simp)]
        exact i1.mpr ⟨a1, by omega, a4, by omega, a6⟩
    · rw [qb, if_pos rfl] at ml ws
      have no : ¬ (n ∈ if pul R hg went l = true then [] else tkl R hg d (l + 1) went m) := by
        intro h
        by_cases q : pul R hg went l = true
        · rw [if_pos q] at h
          cases h
        · rw [if_neg q] at h
          have := (i1.mp h).2.1
          omega
      constructor
      · rintro (h | h)
        · exact absurd h no
        · by_cases q : (pul R hg went l || (hg.testBit l && decide (R 5 l = 0))) = true ∧ R 4 l ≤ m
          · rw [if_pos q] at h
            obtain ⟨a1, a2, a3, a4, a5⟩ := i2.mp h
            refine ⟨a1, by omega, ⟨?_, a3⟩, by omega, a5⟩
            unfold vld
            rw [qb, if_pos rfl, ← pul_low h9 (show n % 2 ^ l = went by omega)]
            exact q.1
          · rw [if_neg q] at h
            cases h
      · rintro ⟨a1, a2, ⟨a3, a4⟩, a5, a6⟩
        right
        unfold vld at a3
        rw [qb, if_pos rfl, ← pul_low h9 a2] at a3
        rw [if_pos ⟨a3, by omega⟩]
        exact i2.mpr ⟨a1, by omega, a4, by omega, a6⟩
theorem tkl_nodup {R : ST} {hg : Nat} (hI : RailI R) : ∀ d l went m, l + d ≤ R 0 1 → went < 2 ^ l → (tkl R hg d l went m).Nodup := by
  intro d
  induction d with
  | zero =>
    intro l went m _ _
    show (if m = 0 ∧ went ≠ 0 then [went] else []).Nodup
    split
    · exact List.nodup_cons.mpr ⟨(fun h => by cases h), List.Pairwise.nil⟩
    · exact List.Pairwise.nil
  | succ d ih =>
    intro l went m hl hw
    have wl : went ||| 2 ^ l < 2 ^ (l + 1) := or_pow_lt (by rw [Nat.pow_succ]; omega) (by omega)
    have wl2 : went < 2 ^ (l + 1) := by rw [Nat.pow_succ]; omega
    have wo : went ||| 2 ^ l = went + 2 ^ l := Nat.or_two_pow_eq_add_of_lt hw
    have pp : 0 < 2 ^ l := Nat.pow_pos (by omega)
    rw [tkl_s, List.nodup_append]
    refine ⟨?_, ?_, fun a ha b hb e => ?_⟩
    · split
      · exact List.Pairwise.nil
      · exact ih (l + 1) went m (by omega) wl2
    · split
      · exact ih (l + 1) _ _ (by omega) wl
      · exact List.Pairwise.nil
    · subst e
      by_cases q : pul R hg went l = true
      · rw [if_pos q] at ha
        cases ha
      · rw [if_neg q] at ha
        by_cases q2 : (pul R hg went l || (hg.testBit l && decide (R 5 l = 0))) = true ∧ R 4 l ≤ m
        · rw [if_pos q2] at hb
          have a1 := ((tkl_mem hI d (l + 1) went m a (by omega) wl2).mp ha).2.1
          have b1 := ((tkl_mem hI d (l + 1) (went ||| 2 ^ l) (m - R 4 l) a (by omega) wl).mp hb).2.1
          omega
        · rw [if_neg q2] at hb
          cases hb
