/-! order: the least of some values, and where it is first -/
def foldm (ok : Nat → Bool) (v : Nat → Nat) (B : Nat) : Nat → Nat
  | 0 => B
  | m + 1 => if ok m = true ∧ v m < foldm ok v B m then v m else foldm ok v B m
def argm (ok : Nat → Bool) (v : Nat → Nat) (B : Nat) : Nat → Nat
  | 0 => 0
  | m + 1 => if ok m = true ∧ v m < foldm ok v B m then m else argm ok v B m
theorem foldm_s {ok : Nat → Bool} {v : Nat → Nat} {B m : Nat} : foldm ok v B (m + 1) = if ok m = true ∧ v m < foldm ok v B m then v m else foldm ok v B m := rfl
theorem argm_s {ok : Nat → Bool} {v : Nat → Nat} {B m : Nat} : argm ok v B (m + 1) = if ok m = true ∧ v m < foldm ok v B m then m else argm ok v B m := rfl
theorem foldm_B {ok : Nat → Bool} {v : Nat → Nat} {B : Nat} : ∀ m, foldm ok v B m ≤ B
  | 0 => Nat.le_refl _
  | m + 1 => by
    have := foldm_B (ok := ok) (v := v) (B := B) m
    rw [foldm_s]
    split <;> omega
theorem foldm_le {ok : Nat → Bool} {v : Nat → Nat} {B x : Nat} : ∀ m, foldm ok v B m ≤ x ↔ B ≤ x ∨ ∃ s, s < m ∧ ok s = true ∧ v s ≤ x
  | 0 => ⟨fun h => Or.inl h, fun h => by
    rcases h with h | ⟨s, h, _⟩
    · exact h
    · omega⟩
  | m + 1 => by
    have ih := foldm_le (ok := ok) (v := v) (B := B) (x := x) m
    rw [foldm_s]
    by_cases q : ok m = true ∧ v m < foldm ok v B m
    · rw [if_pos q]
      constructor
      · exact fun h => Or.inr ⟨m, by omega, q.1, h⟩
      · rintro (h | ⟨s, h1, h2, h3⟩)
        · have := ih.mpr (Or.inl h)
          omega
        · by_cases z : s = m
          · subst z; exact h3
          · have := ih.mpr (Or.inr ⟨s, by omega, h2, h3⟩)
            omega
    · rw [if_neg q, ih]
      constructor
      · rintro (h | ⟨s, h1, h2, h3⟩)
        · exact Or.inl h
        · exact Or.inr ⟨s, by omega, h2, h3⟩
      · rintro (h | ⟨s, h1, h2, h3⟩)
        · exact Or.inl h
        · by_cases z : s = m
          · subst z
            have : foldm ok v B s ≤ x := by
              rcases Nat.lt_or_ge (v s) (foldm ok v B s) with y | y
              · exact absurd ⟨h2, y⟩ q
              · omega
            exact ih.mp this
          · exact Or.inr ⟨s, by omega, h2, h3⟩
theorem argm_ok {ok : Nat → Bool} {v : Nat → Nat} {B : Nat} : ∀ m, foldm ok v B m < B → argm ok v B m < m ∧ ok (argm ok v B m) = true ∧ v (argm ok v B m) = foldm ok v B m ∧ ∀ s, s < argm ok v B m → ok s = true → foldm ok v B m < v s
  | 0, h => by
    have : foldm ok v B 0 = B := rfl
    omega
  | m + 1, h => by
    rw [foldm_s] at h
    rw [foldm_s, argm_s]
    by_cases q : ok m = true ∧ v m < foldm ok v B m
    · rw [if_pos q, if_pos q]
      refine ⟨by omega, q.1, rfl, fun s hs ho => ?_⟩
      have := (foldm_le (ok := ok) (v := v) (B := B) (x := v s) m).mpr (Or.inr ⟨s, hs, ho, Nat.le_refl _⟩)
      omega
    · rw [if_neg q] at h
      rw [if_neg q, if_neg q]
      obtain ⟨h1, h2, h3, h4⟩ := argm_ok m h
      exact ⟨by omega, h2, h3, h4⟩
theorem foldm_out {ok : Nat → Bool} {v : Nat → Nat} {B a : Nat} : ∀ d, (∀ s, a ≤ s → ok s = false) → foldm ok v B (a + d) = foldm ok v B a ∧ argm ok v B (a + d) = argm ok v B a
  | 0, _ => ⟨rfl, rfl⟩
  | d + 1, h => by
    obtain ⟨h1, h2⟩ := foldm_out (ok := ok) (v := v) (B := B) (a := a) d h
    rw [← Nat.add_assoc, foldm_s, argm_s, if_neg (by rw [h (a + d) (by omega)]; simp), if_neg (by rw [h (a + d) (by omega)]; simp)]
    exact ⟨h1, h2⟩
/-- nights: what waits, what may be cut -/
def wtn (S : ST) (n b : Nat) : Nat → Nat
  | 0 => 0
  | p + 1 => wtn S n b p + if b.testBit p = true then S 1 p + n * S 2 p else 0
def wt (S : ST) (n b : Nat) : Nat := wtn S n b 6
theorem wtn_s {S : ST} {n b p : Nat} : wtn S n b (p + 1) = wtn S n b p + if b.testBit p = true then S 1 p + n * S 2 p else 0 := rfl
theorem wtn_le {P : Nat} {S : ST} (hI : NightI P S) {n : Nat} (b : Nat) (hn : n ≤ 11) : ∀ p, p ≤ 6 → wtn S n b p ≤ 198 * p
  | 0, _ => Nat.zero_le _
  | p + 1, h => by
    have ih := wtn_le hI b hn p (by omega)
    obtain ⟨h1, h2, -⟩ := hI.2 p (by omega)
    have h3 : n * S 2 p ≤ 11 * 9 := Nat.mul_le_mul hn h2
    rw [wtn_s]
    split <;> omega
theorem wt_le {P : Nat} {S : ST} (hI : NightI P S) {n : Nat} (b : Nat) (hn : n ≤ 11) : wt S n b ≤ 1188 := wtn_le hI b hn 6 (Nat.le_refl _)
theorem wtn_P {P : Nat} {S : ST} (hI : NightI P S) (hP : P ≤ 6) (n b : Nat) : wtn S n b P = wt S n b := by
  have : ∀ d, P + d ≤ 6 → wtn S n b (P + d) = wtn S n b P := by
    intro d
    induction d with
    | zero => intro _; rfl
    | succ d ih =>
      intro h
      obtain ⟨-, -, -, h4⟩ := hI.2 (P + d) (by omega)
      obtain ⟨h5, h6, -⟩ := h4 (by omega)
      rw [← Nat.add_assoc, wtn_s, ih (by omega), h5, h6, Nat.mul_zero]
      split <;> rfl
  have := this (6 - P) (by omega)
  rw [show P + (6 - P) = 6 by omega] at this
  exact this.symm
def mbn (S : ST) (n s : Nat) : Nat → Bool
  | 0 => true
  | p + 1 => mbn S n s p && (!(s.testBit p) || decide (S 3 p ≤ n))
theorem mbn_iff {S : ST} {n s : Nat} : ∀ p, mbn S n s p = true ↔ ∀ i, i < p → s.testBit i = true → S 3 i ≤ n
  | 0 => ⟨fun _ i hi => by omega, fun _ => rfl⟩
  | p + 1 => by
    unfold mbn
    rw [Bool.and_eq_true, mbn_iff p]
    constructor
    · rintro ⟨h1, h2⟩ i hi hb
      by_cases z : i = p
      · subst z
        rw [hb] at h2
        simpa using h2
      · exact h1 i (by omega) hb
    · intro h
      refine ⟨fun i hi => h i (by omega), ?_⟩
      cases q : s.testBit p
      · rfl
      · have := h p (by omega) q
        simp [this]
def okv (S : ST) (n left s : Nat) : Bool := decide (ndn s left = 0) && (decide (pc14 s ≤ S 0 0) && mbn S n s 6)
theorem okv_iff {S : ST} {n left s : Nat} (hs : s < 2 ^ 14) : okv S n left s = true ↔ sbq s left ∧ pc14 s ≤ S 0 0 ∧ ∀ i, i < 6 → s.testBit i = true → S 3 i ≤ n := by
  unfold okv
  rw [Bool.and_eq_true, Bool.and_eq_true, decide_eq_true_eq, decide_eq_true_eq, mbn_iff, sbq_iff hs]
/-- the least cost with k nights left, of B or more: none -/
def ob (S : ST) (B : Nat) : Nat → Nat → Nat
  | 0, left => if left = 0 then 0 else B
  | k + 1, left => foldm (okv S (11 - k) left) (fun s => wt S (11 - k) (ndn left s) + ob S B k (ndn left s)) B 64
def och (S : ST) (B k left : Nat) : Nat := argm (okv S (11 - k) left) (fun s => wt S (11 - k) (ndn left s) + ob S B k (ndn left s)) B 64
theorem ob_s {S : ST} {B k left : Nat} : ob S B (k + 1) left = foldm (okv S (11 - k) left) (fun s => wt S (11 - k) (ndn left s) + ob S B k (ndn left s)) B 64 := rfl
theorem ob_B {S : ST} {B : Nat} : ∀ k left, ob S B k left ≤ B
  | 0, left => by
    unfold ob
    split <;> omega
  | k + 1, left => foldm_B 64
/-- below the lesser of two bounds both say the same -/
theorem ob_same {S : ST} {B D : Nat} (h : B ≤ D) : ∀ k left x, x < B → (ob S B k left ≤ x ↔ ob S D k left ≤ x)
  | 0, left, x, hx => by
    unfold ob
    split
    · exact Iff.rfl
    · omega
  | k + 1, left, x, hx => by
    rw [ob_s, ob_s, foldm_le, foldm_le]
    have e : ∀ s, (wt S (11 - k) (ndn left s) + ob S B k (ndn left s) ≤ x ↔ wt S (11 - k) (ndn left s) + ob S D k (ndn left s) ≤ x) := fun s => by
      have ih := ob_same (S := S) h k (ndn left s)
      constructor
      · intro g
        have := (ih (x - wt S (11 - k) (ndn left s)) (by omega)).mp (by omega)
        omega
      · intro g
        have := (ih (x - wt S (11 - k) (ndn left s)) (by omega)).mpr (by omega)
        omega
    have b1 : ¬ B ≤ x := by omega
    have b2 : ¬ D ≤ x := by omega
    constructor
    · rintro (g | ⟨s, g1, g2, g3⟩)
      · exact absurd g b1
      · exact Or.inr ⟨s, g1, g2, (e s).mp g3⟩
    · rintro (g | ⟨s, g1, g2, g3⟩)
      · exact absurd g b2
      · exact Or.inr ⟨s, g1, g2, (e s).mpr g3⟩
theorem ob_eq {S : ST} {B D k left : Nat} (h : B ≤ D) (hB : ob S B k left < B) : ob S D k left = ob S B k left := by
  have a := (ob_same h k left (ob S B k left) hB).mp (Nat.le_refl _)
  have b := (ob_same h k left (ob S D k left) (by omega)).mpr (Nat.le_refl _)
  omega
theorem ob_eq2 {S : ST} {B D k left : Nat} (h : B ≤ D) (hD : ob S D k left < B) : ob S B k left = ob S D k left := by
  have a := (ob_same h k left (ob S D k left) hD).mpr (Nat.le_refl _)
  exact (ob_eq h (by omega)).symm
theorem b6_63 {left : Nat} (h : left < 64) : pc14 left ≤ 6 := by
  have : pc14 left ≤ pc14 63 := pc_mono (fun i hi => by
    have h6 := bit_lt (n := 6) h hi
    rw [show 63 = 2 ^ 6 - 1 from rfl, Nat.testBit_two_pow_sub_one]
    simpa using h6)
  have e : pc14 63 = 6 := by decide
  omega
/-- all can be cut in time -/
theorem ob_feas {P : Nat} {S : ST} (hI : NightI P S) {B : Nat} (hB : 100000 ≤ B) : ∀ k left, left < 64 → k ≤ 12 → (k ≤ 7 → pc14 left ≤ k) → ob S B k left ≤ 1188 * k
  | 0, left, hl, _, h => by
    have h0 := h (by omega)
    have : left = 0 := Classical.byContradiction (fun c => by
      have := pc_pos (b := left) (by omega) c
      omega)
    subst this
    exact Nat.le_refl _
  | k + 1, left, hl, hk, h => by
    rw [ob_s, foldm_le]
    right
    have p6 := b6_63 hl
    by_cases q : k + 1 ≤ 7 ∧ left ≠ 0
    · obtain ⟨q1, q2⟩ := q
      obtain ⟨j, hj⟩ := Nat.exists_testBit_of_ne_zero q2
      have j6 := bit_lt (n := 6) hl hj
      have hp : (2 : Nat) ^ j ≤ 2 ^ 5 := Nat.pow_le_pow_right (by omega) (by omega)
      have e : ndn left (2 ^ j) < 64 := Nat.lt_of_le_of_lt ndn_le hl
      have sp := pc_split (s := left) (y := 2 ^ j) (by omega)
      have an : left &&& 2 ^ j = 2 ^ j := Nat.eq_of_testBit_eq (fun i => by
        rw [Nat.testBit_and, Nat.testBit_two_pow]
        by_cases z : j = i
        · subst z; simp [hj]
        · simp [z])
      rw [an, pc_pow j (by omega)] at sp
      have hh := h q1
      have ih := ob_feas hI hB k (ndn left (2 ^ j)) e (by omega) (fun _ => by omega)
      have w1 := wt_le hI (n := 11 - k) (ndn left (2 ^ j)) (by omega)
      refine ⟨2 ^ j, by omega, (okv_iff (by omega)).mpr ⟨fun i hi => ?_, ?_, fun i hi hb => ?_⟩, by omega⟩
      · rw [Nat.testBit_two_pow] at hi
        have := of_decide_eq_true hi
        subst this
        exact hj
      · rw [pc_pow j (by omega)]
        exact hI.1.1
      · have := (hI.2 i hi).2.2.1
        omega
    · have e : ndn left 0 = left := Nat.eq_of_testBit_eq (fun i => by
        rw [ndn_bit (by omega), Nat.zero_testBit]
        simp)
      have c : k ≤ 7 → pc14 left ≤ k := fun z => by
        by_cases y : left = 0
        · subst y
          have : pc14 0 = 0 := by decide
          omega
        · have : ¬ k + 1 ≤ 7 := fun x => q ⟨x, y⟩
          omega
      have ih := ob_feas hI hB k left hl (by omega) c
      have w1 := wt_le hI (n := 11 - k) left (by omega)
      have p00 : pc14 0 ≤ S 0 0 := by
        have : pc14 0 = 0 := by decide
        omega
      refine ⟨0, by omega, (okv_iff (by omega)).mpr ⟨(fun i hi => by rw [Nat.zero_testBit] at hi; cases hi), p00, (fun i hi hb => by rw [Nat.zero_testBit] at hb; cases hb)⟩, ?_⟩
      rw [e]
      omega
/-- the choice of both -/
theorem och_ok {S : ST} {B k left : Nat} (h : ob S B (k + 1) left < B) : och S B k left < 64 ∧ okv S (11 - k) left (och S B k left) = true ∧ wt S (11 - k) (ndn left (och S B k left)) + ob S B k (ndn left (och S B k left)) = ob S B (k + 1) left ∧ ∀ s, s < och S B k left → okv S (11 - k) left s = true → ob S B (k + 1) left < wt S (11 - k) (ndn left s) + ob S B k (ndn left s) :=
  argm_ok 64 h
def oc2 (S : ST) (D k left s : Nat) : Prop := okv S (11 - k) left s = true ∧ ob S D k (ndn left s) < D ∧ wt S (11 - k) (ndn left s) + ob S D k (ndn left s) = ob S D (k + 1) left
theorem och_both {S : ST} {B D k left : Nat} (hBD : B ≤ D) (h : ob S B (k + 1) left < B) : oc2 S D k left (och S B k left) ∧ ∀ s, s < och S B k left → ¬ oc2 S D k left s := by
  obtain ⟨h1, h2, h3, h4⟩ := och_ok h
  have eD := ob_eq hBD h
  have r := ob_eq (S := S) (k := k) (left := ndn left (och S B k left)) hBD (by omega)
  refine ⟨⟨h2, by omega, by omega⟩, fun s hs ⟨c1, c2, c3⟩ => ?_⟩
  have := h4 s hs c1
  have r2 := ob_eq2 (S := S) (k := k) (left := ndn left s) hBD (by omega)
  omega
