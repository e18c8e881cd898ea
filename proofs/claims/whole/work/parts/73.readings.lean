/-! readings -/
def oka (ok : Nat → Bool) : Nat → Nat → Bool
  | _, 0 => true
  | i, d + 1 => ok i && oka ok (i + 1) d
theorem oka_all {ok : Nat → Bool} : ∀ d i, oka ok i d = true ↔ ∀ m, i ≤ m → m < i + d → ok m = true
  | 0, i => by unfold oka; exact ⟨fun _ m h1 h2 => by omega, fun _ => rfl⟩
  | d + 1, i => by
    unfold oka
    rw [Bool.and_eq_true, oka_all d (i + 1)]
    constructor
    · rintro ⟨h1, h2⟩ m h3 h4
      by_cases e : m = i
      · subst e; exact h1
      · exact h2 m (by omega) (by omega)
    · intro h
      exact ⟨h i (by omega) (by omega), fun m h1 h2 => h m (by omega) (by omega)⟩
theorem fits_eq {L : Nat} {S : ST} {w : ZW} (hI : NamesI L S) (hM : NamesM L S w.1) {l o k p : Nat} {f : Nat → Nat} (hl : l < 14) (ho : o = 0 ∨ o = 6) (hk : k ≤ 6) (hf : ∀ m, m < k → 63 ≤ f m ∧ f m < 256) (hw : ∀ m, m < k → w.1 143 (12 * l + o + m) = nI (f m)) (hp : p < S 0 0) : f_X12_fits w (nI l) (nI o) (nI k) (nI p) = some (if agb f (fun m => S 2 (6 * p + m)) k (S 1 p) = true then 1 else 0) := by
  have hq := hI.1
  obtain ⟨i1, i2, i3⟩ := hI.2.2.2.1 p hp
  obtain ⟨m1, m2⟩ := hM.2.1 p hp
  have o6 : o ≤ 6 := by omega
  have lp0 : ∀ N i, 0 < N → z_iter (f_X12_fits_L21 (nI k) (nI l) (nI o) w (nI p)) N ((0 : Int32), nI i) = some 0 := by
    intro N i hN
    obtain ⟨N, rfl⟩ : ∃ M, N = M + 1 := ⟨N - 1, by omega⟩
    have : f_X12_fits_L21 (nI k) (nI l) (nI o) w (nI p) ((0 : Int32), nI i) = some (.inr 0) := by
      unfold f_X12_fits_L21
      simp only [if_true]
      split <;> rfl
    simp [z_iter, this]
  have lp1 : S 1 p = k → ∀ (d i N : Nat), i + d = k → d + 1 < N → z_iter (f_X12_fits_L21 (nI k) (nI l) (nI o) w (nI p)) N ((1 : Int32), nI i) = some (if oka (fun m => decide (f m = 63) || decide (f m = S 2 (6 * p + m))) i d = true then 1 else 0) := by
    intro hs d
    induction d with
    | zero =>
      intro i N h1 h2
      obtain ⟨N, rfl⟩ : ∃ M, N = M + 1 := ⟨N - 1, by omega⟩
      have : f_X12_fits_L21 (nI k) (nI l) (nI o) w (nI p) ((1 : Int32), nI i) = some (.inr 1) := by
        unfold f_X12_fits_L21
        simp only []
        rw [if_pos (nle (by omega))]
      simp [z_iter, this, oka]
    | succ d ih =>
      intro i N h1 h2
      obtain ⟨N, rfl⟩ : ∃ M, N = M + 1 := ⟨N - 1, by omega⟩
      have hfi := hf i (by omega)
      have hgi := i3 i (by omega)
      have e : f_X12_fits_L21 (nI k) (nI l) (nI o) w (nI p) ((1 : Int32), nI i) = some (.inl (if (decide (f i = 63) || decide (f i = S 2 (6 * p + i))) = true then 1 else 0, nI (i + 1))) := by
        unfold f_X12_fits_L21
        simp only []
        rw [if_neg (nnle (by omega)), if_neg i10, show (12 : Int32) = nI 12 from rfl, pk_mul, nI_add, nI_add, z_in_t (show 12 * l + o + i < 168 by omega) (by omega), if_pos rfl, nI_clamp (show 12 * l + o + i < 2 ^ 31 by omega), hw i (by omega)]
        simp only [z_let]
        rw [show (63 : Int32) = nI 63 from rfl, ieq (by omega) (by omega), show (6 : Int32) = nI 6 from rfl, pk_mul, nI_add, z_in_t (show 6 * p + i < 48 by omega) (by omega), if_pos rfl, nI_clamp (show 6 * p + i < 2 ^ 31 by omega), m2 i (by omega), ieq (by omega) (by omega), nI_1]
        by_cases q1 : f i = 63
        · simp [q1]
        · by_cases q2 : f i = S 2 (6 * p + i)
          · rw [if_neg q1, if_pos q2, if_pos (by simp [q2])]
          · rw [if_neg q1, if_neg q2, if_neg (by simp [q1, q2])]
      simp only [z_iter, e, Option.bind_some, Sum.elim_inl]
      show z_iter _ N _ = _
      unfold oka
      by_cases q : (decide (f i = 63) || decide (f i = S 2 (6 * p + i))) = true
      · rw [if_pos q, ih (i + 1) N (by omega) (by omega), q, Bool.true_and]
      · rw [if_neg q, lp0 N (i + 1) (by omega)]
        simp only [Bool.not_eq_true] at q
        rw [q, Bool.false_and]
        rfl
  have bo : ∀ b : Bool, z_bo (if b = true then (1 : Int32) else 0) = true := bo_if
  unfold f_X12_fits
  rw [z_in_t (show p < 8 by omega) (by omega), if_pos rfl, nI_clamp (show p < 2 ^ 31 by omega), m1, ieq (by omega) (by omega)]
  unfold f_X12_fits_J16
  by_cases hs : S 1 p = k
  · rw [if_pos hs, show ((1 : Int32), (0 : Int32)) = (1, nI 0) from rfl, lp1 hs k 0 z_fuel (by omega) (zf (by omega))]
    simp only [Option.bind_some]
    rw [bo, if_pos rfl]
    have : (oka (fun m => decide (f m = 63) || decide (f m = S 2 (6 * p + m))) 0 k = true) ↔ agb f (fun m => S 2 (6 * p + m)) k (S 1 p) = true := by
      rw [oka_all]
      unfold agb
      simp only [Bool.or_eq_true, decide_eq_true_eq]
      exact ⟨fun h => ⟨hs.symm, fun m hm => h m (by omega) (by omega)⟩, fun h m _ hm => h.2 m (by omega)⟩
    by_cases q : oka (fun m => decide (f m = 63) || decide (f m = S 2 (6 * p + m))) 0 k = true
    · rw [if_pos q, if_pos (this.mp q)]
    · rw [if_neg q, if_neg (fun h => q (this.mpr h))]
  · rw [if_neg hs, show ((0 : Int32), (0 : Int32)) = (0, nI 0) from rfl, lp0 z_fuel 0 (zf (by omega))]
    simp only [Option.bind_some]
    rw [show z_bo 0 = true from rfl, if_pos rfl, if_neg]
    unfold agb
    simp only [decide_eq_true_eq]
    exact fun h => hs h.1.symm
/-- who can be first, who second -/
def wB1 (S : ST) (l : Nat) : Nat := whoB S (fun k => S 5 (12 * l + k)) (S 3 l) (S 0 0)
def wB2 (S : ST) (l : Nat) : Nat := whoB S (fun k => S 5 (12 * l + 6 + k)) (S 4 l) (S 0 0)
def cb (S : ST) (l p q : Nat) : Bool := ((wB1 S l).testBit p && (wB2 S l).testBit q) || ((wB1 S l).testBit q && (wB2 S l).testBit p)
theorem wB1_lt {L : Nat} {S : ST} (hI : NamesI L S) {l : Nat} : wB1 S l < 2 ^ 8 := Nat.lt_of_lt_of_le (whoB_lt _) (Nat.pow_le_pow_right (by omega) hI.1)
theorem wB2_lt {L : Nat} {S : ST} (hI : NamesI L S) {l : Nat} : wB2 S l < 2 ^ 8 := Nat.lt_of_lt_of_le (whoB_lt _) (Nat.pow_le_pow_right (by omega) hI.1)
theorem worn_ok {L : Nat} {S : ST} (hI : NamesI L S) {l : Nat} (hb : (S 0 1).testBit l = true) : (∀ m, m < S 3 l → 63 ≤ S 5 (12 * l + m) ∧ S 5 (12 * l + m) < 256) ∧ ∀ m, m < S 4 l → 63 ≤ S 5 (12 * l + 6 + m) ∧ S 5 (12 * l + 6 + m) < 256 := by
  obtain ⟨-, -, b3, b4⟩ := hI.2.2.2.2 l hb
  exact ⟨fun m hm => by have := b3 m hm; omega, fun m hm => by have := b4 m hm; omega⟩
theorem and_bit {a b : Bool} : ((nI (if a = true then 1 else 0) &&& nI (if b = true then 1 else 0)) = 0) ↔ (a && b) = false := by cases a <;> cases b <;> decide
theorem canBe_eq {x y p q : Nat} (hx : x < 2 ^ 8) (hy : y < 2 ^ 8) (hp : p < 8) (hq : q < 8) : f_X2_canBe (nI x) (nI y) (nI p) (nI q) = some (if ((x.testBit p && y.testBit q) || (x.testBit q && y.testBit p)) = true then 1 else 0) := by
  have key : ∀ i j, i < 8 → j < 8 → ((((nI x >>> (nI i &&& 31)) &&& (nI y >>> (nI j &&& 31))) &&& (1 : Int32)) = 0 ↔ (x.testBit i && y.testBit j) = false) := by
    intro i j hi hj
    rw [nI_shr (by omega) (by omega), nI_shr (by omega) (by omega), nI_and, nI_one, show (0 : Int32) = nI 0 from rfl, nI_inj (by omega) (by omega)]
    have e : ((x >>> i) &&& (y >>> j)) % 2 = if ((x >>> i) &&& (y >>> j)).testBit 0 = true then 1 else 0 := by
      rw [Nat.testBit_zero]
      have : ((x >>> i) &&& (y >>> j)) % 2 < 2 := Nat.mod_lt _ (by omega)
      by_cases q : ((x >>> i) &&& (y >>> j)) % 2 = 1
      · simp [q]
      · simp [show ((x >>> i) &&& (y >>> j)) % 2 = 0 by omega]
    rw [e, Nat.testBit_and, Nat.testBit_shiftRight, Nat.testBit_shiftRight, Nat.add_zero, Nat.add_zero]
    cases x.testBit i <;> cases y.testBit j <;> simp
  unfold f_X2_canBe
  simp only [key p q hp hq, key q p hq hp]
  cases x.testBit p <;> cases y.testBit q <;> cases x.testBit q <;> cases y.testBit p <;> simp
theorem isRead_eq {L : Nat} {S : ST} {w : ZW} (hI : NamesI L S) (hM : NamesM L S w.1) {l p q : Nat} (hl : l < L) (hL : L ≤ 14) (hb : (S 0 1).testBit l = true) (hp : p < S 0 0) (hq : q < S 0 0) : f_X12_isRead w (nI l) (nI p) (nI q) = some (if cb S l p q = true then 1 else 0) := by
  obtain ⟨b1, b2, -⟩ := hI.2.2.2.2 l hb
  obtain ⟨v1, v2⟩ := worn_ok hI hb
  obtain ⟨m1, m2, m3⟩ := hM.2.2.2 l hb
  have e144 : w.1 144 l = nI (S 3 l) := by rw [hM.2.2.1 l hl, if_pos hb]
  have f1 : ∀ r, r < S 0 0 → f_X12_fits w (nI l) (0 : Int32) (nI (S 3 l)) (nI r) = some (if (wB1 S l).testBit r = true then 1 else 0) := fun r hr => by
    have := fits_eq hI hM (l := l) (o := 0) (k := S 3 l) (p := r) (f := fun k => S 5 (12 * l + k)) (by omega) (Or.inl rfl) b1.2 v1 m2 hr
    unfold wB1
    rw [whoB_bit, decide_eq_true hr, Bool.true_and]
    exact this
  have f2 : ∀ r, r < S 0 0 → f_X12_fits w (nI l) (6 : Int32) (nI (S 4 l)) (nI r) = some (if (wB2 S l).testBit r = true then 1 else 0) := fun r hr => by
    have := fits_eq hI hM (l := l) (o := 6) (k := S 4 l) (p := r) (f := fun k => S 5 (12 * l + 6 + k)) (by omega) (Or.inr rfl) b2.2 v2 m3 hr
    unfold wB2
    rw [whoB_bit, decide_eq_true hr, Bool.true_and]
    exact this
  have j37 : f_X12_isRead_J37 (nI l) w (nI q) (nI p) = some (if ((wB1 S l).testBit q && (wB2 S l).testBit p) = true then 1 else 0) := by
    unfold f_X12_isRead_J37 f_X12_isRead_J38
    rw [if_pos rfl, z_in_t (show l < 14 by omega) (by omega), if_pos rfl, if_pos rfl, nI_clamp (show l < 2 ^ 31 by omega), e144, f1 q hq, m1, f2 p hp]
    simp only [Option.bind_some, if10]
    cases (wB1 S l).testBit q <;> cases (wB2 S l).testBit p <;> rfl
  unfold f_X12_isRead cb
  rw [z_in_t (show l < 14 by omega) (by omega), if_pos rfl, nI_clamp (show l < 2 ^ 31 by omega), e144, f1 p hp, m1, f2 q hq, j37]
  simp only [Option.bind_some, if10, if_true]
  have j38 : f_X12_isRead_J38 (nI l) w (nI q) (nI p) 1 = some 1 := by
    unfold f_X12_isRead_J38
    rw [if_neg i10]
  rw [j38]
  cases (wB1 S l).testBit p <;> cases (wB2 S l).testBit q <;> simp
/-- pairs counted -/
def cq (g : Nat → Nat → Bool) (p : Nat) : Nat → Nat → Nat
  | _, 0 => 0
  | q, d + 1 => (if g p q = true then 1 else 0) + cq g p (q + 1) d
def rdn (g : Nat → Nat → Bool) (n : Nat) : Nat → Nat
  | 0 => 0
  | p + 1 => rdn g n p + cq g p (p + 1) (n - (p + 1))
theorem it_cq {B : Int32 × Int32 → Option ((Int32 × Int32) ⊕ Int32)} {g : Nat → Nat → Bool} {n p : Nat} (hs : ∀ a q, q < n → p < q → B (nI a, nI q) = some (.inl (nI (a + (if g p q = true then 1 else 0)), nI (q + 1)))) (he : ∀ a, B (nI a, nI n) = some (.inr (nI a))) : ∀ (d q a N : Nat), p < q → q + d = n → d < N → z_iter B N (nI a, nI q) = some (nI (a + cq g p q d)) := by
  intro d
  induction d with
  | zero =>
    intro q a N hq h1 h2
    obtain ⟨N, rfl⟩ : ∃ M, N = M + 1 := ⟨N - 1, by omega⟩
    have : q = n := by omega
    subst this
    simp [z_iter, he, cq]
  | succ d ih =>
    intro q a N hq h1 h2
    obtain ⟨N, rfl⟩ : ∃ M, N = M + 1 := ⟨N - 1, by omega⟩
    simp only [z_iter, hs a q (by omega) hq, Option.bind_some, Sum.elim_inl]
    show z_iter _ N _ = _
    rw [ih (q + 1) _ N (by omega) (by omega) (by omega), Nat.add_assoc]
    rfl
theorem it_rd {B : Int32 × Int32 → Option ((Int32 × Int32) ⊕ Int32)} {g : Nat → Nat → Bool} {n : Nat} (hn : n < 1000) (hs : ∀ a p, p < n → B (nI a, nI p) = some (.inl (nI (a + cq g p (p + 1) (n - (p + 1))), nI (p + 1)))) (he : ∀ a, B (nI a, nI n) = some (.inr (nI a))) : z_iter B z_fuel ((0 : Int32), (0 : Int32)) = some (nI (rdn g n n)) := by
  rw [show ((0 : Int32), (0 : Int32)) = (nI (rdn g n 0), nI 0) from rfl]
  exact it_count (fun p => (nI (rdn g n p), nI p)) n _ (fun p hp => hs _ p hp) (he _) (zf (by omega))
theorem hasLetters_eq {S : ST} {w : ZW} (hC : NamesC S w.1 w.2) {L l : Nat} (hI : NamesI L S) (hL : L ≤ 14) (hl : l < 32) : f_X2_hasLetters w (nI l) = some (if (S 0 1).testBit l = true then 1 else 0) := by
  unfold f_X2_hasLetters
  rw [hC.2.1]
  simp only [nI_bit0 (p31 hL hI.2.1) hl]
  cases (S 0 1).testBit l <;> rfl
theorem readingsOf_eq {L : Nat} {S : ST} {w : ZW} (hI : NamesI L S) (hC : NamesC S w.1 w.2) {l : Nat} (hl : l < 14) (hb : (S 0 1).testBit l = true) : f_X2_readingsOf w (nI l) = some (nI (rdn (cb S l) (S 0 0) (S 0 0))) := by
  have hq := hI.1
  obtain ⟨b1, b2, -⟩ := hI.2.2.2.2 l hb
  obtain ⟨v1, v2⟩ := worn_ok hI hb
  obtain ⟨c1, c2⟩ := hC.2.2.2 l hb
  have e1 : f_X2_peopleOfFirst w (nI l) = some (nI (wB1 S l)) := by
    unfold f_X2_peopleOfFirst
    rw [z_in_t hl (by omega), if_pos rfl, nI_clamp (show l < 2 ^ 31 by omega), c1, who_eq hI hC b1.2 v1]
    rfl
  have e2 : f_X2_peopleOfSecond w (nI l) = some (nI (wB2 S l)) := by
    unfold f_X2_peopleOfSecond
    rw [z_in_t hl (by omega), if_pos rfl, nI_clamp (show l < 2 ^ 31 by omega), c2, who_eq hI hC b2.2 v2]
    rfl
  unfold f_X2_readingsOf
  rw [e1, e2]
  simp only [Option.bind_some]
  rw [it_rd (g := cb S l) (n := S 0 0) (by omega) (fun a p hp => ?_) (fun a => ?_)]
  · rfl
  · unfold f_X2_readingsOf_L18
    simp only []
    rw [hC.1, if_neg (nnle hp), nI_1, it_cq (g := cb S l) (n := S 0 0) (p := p) (fun a' q hq' hpq => ?_) (fun a' => ?_) (S 0 0 - (p + 1)) (p + 1) a z_fuel (by omega) (by omega) (zf (by omega))]
    · rfl
    · unfold f_X2_readingsOf_L33
      simp only []
      rw [hC.1, if_neg (nnle hq'), canBe_eq (wB1_lt hI) (wB2_lt hI) (by omega) (by omega)]
      simp only [Option.bind_some, if10, nI_1]
      show (if cb S l p q = true then _ else _) = _
      by_cases z : cb S l p q = true
      · rw [if_pos z, if_pos z]
      · rw [if_neg z, if_neg z]
        rfl
    · unfold f_X2_readingsOf_L33
      simp only []
      rw [hC.1, if_pos (Int32.le_refl _)]
  · unfold f_X2_readingsOf_L18
    simp only []
    rw [hC.1, if_pos (Int32.le_refl _)]
theorem sim_readings {w : ZW} (h : Rel w) (a : Int32) : ∃ r, f_X11_readings w a = some r ∧ f_X12_readings w a = some r := by
  obtain ⟨A, hI, hC, hM, -⟩ := h
  have hL := hI.1.2.1
  have hq := hI.2.2.1.1
  unfold f_X11_readings f_X12_readings
  rw [X4_hasLock_eq hC.1.2.1, X12_isLock_eq (by omega) hM.1.2.1]
  simp only [Option.bind_some, if10]
  by_cases hb : ixb (A 0 0 1) a = true
  · rw [if_pos hb, if_pos hb]
    obtain ⟨l, hl, rfl⟩ := ix_t (by omega) hb
    rw [hasLetters_eq hC.2.2.1 hI.2.2.1 hL (by omega), z_in_t (show l < 14 by omega) (by omega), if_pos rfl, nI_clamp (show l < 2 ^ 31 by omega), hM.2.2.1.2.2.1 l hl]
    simp only [Option.bind_some, if10]
    by_cases tb : (A 2 0 1).testBit l = true
    · have s3 := (hI.2.2.1.2.2.2.2 l tb).1
      rw [if_pos tb, if_pos tb, show (0 : Int32) = nI 0 from rfl, ieq (by omega) (by omega), if_neg (by omega), readingsOf_eq hI.2.2.1 hC.2.2.1 (by omega) tb]
      refine ⟨_, rfl, ?_⟩
      rw [show (nI 0, nI 0) = ((0 : Int32), (0 : Int32)) from rfl, it_rd (g := cb (A 2) l) (n := A 2 0 0) (by omega) (fun a p hp => ?_) (fun a => ?_)]
      · rfl
      · unfold f_X12_readings_L26
        simp only []
        rw [hM.2.2.1.1, if_neg (nnle hp), nI_1, it_cq (g := cb (A 2) l) (n := A 2 0 0) (p := p) (fun a' q hq' hpq => ?_) (fun a' => ?_) (A 2 0 0 - (p + 1)) (p + 1) a z_fuel (by omega) (by omega) (zf (by omega))]
        · rfl
        · unfold f_X12_readings_L39
          simp only []
          rw [hM.2.2.1.1, if_neg (nnle hq'), isRead_eq hI.2.2.1 hM.2.2.1 hl hL tb hp hq']
          simp only [Option.bind_some, if10, nI_1]
          by_cases z : cb (A 2) l p q = true
          · rw [if_pos z, if_pos z]
          · rw [if_neg z, if_neg z]
            exact congrArg (fun x => some (Sum.inl (x, nI (q + 1)))) (nI_add a' 0)
        · unfold f_X12_readings_L39
          simp only []
          rw [hM.2.2.1.1, if_pos (Int32.le_refl _)]
      · unfold f_X12_readings_L26
        simp only []
        rw [hM.2.2.1.1, if_pos (Int32.le_refl _)]
    · rw [if_neg tb, if_neg tb, if_pos (show nI 0 = 0 from rfl)]
      exact ⟨_, rfl, rfl⟩
  · rw [if_neg hb, if_neg hb]
    exact ⟨_, rfl, rfl⟩
