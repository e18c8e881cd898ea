/-! class: which first counts fit a law -/
def mb (h : Nat) : Int32 := if h = 0 then -1 else nI (h - 1)
def mTo (a b h : Nat) : Nat := if b < h then (100 * (h - 1 - b) + 99) / (100 + a) + 1 else 0
theorem mTo_le {a b h : Nat} : mTo a b h ≤ h := by
  unfold mTo
  by_cases q : b < h
  · rw [if_pos q]
    have h1 : (100 * (h - 1 - b) + 99) / (100 + a) ≤ (100 * (h - 1 - b) + 99) / 100 := Nat.div_le_div_left (by omega) (by omega)
    omega
  · rw [if_neg q]
    omega
theorem lTo_le {a b y : Nat} : lTo a b y ≤ y := by
  have : y ≤ g1m a b y := by unfold g1m; omega
  exact g1m_ge.mp this
theorem g1m_mTo {a b x h : Nat} : g1m a b x < h ↔ x < mTo a b h := by
  unfold mTo
  by_cases q : b < h
  · rw [if_pos q]
    have := g1m_lt (a := a) (b := b) (x := x) (y := h - 1) (by omega)
    omega
  · rw [if_neg q]
    have : b ≤ g1m a b x := by unfold g1m; omega
    omega
theorem mostTo_mb {a b h : Nat} (ha : a ≤ 20) (hb : b ≤ 9) (hh : h ≤ 1000001) : f_X0_mostTo (mb h) (nI a) (nI b) = some (mb (mTo a b h)) := by
  unfold mb
  by_cases q : h = 0
  · rw [if_pos q, mostTo_neg hb, q]
    have : mTo a b 0 = 0 := if_neg (by omega)
    rw [this, if_pos rfl]
  · rw [if_neg q, mostTo_eq ha hb (by omega)]
    unfold mTo
    by_cases q2 : b < h
    · rw [if_pos (by omega), if_pos q2, if_neg (Nat.succ_ne_zero _), Nat.add_sub_cancel]
    · rw [if_neg (by omega), if_neg q2, if_pos rfl]
def gLo (S : ST) (k : Nat) : Nat := if S 0 k = 0 then 0 else S 1 k
def gHi (S : ST) (k : Nat) : Nat := if S 0 k = 0 then (if k = 0 then 9999 else 1000000) else S 2 k
theorem gLo_le {S : ST} (hI : GrowI S) {k : Nat} (hk : k < 12) : gLo S k ≤ 9999 := by
  unfold gLo
  by_cases q : S 0 k = 0
  · rw [if_pos q]; omega
  · rw [if_neg q]
    have := hI k hk q
    omega
theorem gHi_le {S : ST} (hI : GrowI S) {k : Nat} (hk : k < 12) : gHi S k ≤ 1000000 ∧ (k = 0 → gHi S k ≤ 9999) := by
  unfold gHi
  by_cases q : S 0 k = 0
  · rw [if_pos q]
    by_cases z : k = 0
    · rw [if_pos z]; omega
    · rw [if_neg z]; omega
  · rw [if_neg q]
    have := hI k hk q
    omega
def cf (S : ST) (a b : Nat) : Nat → Nat × Nat
  | 0 => (gLo S 11, gHi S 11 + 1)
  | n + 1 => (if gLo S (10 - n) < lTo a b (cf S a b n).1 then lTo a b (cf S a b n).1 else gLo S (10 - n), if mTo a b (cf S a b n).2 < gHi S (10 - n) + 1 then mTo a b (cf S a b n).2 else gHi S (10 - n) + 1)
theorem cf_le {S : ST} (hI : GrowI S) (a b : Nat) : ∀ n, n ≤ 11 → (cf S a b n).1 ≤ 9999 ∧ (cf S a b n).2 ≤ 1000001 ∧ (n = 11 → (cf S a b n).2 ≤ 10000)
  | 0, _ => by
    have h1 := gLo_le hI (k := 11) (by omega)
    have h2 := gHi_le hI (k := 11) (by omega)
    unfold cf
    dsimp only
    omega
  | n + 1, hn => by
    obtain ⟨h1, h2, -⟩ := cf_le hI a b n (by omega)
    have h3 := gLo_le hI (k := 10 - n) (by omega)
    have h4 := gHi_le hI (k := 10 - n) (by omega)
    have h5 := lTo_le (a := a) (b := b) (y := (cf S a b n).1)
    have h6 := mTo_le (a := a) (b := b) (h := (cf S a b n).2)
    have e : cf S a b (n + 1) = (if gLo S (10 - n) < lTo a b (cf S a b n).1 then lTo a b (cf S a b n).1 else gLo S (10 - n), if mTo a b (cf S a b n).2 < gHi S (10 - n) + 1 then mTo a b (cf S a b n).2 else gHi S (10 - n) + 1) := rfl
    rw [e]
    dsimp only
    refine ⟨?_, ?_, fun z => ?_⟩
    · split <;> omega
    · split <;> omega
    · split <;> omega
/-- what a count must keep from month 11 - n on -/
def okn (S : ST) (a b n x : Nat) : Prop := ∀ i, i ≤ n → gLo S (11 - n + i) ≤ gw a b i x ∧ gw a b i x ≤ gHi S (11 - n + i)
theorem cf_ok {S : ST} {a b : Nat} : ∀ n x, n ≤ 11 → ((cf S a b n).1 ≤ x ∧ x < (cf S a b n).2 ↔ okn S a b n x)
  | 0, x, _ => by
    unfold okn cf
    dsimp only
    constructor
    · intro h i hi
      have : i = 0 := by omega
      subst this
      exact ⟨h.1, Nat.lt_succ_iff.mp h.2⟩
    · intro h
      have := h 0 (Nat.le_refl _)
      exact ⟨this.1, Nat.lt_succ_iff.mpr this.2⟩
  | n + 1, x, hn => by
    have ih := cf_ok (S := S) (a := a) (b := b) n (g1m a b x) (by omega)
    have e : cf S a b (n + 1) = (if gLo S (10 - n) < lTo a b (cf S a b n).1 then lTo a b (cf S a b n).1 else gLo S (10 - n), if mTo a b (cf S a b n).2 < gHi S (10 - n) + 1 then mTo a b (cf S a b n).2 else gHi S (10 - n) + 1) := rfl
    rw [e]
    dsimp only
    have e1 : (if gLo S (10 - n) < lTo a b (cf S a b n).1 then lTo a b (cf S a b n).1 else gLo S (10 - n)) ≤ x ↔ gLo S (10 - n) ≤ x ∧ lTo a b (cf S a b n).1 ≤ x := by split <;> omega
    have e2 : x < (if mTo a b (cf S a b n).2 < gHi S (10 - n) + 1 then mTo a b (cf S a b n).2 else gHi S (10 - n) + 1) ↔ x ≤ gHi S (10 - n) ∧ x < mTo a b (cf S a b n).2 := by split <;> omega
    rw [e1, e2, ← g1m_ge, ← g1m_mTo]
    have sp : okn S a b (n + 1) x ↔ (gLo S (10 - n) ≤ x ∧ x ≤ gHi S (10 - n)) ∧ okn S a b n (g1m a b x) := by
      unfold okn
      constructor
      · intro h
        refine ⟨?_, fun i hi => ?_⟩
        · have := h 0 (by omega)
          rw [show 11 - (n + 1) + 0 = 10 - n by omega] at this
          exact this
        · have := h (i + 1) (by omega)
          rw [gw_front, show 11 - (n + 1) + (i + 1) = 11 - n + i by omega] at this
          exact this
      · rintro ⟨h1, h2⟩ i hi
        cases i with
        | zero =>
          rw [show 11 - (n + 1) + 0 = 10 - n by omega]
          exact h1
        | succ i =>
          have := h2 i (by omega)
          rw [gw_front, show 11 - (n + 1) + (i + 1) = 11 - n + i by omega]
          exact this
    rw [sp, ← ih]
    constructor
    · rintro ⟨⟨h1, h2⟩, h3, h4⟩
      exact ⟨⟨h1, h3⟩, h2, h4⟩
    · rintro ⟨⟨h1, h3⟩, h2, h4⟩
      exact ⟨⟨h1, h2⟩, h3, h4⟩
theorem mb_s {h : Nat} : mb (h + 1) = nI h := by
  unfold mb
  rw [if_neg (by omega), Nat.add_sub_cancel]
theorem mb_lt {g h : Nat} (hg : g < 2 ^ 31) (hh : h < 2 ^ 31) : mb g < mb h ↔ g < h := by
  unfold mb
  by_cases q1 : g = 0
  · rw [if_pos q1]
    by_cases q2 : h = 0
    · rw [if_pos q2]
      exact ⟨fun h => absurd h (by decide), fun h => by omega⟩
    · rw [if_neg q2]
      refine ⟨fun _ => by omega, fun _ => ?_⟩
      rw [Int32.lt_iff_toInt_lt, nI_toInt (by omega)]
      have : (-1 : Int32).toInt = -1 := rfl
      omega
  · rw [if_neg q1]
    by_cases q2 : h = 0
    · rw [if_pos q2]
      refine ⟨fun h => ?_, fun h => by omega⟩
      rw [Int32.lt_iff_toInt_lt, nI_toInt (by omega)] at h
      have : (-1 : Int32).toInt = -1 := rfl
      omega
    · rw [if_neg q2, nI_ltI (by omega) (by omega)]
      omega
theorem c54L {S : ST} {w : ZW} (hC : GrowC S w.1) : ∀ k, k < 12 → w.1 54 k = nI (gLo S k) ∧ w.1 55 k = nI (gHi S k) := fun k hk => by
    obtain ⟨h1, h2⟩ := hC k hk
    unfold gLo gHi
    refine ⟨h1, ?_⟩
    rw [h2]
theorem fits_lp {S : ST} {w : ZW} (hI : GrowI S) (hC : GrowC S w.1) {a b : Nat} (ha : a ≤ 20) (hb : b ≤ 9) : z_iter (f_X0_fits_L21 (nI a) (nI b) w) z_fuel (nI (cf S a b 0).1, mb (cf S a b 0).2, cd 11 0) = some (nI (cf S a b 11).1, mb (cf S a b 11).2) := by
    have c54 := c54L hC
    refine it_count (fun n => (nI (cf S a b n).1, mb (cf S a b n).2, cd 11 n)) 11 _ (fun n hn => ?_) ?_ (zf (by omega))
    · obtain ⟨p1, p2, -⟩ := cf_le hI a b n (by omega)
      obtain ⟨q1, q2⟩ := c54 (10 - n) (by omega)
      have l1 := lTo_le (a := a) (b := b) (y := (cf S a b n).1)
      have l2 := mTo_le (a := a) (b := b) (h := (cf S a b n).2)
      have g1 := gLo_le hI (k := 10 - n) (by omega)
      have g2 := gHi_le hI (k := 10 - n) (by omega)
      have e : cf S a b (n + 1) = (if gLo S (10 - n) < lTo a b (cf S a b n).1 then lTo a b (cf S a b n).1 else gLo S (10 - n), if mTo a b (cf S a b n).2 < gHi S (10 - n) + 1 then mTo a b (cf S a b n).2 else gHi S (10 - n) + 1) := rfl
      unfold f_X0_fits_L21
      simp only []
      rw [cd_s hn, cd_i hn, show 11 - 1 - n = 10 - n by omega, if_neg (nI_pos (by omega)), z_in_t (show 10 - n < 12 by omega) (by omega), if_pos rfl, leastTo_eq ha hb (by omega), nI_clamp (show 10 - n < 2 ^ 31 by omega), q1, q2]
      simp only [Option.bind_some, z_let, if_true]
      rw [mostTo_mb ha hb p2, e]
      simp only [Option.bind_some]
      rw [ilt (by omega) (by omega), ← mb_s (h := gHi S (10 - n))]
      simp only [mb_lt (show mTo a b (cf S a b n).2 < 2 ^ 31 by omega) (show gHi S (10 - n) + 1 < 2 ^ 31 by omega)]
      by_cases t1 : gLo S (10 - n) < lTo a b (cf S a b n).1 <;> by_cases t2 : mTo a b (cf S a b n).2 < gHi S (10 - n) + 1 <;> simp only [t1, t2, if_true, if_false]
    · unfold f_X0_fits_L21
      simp only []
      rw [cd_n, if_pos (by decide)]
theorem zl {β γ : Type} (x : β) (f : β → γ) : z_let x f = f x := rfl
theorem fits11 {S : ST} {w : ZW} (hI : GrowI S) (hC : GrowC S w.1) {a b : Nat} (ha : a ≤ 20) (hb : b ≤ 9) : f_X0_fits w (nI a) (nI b) = some (if (cf S a b 11).1 < (cf S a b 11).2 then 1 else 0, z_upI (z_upI w 53 2 (nI (cf S a b 11).1)) 53 3 (mb (cf S a b 11).2)) := by
  obtain ⟨b1, b2, b3⟩ := cf_le hI a b 11 (by omega)
  have lp := fits_lp (w := w) hI hC ha hb
  have c0 : cd 11 0 = 10 := by decide
  have cf0 : cf S a b 0 = (gLo S 11, gHi S 11 + 1) := rfl
  rw [cf0, c0] at lp
  dsimp only at lp
  rw [mb_s] at lp
  generalize hcf : cf S a b 11 = r at b1 b2 b3 lp ⊢
  have c54 := c54L hC
  obtain ⟨q1, q2⟩ := c54 11 (by omega)
  unfold f_X0_fits
  rw [show (11 : Int32) = nI 11 from rfl, z_in_t (show 11 < 12 by omega) (by omega), nI_clamp (show 11 < 2 ^ 31 by omega), q1, q2]
  rw [if_pos rfl, zl, if_pos rfl, zl, lp, Option.bind_some, zl, zl]
  dsimp only
  rw [← mb_s (h := (r).1)]
  simp only [mb_lt (show (r).2 < 2 ^ 31 by omega) (show (r).1 + 1 < 2 ^ 31 by omega)]
  by_cases t : (r).1 < (r).2
  · rw [if_neg (by omega), if_pos t]
  · rw [if_pos (by omega), if_neg t]
