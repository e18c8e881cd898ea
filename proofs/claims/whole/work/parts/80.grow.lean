/-! growth: one month's step, and many -/
def g1m (a b x : Nat) : Nat := x + x * a / 100 + b
def gw (a b : Nat) : Nat → Nat → Nat
  | 0, x => x
  | k + 1, x => g1m a b (gw a b k x)
theorem g1m_mono {a b x y : Nat} (h : x ≤ y) : g1m a b x ≤ g1m a b y := by
  unfold g1m
  have := Nat.div_le_div_right (c := 100) (Nat.mul_le_mul_right a h)
  omega
theorem gw_mono {a b x y : Nat} (h : x ≤ y) : ∀ k, gw a b k x ≤ gw a b k y
  | 0 => h
  | k + 1 => g1m_mono (gw_mono h k)
/-- the first month's step drawn in front -/
theorem gw_front {a b : Nat} : ∀ k x, gw a b (k + 1) x = gw a b k (g1m a b x)
  | 0, _ => rfl
  | k + 1, x => by
    show g1m a b (gw a b (k + 1) x) = g1m a b (gw a b k (g1m a b x))
    rw [gw_front k x]
theorem g1m_le {a b x : Nat} (ha : a ≤ 20) (hb : b ≤ 9) : g1m a b x ≤ x + x / 5 + 9 := by
  unfold g1m
  have : x * a ≤ x * 20 := Nat.mul_le_mul_left _ ha
  omega
theorem gw_le {a b x : Nat} (ha : a ≤ 20) (hb : b ≤ 9) (hx : x ≤ 10000) : ∀ k, k ≤ 11 → gw a b k x ≤ 1000000 := by
  have st : ∀ k u v, gw a b k x ≤ u → u + u / 5 + 9 ≤ v → gw a b (k + 1) x ≤ v := fun k u v h1 h2 => by
    have h3 := g1m_le (a := a) (b := b) (x := gw a b k x) ha hb
    have h4 : gw a b (k + 1) x = g1m a b (gw a b k x) := rfl
    have : gw a b k x / 5 ≤ u / 5 := Nat.div_le_div_right h1
    omega
  have h0 : gw a b 0 x ≤ 10000 := hx
  have h1 : gw a b 1 x ≤ 12009 := st 0 _ 12009 h0 (by omega)
  have h2 : gw a b 2 x ≤ 14430 := st 1 _ 14430 h1 (by omega)
  have h3 : gw a b 3 x ≤ 17330 := st 2 _ 17330 h2 (by omega)
  have h4 : gw a b 4 x ≤ 20810 := st 3 _ 20810 h3 (by omega)
  have h5 : gw a b 5 x ≤ 24990 := st 4 _ 24990 h4 (by omega)
  have h6 : gw a b 6 x ≤ 30000 := st 5 _ 30000 h5 (by omega)
  have h7 : gw a b 7 x ≤ 36010 := st 6 _ 36010 h6 (by omega)
  have h8 : gw a b 8 x ≤ 43230 := st 7 _ 43230 h7 (by omega)
  have h9 : gw a b 9 x ≤ 51890 := st 8 _ 51890 h8 (by omega)
  have h10 : gw a b 10 x ≤ 62280 := st 9 _ 62280 h9 (by omega)
  have h11 : gw a b 11 x ≤ 74750 := st 10 _ 74750 h10 (by omega)
  intro k hk
  have : k = 0 ∨ k = 1 ∨ k = 2 ∨ k = 3 ∨ k = 4 ∨ k = 5 ∨ k = 6 ∨ k = 7 ∨ k = 8 ∨ k = 9 ∨ k = 10 ∨ k = 11 := by omega
  rcases this with rfl | rfl | rfl | rfl | rfl | rfl | rfl | rfl | rfl | rfl | rfl | rfl <;> omega
theorem step_eq {a b x : Nat} (ha : a ≤ 20) (hx : x ≤ 1000000) : (nI x + (nI x * nI a) / (100 : Int32)) + nI b = nI (g1m a b x) := by
  have : x * a ≤ 1000000 * 20 := Nat.mul_le_mul hx ha
  rw [pk_mul, show (100 : Int32) = nI 100 from rfl, pk_div (by omega) (by omega) (by omega), nI_add, nI_add]
  rfl
theorem grow11 {a b x k : Nat} (ha : a ≤ 20) (hb : b ≤ 9) (hx : x ≤ 10000) (hk : k ≤ 11) : f_X0_grow (nI x) (nI a) (nI b) (nI k) = some (nI (gw a b k x)) := by
  unfold f_X0_grow
  rw [show (nI x, (0 : Int32)) = (nI (gw a b 0 x), nI 0) from rfl, it_count (fun i => (nI (gw a b i x), nI i)) k (nI (gw a b k x)) ?_ ?_ (zf (by omega))]
  · rfl
  · intro i hi
    unfold f_X0_grow_L6
    simp only []
    rw [if_neg (nnle hi), step_eq ha (gw_le ha hb hx i (by omega)), nI_1]
    rfl
  · unfold f_X0_grow_L6
    simp only []
    rw [if_pos (Int32.le_refl _)]
theorem grow12 {a b x k : Nat} (ha : a ≤ 20) (hb : b ≤ 9) (hx : x ≤ 10000) (hk : k ≤ 11) : f_X12_growsTo (nI x) (nI a) (nI b) (nI k) = some (nI (gw a b k x)) := by
  unfold f_X12_growsTo
  rw [show (nI x, (0 : Int32)) = (nI (gw a b 0 x), nI 0) from rfl, it_count (fun i => (nI (gw a b i x), nI i)) k (nI (gw a b k x)) ?_ ?_ (zf (by omega))]
  · rfl
  · intro i hi
    unfold f_X12_growsTo_L6
    simp only []
    rw [if_neg (nnle hi), step_eq ha (gw_le ha hb hx i (by omega)), nI_1]
    rfl
  · unfold f_X12_growsTo_L6
    simp only []
    rw [if_pos (Int32.le_refl _)]
/-- the step turned round -/
def lTo (a b y : Nat) : Nat := if b < y then (100 * (y - b) + 99 + a) / (100 + a) else 0
theorem g1m_ge {a b x y : Nat} : y ≤ g1m a b x ↔ lTo a b y ≤ x := by
  unfold g1m lTo
  by_cases h : b < y
  · rw [if_pos h]
    have e1 : x + x * a / 100 = (x * (100 + a)) / 100 := by
      rw [Nat.mul_add, show x * 100 + x * a = x * a + 100 * x by omega, Nat.add_mul_div_left _ _ (by omega)]
      omega
    have e2 : y ≤ x + x * a / 100 + b ↔ y - b ≤ (x * (100 + a)) / 100 := by omega
    rw [e2, Nat.le_div_iff_mul_le (by omega)]
    have e3 : (100 * (y - b) + 99 + a) / (100 + a) ≤ x ↔ 100 * (y - b) + 99 + a < (x + 1) * (100 + a) := by
      rw [← Nat.lt_succ_iff, Nat.div_lt_iff_lt_mul (by omega)]
    rw [e3, Nat.add_mul]
    omega
  · rw [if_neg h]
    omega
theorem g1m_lt {a b x y : Nat} (h : b ≤ y) : g1m a b x ≤ y ↔ x ≤ (100 * (y - b) + 99) / (100 + a) := by
  unfold g1m
  have e1 : x + x * a / 100 = (x * (100 + a)) / 100 := by
    rw [Nat.mul_add, show x * 100 + x * a = x * a + 100 * x by omega, Nat.add_mul_div_left _ _ (by omega)]
    omega
  rw [Nat.le_div_iff_mul_le (by omega)]
  have e2 : x + x * a / 100 + b ≤ y ↔ (x * (100 + a)) / 100 < (y - b) + 1 := by omega
  rw [e2, Nat.div_lt_iff_lt_mul (by omega)]
  omega
theorem leastTo_eq {a b y : Nat} (ha : a ≤ 20) (hb : b ≤ 9) (hy : y ≤ 1000000) : f_X0_leastTo (nI y) (nI a) (nI b) = some (nI (lTo a b y)) := by
  unfold f_X0_leastTo lTo
  rw [ilt (by omega) (by omega)]
  by_cases h : b < y
  · rw [if_pos h, if_pos h, show (100 : Int32) = nI 100 from rfl, show (99 : Int32) = nI 99 from rfl, pk_sub (by omega), pk_mul, nI_add, nI_add, nI_add, if_neg (by rw [show (0 : Int32) = nI 0 from rfl, nI_inj (by omega) (by omega)]; omega), pk_div (by omega) (by omega) (by omega)]
  · rw [if_neg h, if_neg h]
    rfl
theorem mostTo_eq {a b y : Nat} (ha : a ≤ 20) (hb : b ≤ 9) (hy : y ≤ 1000000) : f_X0_mostTo (nI y) (nI a) (nI b) = some (if b ≤ y then nI ((100 * (y - b) + 99) / (100 + a)) else -1) := by
  unfold f_X0_mostTo
  rw [ile (by omega) (by omega)]
  by_cases h : b ≤ y
  · rw [if_pos h, if_pos h, show (100 : Int32) = nI 100 from rfl, show (99 : Int32) = nI 99 from rfl, pk_sub h, pk_mul, nI_add, nI_add, if_neg (by rw [show (0 : Int32) = nI 0 from rfl, nI_inj (by omega) (by omega)]; omega), pk_div (by omega) (by omega) (by omega)]
  · rw [if_neg h, if_neg h]
theorem mostTo_neg {a b : Nat} (hb : b ≤ 9) : f_X0_mostTo (-1) (nI a) (nI b) = some (-1) := by
  unfold f_X0_mostTo
  rw [if_neg]
  intro h
  have h1 : (nI b).toInt ≤ (-1 : Int32).toInt := Int32.le_iff_toInt_le.mp h
  rw [nI_toInt (by omega)] at h1
  have : (-1 : Int32).toInt = -1 := rfl
  omega
