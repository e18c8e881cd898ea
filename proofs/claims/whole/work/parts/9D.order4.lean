/-! order: model -/
theorem cost12 {P : Nat} {S : ST} {w : ZW} (hI : NightI P S) (hP : P ≤ 6) (hp : w.1 130 0 = nI P) (hM : NightM P S w.1) {b n : Nat} (hb : b < 64) : f_X12_costs w (nI b) (nI n) = some (nI (wt S n b)) := by
  unfold f_X12_costs
  rw [show ((0 : Int32), (0 : Int32)) = (nI (wtn S n b 0), nI 0) from rfl, it_count (fun p => (nI (wtn S n b p), nI p)) P (nI (wt S n b)) ?_ ?_ (zf (by omega))]
  · rfl
  · intro p hq
    obtain ⟨h1, h2, h3⟩ := hM.2 p hq
    unfold f_X12_costs_L5
    dsimp only
    rw [hp, if_neg (nnle hq), z_in_t (show p < 6 by omega) (by omega), if_pos rfl, if_pos rfl, nI_clamp (show p < 2 ^ 31 by omega), h1, h2, mI, nI_add, nI_add, zl, nI_1, wtn_s]
    have e := nI_bit1 (b := b) (k := p) (by omega) (by omega)
    cases q : b.testBit p
    · rw [if_neg (fun h => by rw [e.mp h] at q; cases q), if_neg (by simp)]
      exact congrArg (fun z => some (Sum.inl (z, nI (p + 1)))) (nI_add _ 0)
    · rw [if_pos (e.mpr q), if_pos rfl]
  · unfold f_X12_costs_L5
    dsimp only
    rw [hp, if_pos (Int32.le_refl _), wtn_P hI hP]
theorem mbn_s {S : ST} {n s p : Nat} : mbn S n s (p + 1) = (mbn S n s p && (!(s.testBit p) || decide (S 3 p ≤ n))) := rfl
theorem mbn_P {P : Nat} {S : ST} (hI : NightI P S) (hP : P ≤ 6) (n s : Nat) : mbn S n s P = mbn S n s 6 := by
  rw [Bool.eq_iff_iff, mbn_iff, mbn_iff]
  constructor
  · intro h i hi hb
    by_cases z : i < P
    · exact h i z hb
    · have := (hI.2 i hi).2.2.2 (by omega)
      omega
  · exact fun h i hi => h i (by omega)
theorem may12 {P : Nat} {S : ST} {w : ZW} (hI : NightI P S) (hP : P ≤ 6) (hp : w.1 130 0 = nI P) (hM : NightM P S w.1) {s n : Nat} (hs : s < 64) (hn : n ≤ 12) : f_X12_mayCut w (nI s) (nI n) = some (if (decide (pc14 s ≤ S 0 0) && mbn S n s 6) = true then 1 else 0) := by
  have hc := hI.1
  have pl := pc_le (b := s)
  have lp : ∀ r : Bool, f_X12_mayCut_J16 w (nI s) (nI n) (if r = true then 1 else 0) = some (if (r && mbn S n s 6) = true then 1 else 0) := by
    intro r
    have l2 : z_iter (f_X12_mayCut_L20 w (nI s) (nI n)) z_fuel ((if r = true then (1 : Int32) else 0), (0 : Int32)) = some (if (r && mbn S n s P) = true then 1 else 0) := by
      rw [show ((if r = true then (1 : Int32) else 0), (0 : Int32)) = ((if (r && mbn S n s 0) = true then (1 : Int32) else 0), nI 0) by cases r <;> rfl]
      refine it_count (fun p => ((if (r && mbn S n s p) = true then (1 : Int32) else 0), nI p)) P _ (fun p hq => ?_) ?_ (zf (by omega))
      · obtain ⟨h1, h2, h3⟩ := hM.2 p hq
        have ht := (hI.2 p (by omega)).2.2.1
        unfold f_X12_mayCut_L20
        dsimp only
        rw [hp, if_neg (nnle hq), z_in_t (show p < 6 by omega) (by omega), nI_clamp (show p < 2 ^ 31 by omega), h3, ilt (by omega) (by omega), nI_1, mbn_s, if10]
        have e := nI_bit0 (b := s) (k := p) (by omega) (by omega)
        by_cases q : (r && mbn S n s p) = true
        · rw [if_pos q]
          rw [Bool.and_eq_true] at q
          rw [q.1, q.2]
          cases q2 : s.testBit p
          · rw [if_pos (e.mpr q2)]
            rfl
          · rw [if_neg (fun h => by rw [e.mp h] at q2; cases q2), if_pos rfl]
            by_cases y : S 3 p ≤ n
            · rw [if_neg (by omega), decide_eq_true y]
              rfl
            · rw [if_pos (by omega), decide_eq_false y]
              rfl
        · rw [if_neg q]
          simp only [Bool.not_eq_true] at q
          rw [← Bool.and_assoc, q]
          rfl
      · unfold f_X12_mayCut_L20
        dsimp only
        rw [hp, if_pos (Int32.le_refl _)]
    unfold f_X12_mayCut_J16
    rw [l2, Option.bind_some, bo_if, if_pos rfl, mbn_P hI hP]
  unfold f_X12_mayCut
  rw [size_eq (show s < 2 ^ 14 by omega), Option.bind_some, hM.1, ilt (by omega) (by omega)]
  by_cases q : pc14 s ≤ S 0 0
  · rw [if_neg (by omega), decide_eq_true q]
    exact lp true
  · rw [if_pos (by omega), decide_eq_false q]
    exact lp false
theorem j135 {b v i : Nat} (hb : b < 2 ^ 31) (hv : v < 2 ^ 31) : f_X12_settles_J135 (nI b) (nI i) (nI v) = some (.inl (nI (if v < b then v else b), nI (i + 1))) := by
  unfold f_X12_settles_J135
  rw [nI_1, ile hb hv]
  by_cases q : b ≤ v
  · rw [if_pos q, if_neg (by omega)]
  · rw [if_neg q, if_pos (by omega)]
theorem ix152 {n x : Nat} : ((64 : Int32) * nI n + 64) + nI x = nI (64 * n + 64 + x) := by
  rw [show (64 : Int32) = nI 64 from rfl, mI, nI_add, nI_add]
theorem ix152b {n x : Nat} : (64 : Int32) * nI n + nI x = nI (64 * n + x) := by
  rw [show (64 : Int32) = nI 64 from rfl, mI, nI_add]
theorem set_in {P : Nat} {S : ST} {w : ZW} (hI : NightI P S) (hP : P ≤ 6) (hp : w.1 130 0 = nI P) (hM : NightM P S w.1) {k left D : Nat} (hD : D = 1000000000) (hk : k ≤ 11) (hl : left < 64) (hrow : ∀ x, x < 64 → w.1 152 (64 * (12 - k) + x) = nI (ob S D k x)) (s1 : Int32 × ZW) (h1 : s1.1 = nI (11 - k)) : z_iter (f_X12_settles_L35 s1 (nI left) w) z_fuel (nI D, (0 : Int32)) = some (nI (ob S D (k + 1) left)) := by
  have hv : ∀ i, i < 64 → ob S D k (ndn left i) ≤ D ∧ wt S (11 - k) (ndn left i) ≤ 1188 := fun i hi => ⟨ob_B _ _, wt_le hI _ (by omega)⟩
  have ho : ∀ i, okv S (11 - k) left i = (decide (ndn i left = 0) && (decide (pc14 i ≤ S 0 0) && mbn S (11 - k) i 6)) := fun i => rfl
  rw [ob_s]
  have hv' : ∀ i, (fun s => wt S (11 - k) (ndn left s) + ob S D k (ndn left s)) i = wt S (11 - k) (ndn left i) + ob S D k (ndn left i) := fun i => rfl
  generalize okv S (11 - k) left = ok at ho ⊢
  generalize (fun s => wt S (11 - k) (ndn left s) + ob S D k (ndn left s)) = v at hv' ⊢
  have hrow' : ∀ i, i < 64 → w.1 152 (64 * (11 - k) + 64 + ndn left i) = nI (ob S D k (ndn left i)) := fun i hi => by
    rw [show 64 * (11 - k) + 64 = 64 * (12 - k) by omega]
    exact hrow _ (Nat.lt_of_le_of_lt ndn_le hl)
  generalize ob S D k = o at hv hv' hrow'
  clear hrow
  refine it_count (fun i => (nI (foldm ok v D i), nI i)) 64 _ (fun i hi => ?_) ?_ (zf (by omega))
  · have fB := foldm_B (ok := ok) (v := v) (B := D) i
    obtain ⟨o1, o2⟩ := hv i hi
    have oi := ho i
    have vi := hv' i
    have l : ndn left i < 64 := Nat.lt_of_le_of_lt ndn_le hl
    have l2 := ndn_le (a := i) (b := left)
    have z0 : nI (ndn i left) = 0 ↔ ndn i left = 0 := nI_inj (by omega) (show 0 < 2 ^ 31 by omega)
    have r0 := hrow' i hi
    have j99 : f_X12_settles_J99 w s1 (nI (foldm ok v D i)) (nI i) (nI (ndn left i)) = some (.inl (nI (foldm ok v D i), nI (i + 1))) := by
      unfold f_X12_settles_J99 f_X12_settles_J100
      rw [if_pos rfl, show (1000000000 : Int32) = nI 1000000000 from rfl, j135 (by omega) (by omega), if_neg (by omega)]
    rw [foldm_s]
    unfold f_X12_settles_L35
    dsimp only
    rw [h1, if_neg (show ¬ (64 : Int32) ≤ nI i from nnle (a := 64) hi), if_neg (show ¬ (12 : Int32) ≤ nI (11 - k) from nnle (b := 11 - k) (a := 12) (by omega)), zl, nI_ndn, nI_ndn, ix152, z_in_t (show 64 * (11 - k) + 64 + ndn left i < 832 by omega) (by omega), if_pos rfl, nI_clamp (show 64 * (11 - k) + 64 + ndn left i < 2 ^ 31 by omega), r0, j99]
    by_cases q1 : ndn i left = 0
    · rw [if_pos (z0.mpr q1)]
      by_cases q2 : D ≤ o (ndn left i)
      · rw [if_pos (show (1000000000 : Int32) ≤ nI (o (ndn left i)) from nle (a := 1000000000) (by omega)), if_neg (fun h => by have := h.2; omega)]
      · rw [if_neg (show ¬ (1000000000 : Int32) ≤ nI (o (ndn left i)) from nnle (a := 1000000000) (by omega)), may12 hI hP hp hM hi (by omega), Option.bind_some, if10]
        by_cases q3 : (decide (pc14 i ≤ S 0 0) && mbn S (11 - k) i 6) = true
        · have oo : ok i = true := by rw [oi, q3, decide_eq_true q1]; rfl
          rw [if_pos q3]
          unfold f_X12_settles_J100
          rw [if_neg i10, h1, cost12 hI hP hp hM l, Option.bind_some, ix152, z_in_t (show 64 * (11 - k) + 64 + ndn left i < 832 by omega) (by omega), if_pos rfl, nI_clamp (show 64 * (11 - k) + 64 + ndn left i < 2 ^ 31 by omega), r0, nI_add, j135 (by omega) (by omega), ← vi]
          by_cases q4 : v i < foldm ok v D i
          · rw [if_pos q4, if_pos ⟨oo, q4⟩]
          · rw [if_neg q4, if_neg (fun h => q4 h.2)]
        · rw [if_neg q3, if_neg (fun h => by
            have := h.1
            rw [oi, Bool.and_eq_true] at this
            exact q3 this.2)]
    · rw [if_neg (fun h => q1 (z0.mp h)), if_neg (fun h => by
        have := h.1
        rw [oi, Bool.and_eq_true, decide_eq_true_eq] at this
        exact q1 this.1)]
  · unfold f_X12_settles_L35
    dsimp only
    rw [show (64 : Int32) = nI 64 from rfl, if_pos (Int32.le_refl _)]
/-- one night's row -/
theorem j156 {n x : Nat} {v : Int32} {u : ZW} (s1 : Int32 × ZW) (h1 : s1.1 = nI n) (hn : n ≤ 12) (hx : x < 64) : f_X12_settles_J156 s1 (nI x) v u = some (.inl (nI (x + 1), z_upI u 152 (64 * n + x) v)) := by
  unfold f_X12_settles_J156
  rw [h1, ix152b, z_in_t (show 64 * n + x < 832 by omega) (by omega), if_pos rfl, nI_clamp (show 64 * n + x < 2 ^ 31 by omega), zl, nI_1]
theorem set_L9 {P : Nat} {S : ST} {w : ZW} (hI : NightI P S) (hP : P ≤ 6) (hp : w.1 130 0 = nI P) (hM : NightM P S w.1) {i x D : Nat} (hD : D = 1000000000) (hi : i ≤ 12) (hx : x < 64) (hrow : ∀ m, m < i → ∀ y, y < 64 → w.1 152 (64 * (12 - m) + y) = nI (ob S D m y)) (s1 : Int32 × ZW) (h1 : s1.1 = nI (12 - i)) : f_X12_settles_L9 s1 (nI x, w) = some (.inl (nI (x + 1), z_upI w 152 (64 * (12 - i) + x) (nI (ob S D i x)))) := by
  unfold f_X12_settles_L9 f_X12_settles_J29 f_X12_settles_J31
  dsimp only
  rw [if_neg (show ¬ (64 : Int32) ≤ nI x from nnle (a := 64) hx)]
  have e12 : s1.1 = 12 ↔ i = 0 := by
    rw [h1]
    have : nI (12 - i) = 12 ↔ 12 - i = 12 := nI_inj (by omega) (show 12 < 2 ^ 31 by omega)
    rw [this]
    omega
  cases i with
  | zero =>
    have s12 : s1.1 = 12 := e12.mpr rfl
    have lp : ∀ b : Int32, z_iter (f_X12_settles_L35 s1 (nI x) w) z_fuel (b, (0 : Int32)) = some b := fun b => by
      refine it_count (fun _ => (b, (0 : Int32))) 0 _ (fun i hi => by omega) ?_ (zf (by omega))
      unfold f_X12_settles_L35
      dsimp only
      rw [if_neg (by decide), s12, if_pos (by decide)]
    rw [if_pos s12, lp, lp, Option.bind_some, Option.bind_some, j156 s1 h1 (by omega) hx, j156 s1 h1 (by omega) hx]
    by_cases z : x = 0
    · rw [if_pos (by rw [z]; rfl), show ob S D 0 x = 0 from if_pos z]
      rfl
    · rw [if_neg (nI_nz z (by omega)), show ob S D 0 x = D from if_neg z, hD]
      rfl
  | succ k =>
    have lp := set_in hI hP hp hM hD (show k ≤ 11 by omega) hx (hrow k (by omega)) s1 (by rw [h1, show 12 - (k + 1) = 11 - k by omega])
    rw [show nI D = (1000000000 : Int32) by rw [hD]; rfl] at lp
    rw [if_neg (fun h => by have := e12.mp h; omega), lp, Option.bind_some, j156 s1 h1 (by omega) hx]
theorem set_lp {P : Nat} {S : ST} {w : ZW} (hI : NightI P S) (hP : P ≤ 6) (hp : w.1 130 0 = nI P) (hM : NightM P S w.1) {i D : Nat} (hD : D = 1000000000) (hi : i ≤ 12) (hrow : ∀ m, m < i → ∀ y, y < 64 → w.1 152 (64 * (12 - m) + y) = nI (ob S D m y)) (s1 : Int32 × ZW) (h1 : s1.1 = nI (12 - i)) : ∃ r, z_iter (f_X12_settles_L9 s1) z_fuel ((0 : Int32), w) = some r ∧ (∀ b j, b ≠ 152 → r.1 b j = w.1 b j) ∧ r.2 = w.2 ∧ ∀ m, m ≤ i → ∀ y, y < 64 → r.1 152 (64 * (12 - m) + y) = nI (ob S D m y) := by
  have key : ∃ r, z_iter (f_X12_settles_L9 s1) z_fuel ((0 : Int32), w) = some r ∧ (∀ b j, b ≠ 152 → r.1 b j = w.1 b j) ∧ r.2 = w.2 ∧ (∀ m, m < i → ∀ y, y < 64 → r.1 152 (64 * (12 - m) + y) = nI (ob S D m y)) ∧ ∀ y, y < 64 → r.1 152 (64 * (12 - i) + y) = nI (ob S D i y) := by
    refine it_inv (fun x (s : Int32 × ZW) => s.1 = nI x ∧ (∀ b j, b ≠ 152 → s.2.1 b j = w.1 b j) ∧ s.2.2 = w.2 ∧ (∀ m, m < i → ∀ y, y < 64 → s.2.1 152 (64 * (12 - m) + y) = nI (ob S D m y)) ∧ ∀ y, y < x → s.2.1 152 (64 * (12 - i) + y) = nI (ob S D i y)) _ 64 (fun x s hx hQ => ?_) (fun s hQ => ?_) (zf (by omega)) ⟨rfl, fun b j _ => rfl, rfl, hrow, fun y hy => by omega⟩
    · obtain ⟨p1, p2, p3, p4, p5⟩ := hQ
      obtain ⟨a, u⟩ := s
      dsimp only at p1 p2 p3 p4 p5
      subst p1
      left
      have st := set_L9 (w := u) hI hP (by rw [p2 130 0 (by omega)]; exact hp) (fr_NiM (fun a j z => p2 a j (by unfold cNiM at z; omega)) hM) hD hi hx p4 s1 h1
      generalize ob S D = o at st p4 p5 ⊢
      refine ⟨_, st, rfl, fun b j h => by rw [upc (by omega)]; exact p2 b j h, p3, fun m hm y hy => ?_, fun y hy => ?_⟩
      · rw [upc (by omega)]
        exact p4 m hm y hy
      · by_cases z : y = x
        · subst z; exact upc_e
        · rw [upc (by omega)]
          exact p5 y (by omega)
    · obtain ⟨p1, p2, p3, p4, p5⟩ := hQ
      obtain ⟨a, u⟩ := s
      dsimp only at p1 p2 p3 p4 p5
      subst p1
      refine ⟨u, ?_, p2, p3, p4, p5⟩
      unfold f_X12_settles_L9
      dsimp only
      rw [if_pos (show (64 : Int32) ≤ nI 64 from Int32.le_refl _)]
  obtain ⟨r, e, h1, h2, h3, h4⟩ := key
  refine ⟨r, e, h1, h2, fun m hm y hy => ?_⟩
  by_cases z : m = i
  · subst z; exact h4 y hy
  · exact h3 m (by omega) y hy
theorem settles12 {P : Nat} {S : ST} {w : ZW} (hI : NightI P S) (hP : P ≤ 6) (hp : w.1 130 0 = nI P) (hM : NightM P S w.1) {D : Nat} (hD : D = 1000000000) : ∃ r, f_X12_settles w = some r ∧ (∀ b j, b ≠ 152 → r.1 b j = w.1 b j) ∧ r.2 = w.2 ∧ ∀ m, m ≤ 12 → ∀ y, y < 64 → r.1 152 (64 * (12 - m) + y) = nI (ob S D m y) := by
  have key : ∃ r, z_iter f_X12_settles_L3 z_fuel ((12 : Int32), w) = some r ∧ (∀ b j, b ≠ 152 → r.1 b j = w.1 b j) ∧ r.2 = w.2 ∧ ∀ m, m ≤ 12 → ∀ y, y < 64 → r.1 152 (64 * (12 - m) + y) = nI (ob S D m y) := by
    refine it_inv (fun i (s : Int32 × ZW) => s.1 = cd 13 i ∧ (∀ b j, b ≠ 152 → s.2.1 b j = w.1 b j) ∧ s.2.2 = w.2 ∧ ∀ m, m < i → ∀ y, y < 64 → s.2.1 152 (64 * (12 - m) + y) = nI (ob S D m y)) _ 13 (fun i s hi hQ => ?_) (fun s hQ => ?_) (zf (by omega)) ⟨(show (12 : Int32) = cd 13 0 by decide), fun b j _ => rfl, rfl, fun m hm => by omega⟩
    · obtain ⟨p1, p2, p3, p4⟩ := hQ
      obtain ⟨a, u⟩ := s
      dsimp only at p1 p2 p3 p4
      left
      have ec := cd_s hi
      rw [cd_i hi, show 13 - 1 - i = 12 - i by omega] at p1 ec
      subst p1
      obtain ⟨r, e, r1, r2, r3⟩ := set_lp (w := u) hI hP (by rw [p2 130 0 (by omega)]; exact hp) (fr_NiM (fun a j z => p2 a j (by unfold cNiM at z; omega)) hM) hD (show i ≤ 12 by omega) p4 (nI (12 - i), u) rfl
      refine ⟨(cd 13 (i + 1), r), ?_, rfl, fun b j h => (r1 b j h).trans (p2 b j h), r2.trans p3, fun m hm => r3 m (by omega)⟩
      unfold f_X12_settles_L3
      dsimp only
      rw [if_neg (nI_pos (by omega)), e, Option.bind_some, ec]
    · obtain ⟨p1, p2, p3, p4⟩ := hQ
      obtain ⟨a, u⟩ := s
      dsimp only at p1 p2 p3 p4
      refine ⟨u, ?_, p2, p3, fun m hm => p4 m (by omega)⟩
      unfold f_X12_settles_L3
      dsimp only
      rw [p1, cd_n, if_pos (by decide)]
  obtain ⟨r, e, h⟩ := key
  refine ⟨r, ?_, h⟩
  unfold f_X12_settles
  rw [e]
  rfl
