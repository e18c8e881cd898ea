/-! ways: one lock more has at most so many ways more as it has readings; worn further, ways are no fewer; no one twice in a year -/
theorem sumN_le {f h : Nat → Nat} : ∀ n, (∀ i, i < n → f i ≤ h i) → sumN f n ≤ sumN h n
  | 0, _ => Nat.le_refl _
  | n + 1, q => by
    rw [sumN_s, sumN_s]
    have := sumN_le n (fun i hi => q i (by omega))
    have := q n (by omega)
    omega
theorem Wn_lt {S : ST} {al : Nat → Nat → Nat → Bool} {g : Nat} (hN : S 0 0 ≤ 8) : ∀ e k t t', sbq t t' → Wn S al g e k t' ≤ Wn S al g e k t := by
  intro e
  induction e with
  | zero => intro k t t' h; exact Nat.le_refl _
  | succ e ih =>
    intro k t t' h
    cases q : g.testBit k
    · rw [Wn_f q, Wn_f q]
      exact ih _ _ _ h
    · rw [Wn_t hN q, Wn_t hN q]
      refine sumN_le 64 (fun j hj => ?_)
      by_cases c : j / 8 < j % 8 ∧ j % 8 < S 0 0 ∧ al k (j / 8) (j % 8) = true
      · rw [if_pos c, if_pos c]
        by_cases z : t' &&& tw (j / 8) (j % 8) = 0
        · have z2 : t &&& tw (j / 8) (j % 8) = 0 := z_bits.mpr (fun i => by
            have := z_bits.mp z i
            rw [Nat.testBit_and] at this ⊢
            cases x : t.testBit i
            · rfl
            · rw [h i x] at this
              exact this)
          rw [if_pos z, if_pos z2]
          refine ih _ _ _ (fun i hi => ?_)
          rw [Nat.testBit_or, Bool.or_eq_true] at hi ⊢
          rcases hi with hi | hi
          · exact Or.inl (h i hi)
          · exact Or.inr hi
        · rw [if_neg z]
          exact Nat.zero_le _
      · rw [if_neg c, if_neg c]
        exact Nat.le_refl _
theorem Wn_al {S : ST} {al al' : Nat → Nat → Nat → Bool} {g : Nat} (hN : S 0 0 ≤ 8) (ha : ∀ k p q, g.testBit k = true → al k p q = true → al' k p q = true) : ∀ e k t, Wn S al g e k t ≤ Wn S al' g e k t := by
  intro e
  induction e with
  | zero => intro k t; exact Nat.le_refl _
  | succ e ih =>
    intro k t
    cases q : g.testBit k
    · rw [Wn_f q, Wn_f q]
      exact ih _ _
    · rw [Wn_t hN q, Wn_t hN q]
      refine sumN_le 64 (fun j hj => ?_)
      by_cases c : j / 8 < j % 8 ∧ j % 8 < S 0 0 ∧ al k (j / 8) (j % 8) = true
      · have c2 : j / 8 < j % 8 ∧ j % 8 < S 0 0 ∧ al' k (j / 8) (j % 8) = true := ⟨c.1, c.2.1, ha k _ _ q c.2.2⟩
        rw [if_pos c, if_pos c2]
        by_cases z : t &&& tw (j / 8) (j % 8) = 0
        · rw [if_pos z, if_pos z]
          exact ih _ _
        · rw [if_neg z]
          exact Nat.zero_le _
      · rw [if_neg c]
        exact Nat.zero_le _
/-- how many pairs a lock may be read as -/
def prs (N : Nat) (g : Nat → Nat → Bool) : Nat := sumN (fun j => if j / 8 < j % 8 ∧ j % 8 < N ∧ g (j / 8) (j % 8) = true then 1 else 0) 64
theorem Wn_past {S : ST} {al al' : Nat → Nat → Nat → Bool} {g g' l : Nat} (hN : S 0 0 ≤ 8) (hg : ∀ i, i ≠ l → g'.testBit i = g.testBit i) (ha : ∀ k, k ≠ l → g.testBit k = true → al' k = al k) : ∀ e k t, l < k → Wn S al' g' e k t = Wn S al g e k t := by
  intro e
  induction e with
  | zero => intro k t h; rfl
  | succ e ih =>
    intro k t h
    cases q : g.testBit k
    · rw [Wn_f q, Wn_f ((hg k (by omega)).trans q)]
      exact ih _ _ (by omega)
    · rw [Wn_t hN q, Wn_t hN ((hg k (by omega)).trans q)]
      refine sumN_cong 64 (fun j hj => ?_)
      rw [ha k (by omega) q, ih (k + 1) _ (by omega)]
theorem Wn_add {S : ST} {al al' : Nat → Nat → Nat → Bool} {g g' l : Nat} (hN : S 0 0 ≤ 8) (hg : ∀ i, i ≠ l → g'.testBit i = g.testBit i) (h0 : g.testBit l = false) (h1 : g'.testBit l = true) (ha : ∀ k, k ≠ l → g.testBit k = true → al' k = al k) : ∀ e k t, k ≤ l → l < k + e → Wn S al' g' e k t ≤ prs (S 0 0) (al' l) * Wn S al g e k t := by
  intro e
  induction e with
  | zero => intro k t h h2; omega
  | succ e ih =>
    intro k t h h2
    by_cases c : k = l
    · subst c
      rw [Wn_t hN h1, Wn_f h0]
      unfold prs
      rw [Nat.mul_comm, ← sumN_mul]
      refine sumN_le 64 (fun j hj => ?_)
      by_cases d : j / 8 < j % 8 ∧ j % 8 < S 0 0 ∧ al' k (j / 8) (j % 8) = true
      · rw [if_pos d, if_pos d, Nat.mul_one]
        by_cases z : t &&& tw (j / 8) (j % 8) = 0
        · rw [if_pos z, Wn_past hN hg ha e (k + 1) _ (by omega)]
          exact Wn_lt hN e _ _ _ (fun i hi => by rw [Nat.testBit_or, hi]; rfl)
        · rw [if_neg z]
          exact Nat.zero_le _
      · rw [if_neg d]
        exact Nat.zero_le _
    · cases q : g.testBit k
      · rw [Wn_f q, Wn_f ((hg k c).trans q)]
        exact ih _ _ (by omega) (by omega)
      · rw [Wn_t hN q, Wn_t hN ((hg k c).trans q), ← sumN_mul]
        refine sumN_le 64 (fun j hj => ?_)
        rw [ha k c q]
        by_cases d : j / 8 < j % 8 ∧ j % 8 < S 0 0 ∧ al k (j / 8) (j % 8) = true
        · rw [if_pos d, if_pos d]
          by_cases z : t &&& tw (j / 8) (j % 8) = 0
          · rw [if_pos z, if_pos z]
            exact ih _ _ (by omega) (by omega)
          · rw [if_neg z]
            exact Nat.zero_le _
        · rw [if_neg d]
          exact Nat.zero_le _
theorem cq_sum {g : Nat → Nat → Bool} {p : Nat} : ∀ d q, cq g p q d = sumN (fun i => if g p (q + i) = true then 1 else 0) d
  | 0, q => rfl
  | d + 1, q => by
    show (if g p q = true then 1 else 0) + cq g p (q + 1) d = sumN (fun i => if g p (q + i) = true then 1 else 0) (d + 1)
    rw [Nat.add_comm d 1, sumN_app, cq_sum d (q + 1)]
    have e : sumN (fun i => if g p (q + i) = true then 1 else 0) 1 = if g p q = true then 1 else 0 := by
      show 0 + (if g p (q + 0) = true then 1 else 0) = _
      rw [Nat.add_zero, Nat.zero_add]
    rw [e]
    refine congrArg _ (sumN_cong d (fun i hi => ?_))
    show (if g p (q + 1 + i) = true then 1 else 0) = if g p (q + (1 + i)) = true then 1 else 0
    rw [Nat.add_assoc]
theorem rdn_sum {g : Nat → Nat → Bool} {n : Nat} : ∀ m, rdn g n m = sumN (fun p => sumN (fun i => if g p (p + 1 + i) = true then 1 else 0) (n - (p + 1))) m
  | 0 => rfl
  | m + 1 => by
    show rdn g n m + cq g m (m + 1) (n - (m + 1)) = _
    rw [sumN_s, rdn_sum m, cq_sum]
theorem prs_rdn {N : Nat} (hN : N ≤ 8) (g : Nat → Nat → Bool) : prs N g = rdn g N N := by
  have a := als_64 (F := fun p q => if g p q = true then [()] else []) hN
  have b := als_sum (F := fun p q => if g p q = true then [()] else []) (N := N) N
  have e : ∀ x : Bool, (if x = true then [()] else []).length = if x = true then 1 else 0 := fun x => by cases x <;> rfl
  simp only [e] at a b
  rw [rdn_sum, ← b, a]
  unfold prs
  refine sumN_cong 64 (fun j hj => ?_)
  by_cases c : j / 8 < j % 8 ∧ j % 8 < N
  · rw [if_pos c]
    by_cases d : g (j / 8) (j % 8) = true
    · rw [if_pos ⟨c.1, c.2, d⟩, if_pos d]
    · rw [if_neg (fun h => d h.2.2), if_neg d]
  · rw [if_neg c, if_neg (fun h => c ⟨h.1, h.2.1⟩)]
theorem prs_le (N : Nat) (g : Nat → Nat → Bool) : prs N g ≤ 64 := by
  have := sumN_le (f := fun j => if j / 8 < j % 8 ∧ j % 8 < N ∧ g (j / 8) (j % 8) = true then 1 else 0) (h := fun _ => 1) 64 (fun i _ => by
    show (if _ then 1 else 0) ≤ 1
    split <;> omega)
  have e : ∀ n, sumN (fun _ => 1) n = n := fun n => by
    induction n with
    | zero => rfl
    | succ n ih => rw [sumN_s, ih]
  rw [e] at this
  exact this
theorem prN_one {f f' : Nat → Nat} {r y0 : Nat} : ∀ n, (∀ y, y < n → y ≠ y0 → f' y ≤ f y) → (y0 < n → f' y0 ≤ r * f y0) → prN f' n ≤ (if y0 < n then r else 1) * prN f n
  | 0, _, _ => by
    rw [if_neg (by omega)]
    exact Nat.le_refl _
  | n + 1, h1, h2 => by
    have ih := prN_one n (fun y hy => h1 y (by omega)) (fun h => h2 (by omega))
    rw [prN_s, prN_s]
    by_cases e : y0 = n
    · subst e
      rw [if_neg (by omega), Nat.one_mul] at ih
      rw [if_pos (by omega)]
      have := h2 (by omega)
      calc prN f' y0 * f' y0 ≤ prN f y0 * (r * f y0) := Nat.mul_le_mul ih this
        _ = r * (prN f y0 * f y0) := by rw [← Nat.mul_assoc, Nat.mul_comm _ r, Nat.mul_assoc]
    · have := h1 n (by omega) (by omega)
      by_cases c : y0 < n
      · rw [if_pos c] at ih
        rw [if_pos (by omega), ← Nat.mul_assoc]
        exact Nat.mul_le_mul ih this
      · rw [if_neg c] at ih
        rw [if_neg (by omega), ← Nat.mul_assoc]
        exact Nat.mul_le_mul ih this
theorem wys_len {R S : ST} {y : Nat} : (wys R S y).length = Wn S (cb S) (grp R S y) 14 0 0 := rfl
/-- letters of one lock more -/
theorem Tw_add {R S S' : ST} {l : Nat} (hR : RailI R) (hI : NamesI (R 0 1) S) (hI' : NamesI (R 0 1) S') (hl : l < R 0 1) (h0 : S' 0 0 = S 0 0) (hn : (S 0 1).testBit l = false) (h1 : (S' 0 1).testBit l = true) (hb : ∀ i, i ≠ l → (S' 0 1).testBit i = (S 0 1).testBit i) (hc : ∀ k, k ≠ l → (S 0 1).testBit k = true → cb S' k = cb S k) : Tw R S' ≤ rdn (cb S' l) (S 0 0) (S 0 0) * Tw R S := by
  have hN := hI.1
  have hL := hR.2.1
  have eN : ∀ al g e k t, Wn S' al g e k t = Wn S al g e k t := fun al g e k t => by unfold Wn; rw [h0]
  have gb : ∀ y i, i ≠ l → (grp R S' y).testBit i = (grp R S y).testBit i := fun y i hi => by
    rw [Bool.eq_iff_iff, grp_bit hI'.2.1, grp_bit hI.2.1, hb i hi]
  have y20 : R 6 l < 20 := by have := (hR.2.2.2.2 l hl).2.2.1; omega
  have main := prN_one (f := fun y => (wys R S y).length) (f' := fun y => (wys R S' y).length) (r := rdn (cb S' l) (S 0 0) (S 0 0)) (y0 := R 6 l) 20 (fun y _ hy => ?_) (fun _ => ?_)
  · rw [if_pos y20] at main
    exact main
  · show (wys R S' y).length ≤ (wys R S y).length
    have n1 : (grp R S' y).testBit l = false := by
      cases q : (grp R S' y).testBit l
      · rfl
      · have := ((grp_bit hI'.2.1).mp q).2
        omega
    have n2 : (grp R S y).testBit l = false := by
      cases q : (grp R S y).testBit l
      · rfl
      · have := ((grp_bit hI.2.1).mp q).2
        omega
    have e : grp R S' y = grp R S y := Nat.eq_of_testBit_eq (fun i => by
      by_cases c : i = l
      · subst c; rw [n1, n2]
      · exact gb y i c)
    rw [wys_len, wys_len, eN, e]
    refine Wn_al hN (fun k p q hk h => ?_) _ _ _
    by_cases c : k = l
    · subst c
      rw [n2] at hk
      cases hk
    · rw [hc k c ((grp_bit hI.2.1).mp hk).1] at h
      exact h
  · show (wys R S' (R 6 l)).length ≤ _ * (wys R S (R 6 l)).length
    rw [wys_len, wys_len, eN, ← prs_rdn hN]
    refine Wn_add hN (gb _) ?_ ((grp_bit hI'.2.1).mpr ⟨h1, rfl⟩) (fun k c q => hc k c ((grp_bit hI.2.1).mp q).1) 14 0 0 (by omega) (by omega)
    cases q : (grp R S (R 6 l)).testBit l
    · rfl
    · rw [((grp_bit hI.2.1).mp q).1] at hn
      cases hn
/-- worn further -/
theorem Tw_worn {R S S' : ST} (hI : NamesI (R 0 1) S) (hI' : NamesI (R 0 1) S') (h0 : S' 0 0 = S 0 0) (hb : S' 0 1 = S 0 1) (hc : ∀ k p q, (S 0 1).testBit k = true → cb S k p q = true → cb S' k p q = true) : Tw R S ≤ Tw R S' := by
  refine prN_le 20 (fun y _ => ?_)
  have e : grp R S' y = grp R S y := by unfold grp; rw [hb]
  rw [wys_len, wys_len, e]
  have eN : ∀ al g e k t, Wn S' al g e k t = Wn S al g e k t := fun al g e k t => by unfold Wn; rw [h0]
  rw [eN]
  exact Wn_al hI.1 (fun k p q z h => hc k p q ((grp_bit hI.2.1).mp z).1 h) _ _ _
/-- no one twice in a year -/
theorem wyl_disj {N : Nat} {c : Nat → Nat → Nat → Bool} {g : Nat} : ∀ e k t f x, x ∈ wyl N c g e k t f → (∀ a, k ≤ a → a < k + e → g.testBit a = true → x a &&& t = 0) ∧ ∀ a b, k ≤ a → a < b → b < k + e → g.testBit a = true → g.testBit b = true → x b &&& x a = 0
  | 0, k, t, f, x, _ => ⟨fun a h1 h2 => by omega, fun a b h1 h2 h3 => by omega⟩
  | e + 1, k, t, f, x, h => by
    rw [wyl_s] at h
    cases q : g.testBit k
    · rw [q, if_neg (by decide)] at h
      obtain ⟨i1, i2⟩ := wyl_disj e (k + 1) t f x h
      refine ⟨fun a h1 h2 h3 => ?_, fun a b h1 h2 h3 h4 h5 => ?_⟩
      · by_cases z : a = k
        · subst z; rw [q] at h3; cases h3
        · exact i1 a (by omega) (by omega) h3
      · by_cases z : a = k
        · subst z; rw [q] at h4; cases h4
        · exact i2 a b (by omega) h2 (by omega) h4 h5
    · rw [q, if_pos rfl] at h
      obtain ⟨p, r, p1, p2, p3, p4⟩ := (als_mem _).mp h
      by_cases z : (decide (t &&& tw p r = 0) && c k p r) = true
      · rw [if_pos z] at p4
        rw [Bool.and_eq_true, decide_eq_true_eq] at z
        have xk : x k = tw p r := by
          rw [wyl_low e (k + 1) _ _ x (by omega) p4, if_pos rfl]
        obtain ⟨i1, i2⟩ := wyl_disj e (k + 1) _ _ x p4
        have sp : ∀ u : Nat, u &&& (t ||| tw p r) = 0 → u &&& t = 0 ∧ u &&& tw p r = 0 := fun u hu => by
          constructor
          · refine z_bits.mpr (fun i => ?_)
            have := z_bits.mp hu i
            rw [Nat.testBit_and, Nat.testBit_or] at this
            rw [Nat.testBit_and]
            cases x1 : u.testBit i
            · rfl
            · cases w : t.testBit i
              · rfl
              · rw [x1, w] at this; exact this
          · refine z_bits.mpr (fun i => ?_)
            have := z_bits.mp hu i
            rw [Nat.testBit_and, Nat.testBit_or] at this
            rw [Nat.testBit_and]
            cases x1 : u.testBit i
            · rfl
            · cases w : (tw p r).testBit i
              · rfl
              · rw [x1, w, Bool.or_true] at this; exact this
        refine ⟨fun a h1 h2 h3 => ?_, fun a b h1 h2 h3 h4 h5 => ?_⟩
        · by_cases y : a = k
          · subst y
            rw [xk, Nat.and_comm]
            exact z.1
          · exact (sp _ (i1 a (by omega) (by omega) h3)).1
        · by_cases y : a = k
          · subst y
            rw [xk]
            exact (sp _ (i1 b (by omega) (by omega) h5)).2
          · exact i2 a b (by omega) h2 (by omega) h4 h5
      · rw [if_neg z] at p4
        cases p4
theorem whf_one {R S : ST} (hR : RailI R) (hI : NamesI (R 0 1) S) (hT : Tw R S ≠ 0) {p a b : Nat} (ne : b < a) (ha : whf R S 1 p a = true) (hb : whf R S 1 p b = true) : R 6 a ≠ R 6 b := by
  intro e
  unfold whf at ha hb
  rw [Bool.and_eq_true] at ha hb
  have la : a < R 0 1 := bit_lt hI.2.1 ha.1
  have lb : b < R 0 1 := bit_lt hI.2.1 hb.1
  have hL := hR.2.1
  have y20 : R 6 a < 20 := by have := (hR.2.2.2.2 a la).2.2.1; omega
  have hne := (prN_nz 20).mp hT (R 6 a) y20
  cases hw : wys R S (R 6 a) with
  | nil => rw [hw] at hne; exact hne rfl
  | cons x xs =>
    have hx : x ∈ wys R S (R 6 a) := by rw [hw]; exact List.mem_cons_self
    have hx2 : x ∈ wys R S (R 6 b) := by rw [← e]; exact hx
    have b1 : (x a).testBit p = true := by
      have := ha.2
      unfold onS at this
      rw [if_neg (by omega)] at this
      exact ((anf_bit _ _).mp this).2 x hx
    have b2 : (x b).testBit p = true := by
      have := hb.2
      unfold onS at this
      rw [if_neg (by omega)] at this
      exact ((anf_bit _ _).mp this).2 x hx2
    have d := (wyl_disj 14 0 0 _ x hx).2 b a (by omega) ne (by omega) ((grp_bit hI.2.1).mpr ⟨hb.1, e.symm⟩) ((grp_bit hI.2.1).mpr ⟨ha.1, rfl⟩)
    have := z_bits.mp d p
    rw [Nat.testBit_and, b1, b2] at this
    cases this
theorem whf_some {R S : ST} (hR : RailI R) (hI : NamesI (R 0 1) S) (hT : Tw R S ≠ 0) {p a : Nat} (ha : whf R S 1 p a = true) : whf R S 0 p a = true := by
  unfold whf at ha ⊢
  rw [Bool.and_eq_true] at ha ⊢
  refine ⟨ha.1, ?_⟩
  have la : a < R 0 1 := bit_lt hI.2.1 ha.1
  have y20 : R 6 a < 20 := by have := (hR.2.2.2.2 a la).2.2.1; omega
  have hne := (prN_nz 20).mp hT (R 6 a) y20
  cases hw : wys R S (R 6 a) with
  | nil => rw [hw] at hne; exact absurd rfl hne
  | cons x xs =>
    have h2 := ha.2
    unfold onS at h2 ⊢
    rw [if_neg (by omega)] at h2
    rw [if_pos rfl]
    have hx : x ∈ wys R S (R 6 a) := by rw [hw]; exact List.mem_cons_self
    exact (orf_bit _ _).mpr (Or.inr ⟨x, hx, ((anf_bit _ _).mp h2).2 x hx⟩)
