/-! model: isLaw -/
def tol (S : ST) (a b k x : Nat) : Prop := ∀ i, i < k → S 0 i ≠ 0 → S 1 i ≤ gw a b i x ∧ gw a b i x ≤ S 2 i
def lwP (S : ST) (a b : Nat) (w : ZW) (k : Nat) (s : Int32 × ZW) : Prop := s.1 = nI k ∧ (∀ c j, ¬ (c = 130 ∧ (j = 32 ∨ j = 33)) → s.2.1 c j = w.1 c j) ∧ s.2.2 = w.2 ∧ ∃ lo H, lo ≤ 10000 ∧ H ≤ 10000 ∧ s.2.1 130 32 = nI lo ∧ s.2.1 130 33 = mb H ∧ ∀ x, x < 10000 → (lo ≤ x ∧ x < H ↔ tol S a b k x)
theorem tol_s {S : ST} {a b k x : Nat} : tol S a b (k + 1) x ↔ tol S a b k x ∧ (S 0 k ≠ 0 → S 1 k ≤ gw a b k x ∧ gw a b k x ≤ S 2 k) := by
  unfold tol
  constructor
  · intro h
    exact ⟨fun i hi => h i (by omega), h k (by omega)⟩
  · rintro ⟨h1, h2⟩ i hi
    by_cases e : i = k
    · subst e; exact h2
    · exact h1 i (by omega)
theorem law_step {S : ST} {w : ZW} (hI : GrowI S) (hM : GrowM S w.1) {a b : Nat} (ha : a ≤ 20) (hb : b ≤ 9) {k : Nat} (hk : k < 12) (s : Int32 × ZW) (hP : lwP S a b w k s) : ∃ s', f_X12_isLaw_L14 (nI a) (nI b) s = some (.inl s') ∧ lwP S a b w (k + 1) s' := by
  obtain ⟨h1, h2, h3, lo, H, h4, h5, h6, h7, h8⟩ := hP
  obtain ⟨s1, u⟩ := s
  dsimp only at h1 h2 h3 h6 h7
  subst h1
  obtain ⟨m1, m2⟩ := hM k hk
  have e154 := h2 154 k (by omega)
  have e153 := h2 153 k (by omega)
  unfold f_X12_isLaw_L14
  dsimp only
  rw [show (12 : Int32) = nI 12 from rfl, if_neg (nnle hk), z_in_t hk (by omega), if_pos rfl, nI_clamp (show k < 2 ^ 31 by omega), e154]
  by_cases q : S 0 k = 0
  · rw [m1 q, if_pos (by decide), nI_1]
    refine ⟨_, rfl, rfl, h2, h3, lo, H, h4, h5, h6, h7, fun x hx => ?_⟩
    rw [tol_s, h8 x hx]
    exact ⟨fun h => ⟨h, fun z => absurd q z⟩, fun h => h.1⟩
  · obtain ⟨g1, g2⟩ := m2 q
    obtain ⟨i1, i2⟩ := hI k hk q
    rw [g2, if_neg (nI_pos (by omega))]
    obtain ⟨r, r1, r2, r3, r4⟩ := s37 (w := u) ha hb (show k ≤ 11 by omega) (show S 1 k ≤ 9999 by omega) (e153.trans g1)
    rw [r2, Option.bind_some, h6, ile (by omega) (by omega)]
    -- the second search, from any low end
    have j : ∀ L, L ≤ 10000 → ∃ u' r', r' ≤ 10000 ∧ f_X12_isLaw_J129 (nI a) (nI b) (nI k) (nI L) u = some (.inl (nI (k + 1), u')) ∧ (∀ c j, ¬ (c = 130 ∧ (j = 32 ∨ j = 33)) → u'.1 c j = w.1 c j) ∧ u'.2 = w.2 ∧ u'.1 130 32 = nI L ∧ u'.1 130 33 = mb (if H ≤ r' then H else r') ∧ (∀ x, x < r' → gw a b k x ≤ S 2 k) ∧ (r' = 10000 ∨ S 2 k < gw a b k r') := by
      intro L hL
      obtain ⟨r', t1, t2, t3, t4⟩ := s140 (w := z_upI u 130 32 (nI L)) ha hb (show k ≤ 11 by omega) i2 (by rw [upc (by omega)]; exact e154.trans g2)
      have e33 : (z_upI u 130 32 (nI L)).1 130 33 = mb H := by rw [upc (by omega)]; exact h7
      refine ⟨z_upI (z_upI u 130 32 (nI L)) 130 33 (mb (if H ≤ r' then H else r')), r', t1, ?_, fun c j z => ?_, h3, ?_, upc_e, t3, t4⟩
      · unfold f_X12_isLaw_J129
        rw [zl, t2, Option.bind_some, e33, nI_1, zl, zl]
        have lt := mb_lt (g := r') (h := H) (by omega) (by omega)
        by_cases z : H ≤ r'
        · rw [if_pos (Classical.not_not.mp (fun h => by have := lt.mp ((lt_nle _ _).mpr h); omega)), if_pos z]
        · rw [if_neg (fun h => (lt_nle _ _).mp (lt.mpr (by omega)) h), if_neg z]
      · rw [upc (by omega), upc (by omega)]
        exact h2 c j z
      · rw [upc (by omega), upc_e]
    have mono : ∀ x y, x ≤ y → gw a b k x ≤ gw a b k y := fun x y h => gw_mono h k
    have fin : ∀ L, L ≤ 10000 → (∀ x, x < 10000 → (L ≤ x ↔ lo ≤ x ∧ r ≤ x)) → ∃ s', f_X12_isLaw_J129 (nI a) (nI b) (nI k) (nI L) u = some (.inl s') ∧ lwP S a b w (k + 1) s' := by
      intro L hL hx
      obtain ⟨u', r', t1, t2, t3, t4, t5, t6, t7, t8⟩ := j L hL
      refine ⟨_, t2, rfl, t3, t4, L, if H ≤ r' then H else r', hL, by split <;> omega, t5, t6, fun x hx9 => ?_⟩
      have e1 : x < (if H ≤ r' then H else r') ↔ x < H ∧ x < r' := by split <;> omega
      have e2 : r ≤ x ↔ S 1 k ≤ gw a b k x := by
        constructor
        · intro h
          rcases r4 with z | z
          · omega
          · exact Nat.le_trans z (mono _ _ h)
        · intro h
          cases Nat.lt_or_ge x r with
          | inl z => exact absurd h (r3 x z)
          | inr z => exact z
      have e3 : x < r' ↔ gw a b k x ≤ S 2 k := by
        constructor
        · exact t7 x
        · intro h
          cases Nat.lt_or_ge x r' with
          | inl z => exact z
          | inr z =>
            rcases t8 with y | y
            · omega
            · have := mono _ _ z
              omega
      rw [e1, hx x hx9, tol_s, ← h8 x hx9, e2, e3]
      constructor
      · rintro ⟨⟨a1, a2⟩, a3, a4⟩
        exact ⟨⟨a1, a3⟩, fun _ => ⟨a2, a4⟩⟩
      · rintro ⟨⟨a1, a3⟩, h⟩
        obtain ⟨a2, a4⟩ := h q
        exact ⟨⟨a1, a2⟩, a3, a4⟩
    by_cases z : r ≤ lo
    · rw [if_pos z]
      exact fin lo h4 (fun x _ => by omega)
    · rw [if_neg z]
      exact fin r r1 (fun x _ => by omega)
