/-! isLaw against fits -/
theorem law_eq {S : ST} {w : ZW} (hI : GrowI S) (hM : GrowM S w.1) {a b : Nat} (ha : a ≤ 20) (hb : b ≤ 9) : ∃ w' lo H, f_X12_isLaw w (nI a) (nI b) = some (if lo < H then 1 else 0, w') ∧ (∀ c j, ¬ (c = 130 ∧ (j = 32 ∨ j = 33)) → w'.1 c j = w.1 c j) ∧ w'.2 = w.2 ∧ lo ≤ 10000 ∧ H ≤ 10000 ∧ w'.1 130 32 = nI lo ∧ w'.1 130 33 = mb H ∧ ∀ x, x < 10000 → (lo ≤ x ∧ x < H ↔ tol S a b 12 x) := by
  have h0 : lwP S a b w 0 ((0 : Int32), z_upI (z_upI w 130 32 0) 130 33 9999) := by
    refine ⟨rfl, fun c j z => by rw [upc (by omega), upc (by omega)], rfl, 0, 10000, by omega, by omega, by rw [upc (by omega), upc_e]; rfl, by rw [upc_e]; rfl, fun x hx => ?_⟩
    exact ⟨fun _ i hi => by omega, fun _ => ⟨by omega, hx⟩⟩
  obtain ⟨w', e, s, hs, hw⟩ := it_inv (lwP S a b w) (fun r => ∃ s, lwP S a b w 12 s ∧ r = s.2) 12 (fun i s hi hP => Or.inl (law_step hI hM ha hb hi s hP)) (fun s hP => ⟨s.2, by
    have h1 := hP.1
    unfold f_X12_isLaw_L14
    rw [h1, if_pos (show (12 : Int32) ≤ nI 12 from Int32.le_refl _)], s, hP, rfl⟩) (zf (by omega)) h0
  obtain ⟨-, h2, h3, lo, H, h4, h5, h6, h7, h8⟩ := hs
  subst hw
  refine ⟨s.2, lo, H, ?_, h2, h3, h4, h5, h6, h7, h8⟩
  unfold f_X12_isLaw
  rw [zl, zl, e, Option.bind_some, h6, h7]
  have lt := mb_lt (g := H) (h := lo + 1) (by omega) (by omega)
  rw [mb_s] at lt
  by_cases z : lo < H
  · rw [if_neg (fun h => by have := lt.mp h; omega), if_pos z]
  · rw [if_pos (lt.mpr (by omega)), if_neg z]
theorem okn_tol {S : ST} (hI : GrowI S) {a b x : Nat} (ha : a ≤ 20) (hb : b ≤ 9) (hx : x < 10000) : okn S a b 11 x ↔ tol S a b 12 x := by
  unfold okn tol gLo gHi
  constructor
  · intro h i hi hn
    have := h i (by omega)
    rw [show 11 - 11 + i = i by omega, if_neg hn, if_neg hn] at this
    exact this
  · intro h i hi
    rw [show 11 - 11 + i = i by omega]
    by_cases q : S 0 i = 0
    · rw [if_pos q, if_pos q]
      refine ⟨Nat.zero_le _, ?_⟩
      by_cases z : i = 0
      · rw [if_pos z]
        subst z
        show x ≤ 9999
        omega
      · rw [if_neg z]
        exact gw_le ha hb (by omega) i hi
    · rw [if_neg q, if_neg q]
      exact h i (by omega) q
/-- what both say of one law -/
theorem law_both {S : ST} (hI : GrowI S) {a b lo H : Nat} (ha : a ≤ 20) (hb : b ≤ 9) (hL : lo ≤ 10000) (hH : H ≤ 10000) (h : ∀ x, x < 10000 → (lo ≤ x ∧ x < H ↔ tol S a b 12 x)) : ((cf S a b 11).1 < (cf S a b 11).2 ↔ lo < H) ∧ (lo < H → (cf S a b 11).1 = lo ∧ (cf S a b 11).2 = H) := by
  obtain ⟨b1, b2, b3⟩ := cf_le hI a b 11 (by omega)
  have b3 := b3 rfl
  have k : ∀ x, x < 10000 → ((cf S a b 11).1 ≤ x ∧ x < (cf S a b 11).2 ↔ lo ≤ x ∧ x < H) := fun x hx => by
    rw [cf_ok 11 x (Nat.le_refl _), okn_tol hI ha hb hx, h x hx]
  have both : (cf S a b 11).1 < (cf S a b 11).2 → lo < H := fun q => by
    have := (k (cf S a b 11).1 (by omega)).mp ⟨Nat.le_refl _, q⟩
    omega
  refine ⟨⟨both, fun q => ?_⟩, fun q => ?_⟩
  · have := (k lo (by omega)).mpr ⟨Nat.le_refl _, q⟩
    omega
  · have r1 := (k lo (by omega)).mpr ⟨Nat.le_refl _, q⟩
    have r2 := (k (H - 1) (by omega)).mpr ⟨by omega, by omega⟩
    have r3 := (k (cf S a b 11).1 (by omega)).mp ⟨Nat.le_refl _, by omega⟩
    have r4 := (k ((cf S a b 11).2 - 1) (by omega)).mp ⟨by omega, by omega⟩
    omega
