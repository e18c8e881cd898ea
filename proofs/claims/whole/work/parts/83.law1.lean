/-! model: one month's two searches -/
theorem s37 {w : ZW} {a b k y : Nat} (ha : a ≤ 20) (hb : b ≤ 9) (hk : k ≤ 11) (hy : y ≤ 9999) (h153 : w.1 153 k = nI y) : ∃ r, r ≤ 10000 ∧ z_iter (f_X12_isLaw_L37 (nI a) (nI b) (nI k, w)) z_fuel ((-1 : Int32), (10000 : Int32)) = some (nI r) ∧ (∀ x, x < r → ¬ y ≤ gw a b k x) ∧ (r = 10000 ∨ y ≤ gw a b k r) := by
  obtain ⟨r, r1, r2, r3, r4⟩ := bsr (p := fun x => decide (y ≤ gw a b k x)) (B := f_X12_isLaw_L37 (nI a) (nI b) (nI k, w)) (out := nI) (fun x z h1 h2 => by
    have := gw_mono (a := a) (b := b) h2 k
    simp only [decide_eq_true_eq] at h1 ⊢
    omega) (fun l h h1 h2 => by
    unfold f_X12_isLaw_L37
    dsimp only
    rw [mb_sub h1 (by omega), show (1 : Int32) = nI 1 from rfl, ile (by omega) (by omega)]
    by_cases e : h = l
    · rw [if_pos (by omega), if_pos e, e]
    · rw [if_neg (by omega), if_neg e, zl, mb_add (by omega), show (2 : Int32) = nI 2 from rfl, pk_div (by omega) (by omega) (by omega), grow12 ha hb (by omega) hk, Option.bind_some, z_in_t (show k < 12 by omega) (by omega), if_pos rfl, nI_clamp (show k < 2 ^ 31 by omega), h153]
      have g := gw_le (x := (l + h - 1) / 2) ha hb (by omega) k hk
      rw [ilt (by omega) (by omega)]
      simp only [decide_eq_true_eq]
      by_cases q : y ≤ gw a b k ((l + h - 1) / 2)
      · rw [if_neg (by omega), if_pos q]
        rfl
      · rw [if_pos (by omega), if_neg q, mb_s]
        rfl) 10000 0 10000 z_fuel (by omega) (by omega) (by omega) (fun x hx => by omega) (Or.inl rfl) (zf (by omega))
  refine ⟨r, r1, r2, fun x hx => ?_, ?_⟩
  · have := r3 x hx
    simpa using this
  · rcases r4 with h | h
    · exact Or.inl h
    · exact Or.inr (by simpa using h)
theorem s140 {w : ZW} {a b k y : Nat} (ha : a ≤ 20) (hb : b ≤ 9) (hk : k ≤ 11) (hy : y ≤ 9999) (h154 : w.1 154 k = nI y) : ∃ r, r ≤ 10000 ∧ z_iter (f_X12_isLaw_L140 (nI a) (nI b) (nI k) w) z_fuel ((-1 : Int32), (10000 : Int32)) = some (mb r) ∧ (∀ x, x < r → gw a b k x ≤ y) ∧ (r = 10000 ∨ y < gw a b k r) := by
  obtain ⟨r, r1, r2, r3, r4⟩ := bsr (p := fun x => decide (y < gw a b k x)) (B := f_X12_isLaw_L140 (nI a) (nI b) (nI k) w) (out := mb) (fun x z h1 h2 => by
    have := gw_mono (a := a) (b := b) h2 k
    simp only [decide_eq_true_eq] at h1 ⊢
    omega) (fun l h h1 h2 => by
    unfold f_X12_isLaw_L140
    dsimp only
    rw [mb_sub h1 (by omega), show (1 : Int32) = nI 1 from rfl, ile (by omega) (by omega)]
    by_cases e : h = l
    · rw [if_pos (by omega), if_pos e]
    · rw [if_neg (by omega), if_neg e, zl, mb_add (by omega), show (2 : Int32) = nI 2 from rfl, pk_div (by omega) (by omega) (by omega), grow12 ha hb (by omega) hk, Option.bind_some, z_in_t (show k < 12 by omega) (by omega), if_pos rfl, nI_clamp (show k < 2 ^ 31 by omega), h154]
      have g := gw_le (x := (l + h - 1) / 2) ha hb (by omega) k hk
      rw [ilt (by omega) (by omega)]
      simp only [decide_eq_true_eq]
      by_cases q : y < gw a b k ((l + h - 1) / 2)
      · rw [if_pos q, if_pos q]
        rfl
      · rw [if_neg q, if_neg q, mb_s]
        rfl) 10000 0 10000 z_fuel (by omega) (by omega) (by omega) (fun x hx => by omega) (Or.inl rfl) (zf (by omega))
  refine ⟨r, r1, r2, fun x hx => ?_, ?_⟩
  · have := r3 x hx
    simpa using this
  · rcases r4 with h | h
    · exact Or.inl h
    · exact Or.inr (by simpa using h)
