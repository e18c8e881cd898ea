/-! model: the search for the first count at which something begins to hold -/
theorem bsr {p : Nat → Bool} {B : Int32 × Int32 → Option ((Int32 × Int32) ⊕ Int32)} {out : Nat → Int32} (mono : ∀ x y, p x = true → x ≤ y → p y = true) (hB : ∀ l h, l ≤ h → h ≤ 10000 → B (mb l, nI h) = if h = l then some (.inr (out l)) else some (.inl (if p ((l + h - 1) / 2) = true then (mb l, nI ((l + h - 1) / 2)) else (mb ((l + h - 1) / 2 + 1), nI h)))) : ∀ d l h N, h - l ≤ d → l ≤ h → h ≤ 10000 → (∀ x, x < l → p x = false) → (h = 10000 ∨ p h = true) → d < N → ∃ r, r ≤ 10000 ∧ z_iter B N (mb l, nI h) = some (out r) ∧ (∀ x, x < r → p x = false) ∧ (r = 10000 ∨ p r = true) := by
  intro d
  induction d with
  | zero =>
    intro l h N h1 h2 h3 h4 h5 h6
    obtain ⟨N, rfl⟩ : ∃ M, N = M + 1 := ⟨N - 1, by omega⟩
    have e : h = l := by omega
    subst e
    have := hB h h (Nat.le_refl _) h3
    rw [if_pos rfl] at this
    exact ⟨h, h3, by simp [z_iter, this], h4, h5⟩
  | succ d ih =>
    intro l h N h1 h2 h3 h4 h5 h6
    obtain ⟨N, rfl⟩ : ∃ M, N = M + 1 := ⟨N - 1, by omega⟩
    have hb := hB l h h2 h3
    by_cases e : h = l
    · subst e
      rw [if_pos rfl] at hb
      exact ⟨h, h3, by simp [z_iter, hb], h4, h5⟩
    · rw [if_neg e] at hb
      by_cases q : p ((l + h - 1) / 2) = true
      · rw [if_pos q] at hb
        obtain ⟨r, r1, r2, r3, r4⟩ := ih l ((l + h - 1) / 2) N (by omega) (by omega) (by omega) h4 (Or.inr q) (by omega)
        exact ⟨r, r1, by simp [z_iter, hb, r2], r3, r4⟩
      · rw [if_neg q] at hb
        obtain ⟨r, r1, r2, r3, r4⟩ := ih ((l + h - 1) / 2 + 1) h N (by omega) (by omega) h3 (fun x hx => by
          cases z : p x
          · rfl
          · exact absurd (mono _ _ z (by omega)) q) h5 (by omega)
        exact ⟨r, r1, by simp [z_iter, hb, r2], r3, r4⟩
theorem mb_add {l h : Nat} (hh : 1 ≤ l + h) : mb l + nI h = nI (l + h - 1) := by
  unfold mb
  by_cases q : l = 0
  · subst q
    rw [if_pos rfl, Int32.add_comm]
    obtain ⟨m, rfl⟩ : ∃ m, h = m + 1 := ⟨h - 1, by omega⟩
    rw [pk_m1]
    congr 1
    omega
  · rw [if_neg q, nI_add]
    congr 1
    omega
theorem mb_sub {l h : Nat} (h1 : l ≤ h) (h2 : h < 2 ^ 30) : nI h - mb l = nI (h + 1 - l) := by
  unfold mb
  by_cases q : l = 0
  · subst q
    rw [if_pos rfl]
    have : nI h - (-1) = nI h + 1 := by
      rw [Int32.sub_eq_add_neg]
      congr 1
    rw [this, nI_1]
    congr 1
  · rw [if_neg q, pk_sub (by omega)]
    congr 1
    omega
