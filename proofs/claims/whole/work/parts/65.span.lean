/-! span, safe -/
def sgK (S : ST) (p k : Nat) : Nat := if sgC S p k = 0 then 0 else 1
theorem spanOf_eq {P : Nat} {S : ST} {w : ZW} (hP : P ≤ 6) (hI : SightI P S) (hM : SightM S w.1) {p : Nat} (hp : p < 6) (b : Int32) : f_X12_spanOf w (nI p) b = some (if sgLo S p (S 0 0) ≤ sgHi S p (S 0 0) then (if b = 0 then nI (sgLo S p (S 0 0)) else nI (sgHi S p (S 0 0))) else -4) := by
  have hK := hI.1
  obtain ⟨d1, d2⟩ := sg_bd (p := p) hI _ (Nat.le_refl _)
  unfold f_X12_spanOf
  rw [show ((0 : Int32), (99999 : Int32), (0 : Int32), (0 : Int32)) = (nI (sgLo S p 0), nI (sgHi S p 0), nI (sgK S p 0), nI 0) from rfl, it_count (fun i => (nI (sgLo S p i), nI (sgHi S p i), nI (sgK S p i), nI i)) (S 0 0) (nI (sgLo S p (S 0 0)), nI (sgHi S p (S 0 0))) ?_ ?_ (zf (by omega))]
  · simp only [Option.bind_some]
    rw [ile (by omega) (by omega)]
    split
    · split <;> rfl
    · rfl
  · intro k hk
    obtain ⟨m1, m2, m3⟩ := hM.2 k hk
    obtain ⟨i1, i2, i3⟩ := hI.2 k hk
    obtain ⟨b1, b2⟩ := sg_bd (p := p) hI k (by omega)
    have z0 : (0 : Int32) = nI 0 := rfl
    have hk1 : sgK S p k < 2 ^ 31 := by unfold sgK; split <;> omega
    unfold f_X12_spanOf_L12
    rw [hM.1, mul3, show (1 : Int32) = nI 1 from rfl, show (2 : Int32) = nI 2 from rfl, nI_add, nI_add, nI_add]
    simp only [nI_leI (show S 0 0 < 2 ^ 31 by omega) (show k < 2 ^ 31 by omega), show ¬ S 0 0 ≤ k by omega, if_false, z_in_t (show 3 * k < 36 by omega) (by omega), z_in_t (show 3 * k + 1 < 36 by omega) (by omega), z_in_t (show 3 * k + 2 < 36 by omega) (by omega), if_true, nI_clamp (show 3 * k < 2 ^ 31 by omega), nI_clamp (show 3 * k + 1 < 2 ^ 31 by omega), nI_clamp (show 3 * k + 2 < 2 ^ 31 by omega), m1, m2, m3, z_let, nI_leI (show S 2 k < 2 ^ 31 by omega) (show sgLo S p k < 2 ^ 31 by omega)]
    by_cases e : S 1 k = p
    · rw [if_pos (by rw [e])]
      have ec : sgC S p (k + 1) = sgC S p k + 1 := by
        show sgC S p k + (if S 1 k = p then 1 else 0) = _
        rw [if_pos e]
      have ek : sgK S p (k + 1) = 1 := by
        unfold sgK
        rw [ec, if_neg (by omega)]
      have el : sgLo S p (k + 1) = if S 2 k ≤ sgLo S p k then sgLo S p k else S 2 k := by
        show (if S 1 k = p then (if sgLo S p k < S 2 k then S 2 k else sgLo S p k) else sgLo S p k) = _
        rw [if_pos e]
        by_cases t : S 2 k ≤ sgLo S p k
        · rw [if_pos t, if_neg (by omega)]
        · rw [if_neg t, if_pos (by omega)]
      have eh : sgHi S p (k + 1) = if sgK S p k = 0 then S 3 k else if sgHi S p k ≤ S 3 k then sgHi S p k else S 3 k := by
        show (if S 1 k = p then (if sgC S p k = 0 ∨ S 3 k < sgHi S p k then S 3 k else sgHi S p k) else sgHi S p k) = _
        rw [if_pos e]
        unfold sgK
        by_cases t : sgC S p k = 0
        · rw [if_pos (Or.inl t), if_pos t, if_pos rfl]
        · simp only [t, if_false, false_or, Nat.one_ne_zero]
          by_cases t2 : sgHi S p k ≤ S 3 k
          · rw [if_pos t2, if_neg (by omega)]
          · rw [if_neg t2, if_pos (by omega)]
      have j : ∀ x, f_X12_spanOf_J72 (nI (sgHi S p k)) (nI (sgK S p k)) (nI k) (nI (S 3 k)) (nI x) = some (.inl (nI x, nI (sgHi S p (k + 1)), nI (sgK S p (k + 1)), nI (k + 1))) := by
        intro x
        unfold f_X12_spanOf_J72
        rw [z0, ieq hk1 (by omega), ile (by omega) (by omega), ek, eh, nI_1]
        by_cases t : sgK S p k = 0
        · rw [if_pos t, if_pos t]
          rfl
        · rw [if_neg t, if_neg t]
          by_cases t2 : sgHi S p k ≤ S 3 k
          · rw [if_pos t2, if_pos t2]
            rfl
          · rw [if_neg t2, if_neg t2]
            rfl
      rw [j, j, el]
      split <;> rfl
    · rw [if_neg (fun h => e ((nI_inj (by omega) (by omega)).mp h))]
      have ec : sgC S p (k + 1) = sgC S p k := by
        show sgC S p k + (if S 1 k = p then 1 else 0) = _
        rw [if_neg e]
        rfl
      have ek : sgK S p (k + 1) = sgK S p k := by
        unfold sgK
        rw [ec]
      have el : sgLo S p (k + 1) = sgLo S p k := by
        show (if S 1 k = p then _ else _) = _
        rw [if_neg e]
      have eh : sgHi S p (k + 1) = sgHi S p k := by
        show (if S 1 k = p then _ else _) = _
        rw [if_neg e]
      rw [ek, el, eh]
  · unfold f_X12_spanOf_L12
    rw [hM.1, if_pos (Int32.le_refl _)]
theorem leastOf_eq {S : ST} {w : ZW} (hC : SightC S w.1) (hK : S 0 0 ≤ 12) {p : Nat} (hp : p < 6) : f_X8_leastOf w (nI p) = some (nI (sgLo S p (S 0 0))) := by
  obtain ⟨c1, c2⟩ := hC.2 p hp
  have b3 := sgC_le (S := S) (p := p) (S 0 0)
  unfold f_X8_leastOf
  simp only [z_in_t hp (by omega), if_true, nI_clamp (show p < 2 ^ 31 by omega), c1]
  rw [show (0 : Int32) = nI 0 from rfl, ieq (by omega) (by omega)]
  by_cases t : sgC S p (S 0 0) = 0
  · rw [if_pos t, (sg_0 _ t).1]
  · rw [if_neg t, (c2 t).1]
theorem mostOf_eq {S : ST} {w : ZW} (hC : SightC S w.1) (hK : S 0 0 ≤ 12) {p : Nat} (hp : p < 6) : f_X8_mostOf w (nI p) = some (nI (sgHi S p (S 0 0))) := by
  obtain ⟨c1, c2⟩ := hC.2 p hp
  have b3 := sgC_le (S := S) (p := p) (S 0 0)
  unfold f_X8_mostOf
  simp only [z_in_t hp (by omega), if_true, nI_clamp (show p < 2 ^ 31 by omega), c1]
  rw [show (0 : Int32) = nI 0 from rfl, ieq (by omega) (by omega)]
  by_cases t : sgC S p (S 0 0) = 0
  · rw [if_pos t, (sg_0 _ t).2]
    rfl
  · rw [if_neg t, (c2 t).2]
theorem hasSpan_eq {P : Nat} {S : ST} {w : ZW} (hI : SightI P S) (hC : SightC S w.1) {p : Nat} (hp : p < 6) : f_X8_hasSpan w (nI p) = some (if decide (sgLo S p (S 0 0) ≤ sgHi S p (S 0 0)) = true then 1 else 0) := by
  obtain ⟨d1, d2⟩ := sg_bd (p := p) hI _ (Nat.le_refl _)
  unfold f_X8_hasSpan
  rw [leastOf_eq hC hI.1 hp, mostOf_eq hC hI.1 hp]
  simp only [Option.bind_some]
  rw [ilt (by omega) (by omega)]
  by_cases t : sgLo S p (S 0 0) ≤ sgHi S p (S 0 0)
  · rw [if_neg (by omega)]
    simp [t]
  · rw [if_pos (by omega)]
    simp [t]
theorem sim_span {w : ZW} (h : Rel w) (a b : Int32) : ∃ r, f_X11_span w a b = some r ∧ f_X12_span w a b = some r := by
  obtain ⟨A, hI, hC, hM, -⟩ := h
  have hP := hI.1.1
  unfold f_X11_span f_X12_span
  rw [X4_hasPanel_eq hC.1.1, X12_isPanel_eq (by omega) hM.1.1, within_rg, in_rg _ _ _ (by decide) (by decide)]
  simp only [Option.bind_some, if10]
  by_cases q1 : ixb (A 0 0 0) a = true
  · rw [if_pos q1, if_pos q1]
    by_cases q2 : rg 0 1 b = true
    · rw [if_pos q2, if_pos q2]
      obtain ⟨p, hp, rfl⟩ := ix_t (by omega) q1
      rw [hasSpan_eq hI.2.1 hC.2.1 (by omega), leastOf_eq hC.2.1 hI.2.1.1 (by omega), mostOf_eq hC.2.1 hI.2.1.1 (by omega), spanOf_eq hP hI.2.1 hM.2.1 (by omega)]
      simp only [Option.bind_some, if10]
      refine ⟨if sgLo (A 1) p (A 1 0 0) ≤ sgHi (A 1) p (A 1 0 0) then (if b = 0 then nI (sgLo (A 1) p (A 1 0 0)) else nI (sgHi (A 1) p (A 1 0 0))) else -4, ?_, rfl⟩
      by_cases t : sgLo (A 1) p (A 1 0 0) ≤ sgHi (A 1) p (A 1 0 0)
      · by_cases t2 : b = 0 <;> simp [t, t2]
      · simp [t]
    · rw [if_neg q2, if_neg q2]
      exact ⟨_, rfl, rfl⟩
  · rw [if_neg q1, if_neg q1]
    exact ⟨_, rfl, rfl⟩
theorem sim_safe {w : ZW} (h : Rel w) (a b : Int32) : ∃ r, f_X11_safe w a b = some r ∧ f_X12_safe w a b = some r := by
  obtain ⟨A, hI, hC, hM, -⟩ := h
  have hP := hI.1.1
  unfold f_X11_safe f_X12_safe
  rw [X4_hasPanel_eq hC.1.1, X12_isPanel_eq (by omega) hM.1.1, within_rg, in_rg _ _ _ (by decide) (by decide)]
  simp only [Option.bind_some, if10]
  by_cases q1 : ixb (A 0 0 0) a = true
  · rw [if_pos q1, if_pos q1]
    by_cases q2 : rg 1 999 b = true
    · rw [if_pos q2, if_pos q2]
      obtain ⟨p, hp, rfl⟩ := ix_t (by omega) q1
      obtain ⟨n, n1, n2, rfl⟩ := rg_t q2 (by decide) (by decide)
      obtain ⟨d1, d2⟩ := sg_bd (p := p) hI.2.1 _ (Nat.le_refl _)
      rw [hasSpan_eq hI.2.1 hC.2.1 (by omega), mostOf_eq hC.2.1 hI.2.1.1 (by omega), spanOf_eq hP hI.2.1 hM.2.1 (by omega)]
      simp only [Option.bind_some, if10]
      obtain ⟨-, l2, -⟩ := hI.1.2.2.2.1 p hp
      obtain ⟨-, c2, -⟩ := hC.1.2.2.2.1 p hp
      obtain ⟨-, m2, -⟩ := hM.1.2.2.1 p hp
      have hm : sgHi (A 1) p (A 1 0 0) * n ≤ 109998 * 999 := Nat.mul_le_mul d2 n2
      by_cases t : sgLo (A 1) p (A 1 0 0) ≤ sgHi (A 1) p (A 1 0 0)
      · rw [if_pos (by simp [t]), if_pos t, if_neg i10]
        rw [if_pos (show (0 : Int32) ≤ nI (sgHi (A 1) p (A 1 0 0)) from nle (a := 0) (by omega))]
        rw [mul3, show (1 : Int32) = nI 1 from rfl, nI_add, z_in_t (show p < 6 by omega) (by omega), z_in_t (show 3 * p + 1 < 18 by omega) (by omega), if_pos rfl, if_pos rfl, nI_clamp (show p < 2 ^ 31 by omega), nI_clamp (show 3 * p + 1 < 2 ^ 31 by omega), c2, m2, pk_mul, ilt (by omega) (by omega), nI_l (by omega), nI_l (by omega), nI_l (by omega), lN_mul]
        simp only [lg_cmp_gt, pk_lLT (show A 0 2 p < 2 ^ 63 by omega) (show sgHi (A 1) p (A 1 0 0) * n < 2 ^ 63 by omega)]
        exact ⟨if A 0 2 p < sgHi (A 1) p (A 1 0 0) * n then 0 else 1, by split <;> rfl, by split <;> rfl⟩
      · rw [if_neg (by simp [t]), if_neg t, if_neg (by decide)]
        exact ⟨_, rfl, rfl⟩
    · rw [if_neg q2, if_neg q2]
      exact ⟨_, rfl, rfl⟩
  · rw [if_neg q1, if_neg q1]
    exact ⟨_, rfl, rfl⟩
