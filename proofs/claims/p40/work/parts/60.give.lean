/-! giveWay: fall while over -/
theorem fd_inl {ρ : Type} {g : Nat → ρ ⊕ Unit} {c : ρ} : ∀ (k i : Nat), fd g i k = .inl c → ∃ j, i ≤ j ∧ j < i + k ∧ g j = .inl c
  | 0, i, h => by
    unfold fd at h
    cases h
  | k + 1, i, h => by
    unfold fd at h
    cases hg : g i with
    | inl r =>
      rw [hg] at h
      exact ⟨i, by omega, by omega, by rw [hg]; exact h⟩
    | inr u =>
      rw [hg] at h
      obtain ⟨j, h1, h2, h3⟩ := fd_inl k (i + 1) h
      exact ⟨j, by omega, by omega, h3⟩
theorem rWn_0 {R : ST} : ∀ k, rWn R 0 k = 0
  | 0 => rfl
  | k + 1 => by
    unfold rWn
    rw [rWn_0 k, Nat.zero_testBit]
    rfl
theorem rW_0 {R : ST} : rW R 0 = 0 := rWn_0 _
theorem ile {a b : Nat} (ha : a < 2 ^ 31) (hb : b < 2 ^ 31) {α : Type} (x y : α) : (if nI a ≤ nI b then x else y) = if a ≤ b then x else y := by simp only [nI_leI ha hb]
theorem ilt {a b : Nat} (ha : a < 2 ^ 31) (hb : b < 2 ^ 31) {α : Type} (x y : α) : (if nI a < nI b then x else y) = if a < b then x else y := by simp only [nI_ltI ha hb]
theorem ieq {a b : Nat} (ha : a < 2 ^ 31) (hb : b < 2 ^ 31) {α : Type} (x y : α) : (if nI a = nI b then x else y) = if a = b then x else y := by simp only [nI_inj ha hb]
theorem nle {a b : Nat} (h : a ≤ b) (hb : b < 2 ^ 31 := by omega) : nI a ≤ nI b := (nI_leI (by omega) hb).mpr h
theorem nnle {a b : Nat} (h : b < a) (ha : a < 2 ^ 31 := by omega) : ¬ nI a ≤ nI b := fun q => by
  have := (nI_leI ha (by omega)).mp q
  omega
/-- the set that falls for a code -/
def gS (R : ST) (c : Nat) : Nat := if c < 100 then rU R c else if c < 200 then rH R ((c - 100) / 10) (c % 10) else rH R (c - 200) 3
/-- what a code stands for -/
def gV (R : ST) (c : Nat) : Prop := (c < R 0 1 ∧ (R 0 2).testBit c = false) ∨ (∃ p q, p < R 0 0 ∧ q < 3 ∧ c = 100 + 10 * p + q) ∨ (∃ p, p < R 0 0 ∧ c = 200 + p)
theorem rOv_V {R : ST} (hI : RailI R) {c : Nat} (h : rOv R = .inl c) : gV R c ∧ gS R c ≠ 0 := by
  have hP := hI.1
  have hL := hI.2.1
  unfold rOv at h
  cases h1 : fd (g1 R) 0 (R 0 1) with
  | inl d =>
    rw [h1] at h
    have e : d = c := by injection h
    subst e
    obtain ⟨l, -, hl, hg⟩ := fd_inl _ _ h1
    unfold g1 at hg
    by_cases q : R 4 l * (if R 5 l = 0 then 5 else 9) < rB R l
    · rw [if_pos q] at hg
      have e : l = d := by injection hg
      subst e
      refine ⟨Or.inl ⟨by omega, ?_⟩, ?_⟩
      · cases g : (R 0 2).testBit l
        · rfl
        · rw [rB_gone hI (by omega) g] at q
          omega
      · unfold gS
        rw [if_pos (by omega)]
        intro z
        have := rUn_self (R := R) (l := l) (R 0 1 - (l + 1))
        unfold rU at z
        rw [z] at this
        simp at this
    · rw [if_neg q] at hg
      cases hg
  | inr u =>
    rw [h1] at h
    cases h2 : fd (g2 R) 0 (R 0 0) with
    | inl d =>
      rw [h2] at h
      have e : d = c := by injection h
      subst e
      obtain ⟨p, -, hp, hg⟩ := fd_inl _ _ h2
      obtain ⟨q, -, hq, hg⟩ := fd_inl _ _ hg
      unfold g2q at hg
      by_cases t : R 1 p < rW R (rH R p q)
      · rw [if_pos t] at hg
        have e : 100 + 10 * p + q = d := by injection hg
        subst e
        refine ⟨Or.inr (Or.inl ⟨p, q, by omega, by omega, rfl⟩), ?_⟩
        unfold gS
        rw [if_neg (by omega), if_pos (by omega), show (100 + 10 * p + q - 100) / 10 = p by omega, show (100 + 10 * p + q) % 10 = q by omega]
        intro z
        rw [z, rW_0] at t
        omega
      · rw [if_neg t] at hg
        cases hg
    | inr u =>
      rw [h2] at h
      obtain ⟨p, -, hp, hg⟩ := fd_inl _ _ h
      unfold g3 at hg
      by_cases t : R 2 p < rPL R p ∨ R 3 p < rLd R p 4
      · rw [if_pos t] at hg
        have e : 200 + p = c := by injection hg
        subst e
        refine ⟨Or.inr (Or.inr ⟨p, by omega, rfl⟩), ?_⟩
        unfold gS
        rw [if_neg (by omega), if_neg (by omega), show 200 + p - 200 = p by omega]
        intro z
        have e0 : rPL R p = 0 := by rw [← rPL_3 hI, z, rW_0]
        have e1 : rW R (rH R p 1) = 0 := by
          unfold rPL at e0
          omega
        unfold rLd at t
        rw [e0, e1] at t
        simp at t
      · rw [if_neg t] at hg
        cases hg
theorem gS_cl {R : ST} (hI : RailI R) {c : Nat} (h : gV R c) : rCl R (gS R c) := by
  have hP := hI.1
  have hL := hI.2.1
  unfold gS
  rcases h with ⟨h1, h2⟩ | ⟨p, q, hp, hq, rfl⟩ | ⟨p, hp, rfl⟩
  · rw [if_pos (by omega)]
    exact rU_cl hI h1 h2
  · rw [if_neg (by omega), if_pos (by omega)]
    exact rH_cl hI _ _
  · rw [if_neg (by omega), if_neg (by omega)]
    exact rH_cl hI _ _
theorem rH_or {R : ST} (hI : RailI R) (p : Nat) : rH R p 0 ||| rH R p 1 ||| rH R p 2 = rH R p 3 := by
  apply Nat.eq_of_testBit_eq
  intro i
  unfold rH
  rw [Nat.testBit_or, Nat.testBit_or, rH3_bit, rH3_bit, rH3_bit, rH3_bit]
  by_cases hi : i < R 0 1
  · have h8 := (hI.2.2.2.2 i hi).2.2.2.2.1
    have : R 8 i = 0 ∨ R 8 i = 1 ∨ R 8 i = 2 := by omega
    rcases this with q | q | q <;> simp [q]
  · simp [hi]
theorem X4_from_eq {R : ST} {w : ZW} (hI : RailI R) (hC : RailC R w.1) {c : Nat} (h : gV R c) : f_X4_hangingFrom w (nI c) = some (nI (gS R c)) := by
  have hP := hI.1
  have hL := hI.2.1
  unfold f_X4_hangingFrom gS
  rw [show (100 : Int32) = nI 100 from rfl, show (200 : Int32) = nI 200 from rfl]
  rcases h with ⟨h1, h2⟩ | ⟨p, q, hp, hq, rfl⟩ | ⟨p, hp, rfl⟩
  · rw [if_neg (nnle (by omega)), if_pos (by omega), X4_withAllOn_eq hI hC h1]
    rfl
  · rw [if_pos (nle (by omega)), if_neg (nnle (by omega)), if_neg (by omega), if_pos (by omega), pk_sub (by omega), show (10 : Int32) = nI 10 from rfl, pk_rem (by omega) (by omega) (by omega), pk_div (by omega) (by omega) (by omega), show (100 + 10 * p + q - 100) / 10 = p by omega, show (100 + 10 * p + q - 100) % 10 = q by omega, show (100 + 10 * p + q) % 10 = q by omega, X4_hangingAt_eq hI hC hp (by omega)]
    rfl
  · have e0 := X4_hangingAt_eq hI hC hp (q := 0) (by omega)
    have e1 := X4_hangingAt_eq hI hC hp (q := 1) (by omega)
    have e2 := X4_hangingAt_eq hI hC hp (q := 2) (by omega)
    rw [if_pos (nle (by omega)), if_pos (nle (by omega)), if_neg (by omega), if_neg (by omega), pk_sub (by omega), show 200 + p - 200 = p by omega, show (0 : Int32) = nI 0 from rfl, show (1 : Int32) = nI 1 from rfl, show (2 : Int32) = nI 2 from rfl, e0, e1, e2]
    simp only [Option.bind_some, nI_or, rH_or hI]
/-- what has fallen, and what is then -/
def rGv : Nat → ST → Nat × ST
  | 0, R => (0, R)
  | n + 1, R => (rOv R).elim (fun c => (pc14 (gS R c) + (rGv n (rG R (R 0 2 ||| gS R c))).1, (rGv n (rG R (R 0 2 ||| gS R c))).2)) (fun _ => (0, R))
theorem rG_gt {R : ST} (hI : RailI R) {c : Nat} (h : rOv R = .inl c) : pc14 (R 0 2) < pc14 ((rG R (R 0 2 ||| gS R c)) 0 2) ∧ pc14 ((rG R (R 0 2 ||| gS R c)) 0 2) ≤ 14 := by
  obtain ⟨v, z⟩ := rOv_V hI h
  have cl := gS_cl hI v
  refine ⟨?_, pcf_le _ _⟩
  show pc14 (R 0 2) < pc14 (R 0 2 ||| gS R c)
  rw [pc_disj cl.2.1]
  have := pc_pos (le14 hI.2.1 cl.1) z
  omega
theorem rGv_I : ∀ (n : Nat) {R : ST}, RailI R → RailI (rGv n R).2 ∧ (rGv n R).2 0 0 = R 0 0 ∧ (rGv n R).2 0 1 = R 0 1
  | 0, R, h => ⟨h, rfl, rfl⟩
  | n + 1, R, h => by
    unfold rGv
    cases hv : rOv R with
    | inl c =>
      have cl := gS_cl h (rOv_V h hv).1
      exact rGv_I n (rG_I h cl)
    | inr u => exact ⟨h, rfl, rfl⟩
theorem oc_m4 {R : ST} (hI : RailI R) : (oc (rOv R) = -4 ↔ ∃ u, rOv R = .inr u) ∧ (oc (rOv R) < 0 ↔ ∃ u, rOv R = .inr u) := by
  cases h : rOv R with
  | inr u => simp [oc]
  | inl c =>
    have hP := hI.1
    have hL := hI.2.1
    have hc : c < 1000 := by
      rcases (rOv_V hI h).1 with ⟨h1, h2⟩ | ⟨p, q, hp, hq, rfl⟩ | ⟨p, hp, rfl⟩ <;> omega
    have e : oc (.inl c) = nI c := rfl
    rw [e]
    refine ⟨⟨fun q => ?_, fun ⟨u, q⟩ => by cases q⟩, ⟨fun q => absurd q (nI_pos (by omega)), fun ⟨u, q⟩ => by cases q⟩⟩
    exfalso
    have : nI c < 0 := by rw [q]; decide
    exact nI_pos (by omega) this
theorem C_give : ∀ (n k a N : Nat) (R : ST) (w : ZW), RailI R → RailC R w.1 → 14 - pc14 (R 0 2) ≤ n → k + n ≤ 14 → n < N → ∃ w', z_iter f_X4_fallWhileOver_L9 N (nI a, oc (rOv R), nI k, w) = some (nI (a + (rGv n R).1), w') ∧ RailC (rGv n R).2 w'.1 ∧ (∀ b j, ¬ (b = 2 ∧ j = 5) → w'.1 b j = w.1 b j) ∧ w'.2 = w.2 := by
  intro n
  induction n with
  | zero =>
    intro k a N R w hI hC h1 h2 h3
    obtain ⟨N, rfl⟩ : ∃ M, N = M + 1 := ⟨N - 1, by omega⟩
    have hv : ∃ u, rOv R = .inr u := by
      cases h : rOv R with
      | inr u => exact ⟨u, rfl⟩
      | inl c =>
        have := rG_gt hI h
        omega
    refine ⟨w, ?_, hC, fun _ _ _ => rfl, rfl⟩
    have e : f_X4_fallWhileOver_L9 (nI a, oc (rOv R), nI k, w) = some (.inr (nI a, w)) := by
      unfold f_X4_fallWhileOver_L9
      simp only [(oc_m4 hI).1.mpr hv, if_true]
      split <;> rfl
    simp [z_iter, e, rGv]
  | succ n ih =>
    intro k a N R w hI hC h1 h2 h3
    obtain ⟨N, rfl⟩ : ∃ M, N = M + 1 := ⟨N - 1, by omega⟩
    cases h : rOv R with
    | inr u =>
      refine ⟨w, ?_, ?_, fun _ _ _ => rfl, rfl⟩
      · have e : f_X4_fallWhileOver_L9 (nI a, oc (.inr u), nI k, w) = some (.inr (nI a, w)) := by
          unfold f_X4_fallWhileOver_L9
          simp only [show oc (.inr u) = -4 from rfl, if_true]
          split <;> rfl
        simp [z_iter, e, rGv, h]
      · simp only [rGv, h, Sum.elim_inr]
        exact hC
    | inl c =>
      obtain ⟨v, z⟩ := rOv_V hI h
      have cl := gS_cl hI v
      have gt := rG_gt hI h
      have hI' := rG_I hI cl
      have hC' := rG_C hC (R 0 2 ||| gS R c)
      obtain ⟨w', i1, i2, i3, i4⟩ := ih (k + 1) (a + pc14 (gS R c)) N (rG R (R 0 2 ||| gS R c)) (z_upI w 2 5 (nI (R 0 2 ||| gS R c))) hI' hC' (by omega) (by omega) (by omega)
      have n4 : ¬ nI c = -4 := fun q => by
        have := (oc_m4 hI).1.mp (by rw [h]; exact q)
        obtain ⟨u, q⟩ := this
        rw [h] at q
        cases q
      have e : f_X4_fallWhileOver_L9 (nI a, oc (.inl c), nI k, w) = some (.inl (nI (a + pc14 (gS R c)), oc (rOv (rG R (R 0 2 ||| gS R c))), nI (k + 1), z_upI w 2 5 (nI (R 0 2 ||| gS R c)))) := by
        unfold f_X4_fallWhileOver_L9
        simp only [show (14 : Int32) = nI 14 from rfl, nI_leI (show 14 < 2 ^ 31 by omega) (show k < 2 ^ 31 by omega), show ¬ 14 ≤ k by omega, if_false, show oc (.inl c) = nI c from rfl, n4, X4_from_eq hI hC v, Option.bind_some, fall_eq hI hC cl.1 cl.2.1, X4_firstOver_eq hI' hC', nI_1, nI_add]
      refine ⟨w', ?_, ?_, fun b j q => ?_, ?_⟩
      · simp only [z_iter, e, Option.bind_some]
        show z_iter _ N _ = _
        rw [i1]
        simp only [rGv, h, Sum.elim_inl, Nat.add_assoc]
      · simp only [rGv, h, Sum.elim_inl]
        exact i2
      · rw [i3 b j q]
        simp only [z_upI]
        rw [if_neg q]
      · rw [i4]
        rfl
