/-! letters -/
def pr2 (n : Nat) (t : Nat → Nat) (k1 : Nat) (f1 : Nat → Nat) (j1 : Nat) : Nat ⊕ ((Nat × (Nat → Nat)) × (Nat × (Nat → Nat))) := if j1 < n ∧ t j1 = 43 then (nm true t (n - (j1 + 1)) (j1 + 1) 0 f0).elim .inl (fun v => if v.2.2 = n then .inr ((k1, f1), (v.1, v.2.1)) else .inl v.2.2) else .inl j1
def pr (n : Nat) (t : Nat → Nat) : Nat ⊕ ((Nat × (Nat → Nat)) × (Nat × (Nat → Nat))) := (nm true t n 0 0 f0).elim .inl (fun v => pr2 n t v.1 v.2.1 v.2.2)
theorem pr_ok {n : Nat} {t : Nat → Nat} : (∀ e, pr n t = .inl e → e ≤ n) ∧ ∀ k1 f1 k2 f2, pr n t = .inr ((k1, f1), (k2, f2)) → (1 ≤ k1 ∧ k1 ≤ 6) ∧ (1 ≤ k2 ∧ k2 ≤ 6) ∧ (∀ m, m < k1 → isL true (f1 m) = true) ∧ (∀ m, m < k2 → isL true (f2 m) = true) := by
  unfold pr
  cases h1 : nm true t n 0 0 f0 with
  | inl e =>
    have := nm_inl _ _ _ _ h1
    refine ⟨fun e' he => ?_, fun k1 f1 k2 f2 he => (by cases he)⟩
    cases he
    omega
  | inr v =>
    obtain ⟨k, f, j⟩ := v
    obtain ⟨a1, a2, a3, a4, a5, a6, a7⟩ := nm_inr n 0 0 f0 (by omega) (fun m hm => by omega) h1
    show (∀ e, pr2 n t k f j = .inl e → e ≤ n) ∧ ∀ k1 f1 k2 f2, pr2 n t k f j = .inr ((k1, f1), (k2, f2)) → _
    unfold pr2
    by_cases q : j < n ∧ t j = 43
    · rw [if_pos q]
      cases h2 : nm true t (n - (j + 1)) (j + 1) 0 f0 with
      | inl e =>
        have := nm_inl _ _ _ _ h2
        refine ⟨fun e' he => ?_, fun k1 f1 k2 f2 he => (by cases he)⟩
        cases he
        omega
      | inr v =>
        obtain ⟨k', f', j'⟩ := v
        obtain ⟨b1, b2, b3, b4, b5, b6, b7⟩ := nm_inr _ _ 0 f0 (by omega) (fun m hm => by omega) h2
        show (∀ e, (if j' = n then .inr ((k, f), (k', f')) else .inl j' : Nat ⊕ ((Nat × (Nat → Nat)) × (Nat × (Nat → Nat)))) = .inl e → e ≤ n) ∧ ∀ k1 f1 k2 f2, (if j' = n then .inr ((k, f), (k', f')) else .inl j' : Nat ⊕ ((Nat × (Nat → Nat)) × (Nat × (Nat → Nat)))) = .inr ((k1, f1), (k2, f2)) → _
        by_cases z : j' = n
        · rw [if_pos z]
          refine ⟨fun e he => (by cases he), fun k1 f1 k2 f2 he => ?_⟩
          cases he
          exact ⟨⟨a1, a2⟩, ⟨b1, b2⟩, a7, b7⟩
        · rw [if_neg z]
          refine ⟨fun e he => ?_, fun k1 f1 k2 f2 he => (by cases he)⟩
          cases he
          omega
    · rw [if_neg q]
      refine ⟨fun e he => ?_, fun k1 f1 k2 f2 he => (by cases he)⟩
      cases he
      omega
theorem C_stop {n : Nat} {t : Nat → Nat} (hn : n ≤ 40) (ht : ∀ i, i < n → 32 ≤ t i ∧ t i ≤ 126) {x4 : Bool} {k j x2 N : Nat} {w : ZW} (hT : tC n t w) (hk : k ≤ 6) (hk1 : 1 ≤ k) (hj : j ≤ n) (h32 : j < n → t j ≠ 32 ∧ isL true (t j) = false) (h43 : ¬ (j < n ∧ t j = 43 ∧ x4 = false)) (hx : ¬ (j = n ∧ x4 = true)) : F10 (bI true) (N + 1) (nI x2, nI k, bI x4, nI j, w) = some (-20 - nI j, w) := by
  by_cases e : j = n
  · subst e
    have : x4 = false := by cases x4 <;> simp_all
    subst this
    rw [F10_r (L20_end hn hT)]
    show f_X10_read_J144 (bI true) (nI x2) (nI k) (bI false) w = _
    unfold f_X10_read_J144
    rw [show (0 : Int32) = nI 0 from rfl, ieq (by omega) (by omega), if_neg (by omega), if_neg (show ¬ bI true = bI false by decide), hT.1]
  · obtain ⟨t1, t2⟩ := h32 (by omega)
    have hc := (ht j (by omega)).2
    have hs : f_X10_read_L20 (bI true) (nI x2, nI k, bI x4, nI j, w) = some (.inr (.inl ((-20 : Int32) - nI j, w))) := by
      rw [L20_at hn ht hT hk (by omega), t2, if_neg (by simp), J84_eq x4 hk hc, if_neg (fun q => h43 ⟨by omega, q.2.2.2, q.2.1⟩), J125_eq hc, if_neg t1]
    rw [F10_r hs]
    rfl
/-- what reading two names gives -/
theorem read1_eq {n : Nat} {t : Nat → Nat} (hn : n ≤ 40) (ht : ∀ i, i < n → 32 ≤ t i ∧ t i ≤ 126) {w : ZW} (hT : tC n t w) :
    (∀ e, pr n t = .inl e → ∃ w', f_X10_readPair w = some (-20 - nI e, w') ∧ w'.1 = w.1 ∧ ∀ a, a ≠ 120 → w'.2 a = w.2 a) ∧
    (∀ k1 f1 k2 f2, pr n t = .inr ((k1, f1), (k2, f2)) → ∃ w', f_X10_readPair w = some (nI (k1 + k2), w') ∧ w'.1 = w.1 ∧ w'.2 120 1 = lN (pack f1 k1) ∧ w'.2 120 2 = lN (pack f2 k2) ∧ ∀ a, a ≠ 120 → w'.2 a = w.2 a) := by
  have hr : f_X10_readPair w = F10 (bI true) z_fuel (nI 0, nI 0, bI false, nI 0, z_upJ (z_upJ w 120 1 0) 120 2 0) := by
    unfold f_X10_readPair
    rw [bind_eta]
    rfl
  obtain ⟨g1, g2⟩ := C_name hn ht true false n 0 0 0 f0 (z_upJ (z_upJ w 120 1 0) 120 2 0) z_fuel (by omega) (by omega) (fun m hm => by omega) hT (by simp [z_upJ]; rfl) (zf (by omega))
  have l0 : ∀ a, a ≠ 120 → (z_upJ (z_upJ w 120 1 0) 120 2 0).2 a = w.2 a := fun a ha => (upJ_ne ha).trans (upJ_ne ha)
  rw [hr]
  unfold pr
  cases h1 : nm true t n 0 0 f0 with
  | inl e =>
    refine ⟨fun e' he => ?_, fun k1 f1 k2 f2 he => (by cases he)⟩
    cases he
    obtain ⟨w', p1, p2, p3⟩ := g1 e h1
    exact ⟨w', p1, p2, fun a ha => (p3 a ha).trans (l0 a ha)⟩
  | inr v =>
    obtain ⟨k, f, j⟩ := v
    obtain ⟨a1, a2, a3, a4, a5, a6, a7⟩ := nm_inr n 0 0 f0 (by omega) (fun m hm => by omega) h1
    rw [Nat.zero_add] at a5 a6
    obtain ⟨N', w', p1, p2, p3, p4, p5, p6⟩ := g2 k f j h1
    have hT' : tC n t w' := by unfold tC; rw [p3]; exact hT
    show (∀ e, pr2 n t k f j = .inl e → _) ∧ ∀ k1 f1 k2 f2, pr2 n t k f j = .inr ((k1, f1), (k2, f2)) → _
    rw [p1]
    unfold pr2
    by_cases q : j < n ∧ t j = 43
    · rw [if_pos q]
      have hc := (ht j q.1).2
      have hs : f_X10_read_L20 (bI true) (nI (0 + (k - 0)), nI k, bI false, nI j, w') = some (.inl (nI (0 + (k - 0)), nI 0, bI true, nI (j + 1), z_upJ (z_upJ w' 120 1 (w'.2 120 2)) 120 2 0)) := by
        rw [L20_at hn ht hT' a2 (by omega), (a6 q.1).2, if_neg (by simp), J84_eq false a2 hc, if_pos ⟨rfl, rfl, by omega, q.2⟩]
        rfl
      rw [F10_s hs]
      obtain ⟨G1, G2⟩ := C_name hn ht true true (n - (j + 1)) (j + 1) 0 (0 + (k - 0)) f0 (z_upJ (z_upJ w' 120 1 (w'.2 120 2)) 120 2 0) N' (by omega) (by omega) (fun m hm => by omega) hT' (by simp [z_upJ]; rfl) (by omega)
      have l1 : ∀ a, a ≠ 120 → (z_upJ (z_upJ w' 120 1 (w'.2 120 2)) 120 2 0).2 a = w.2 a := fun a ha => ((upJ_ne ha).trans (upJ_ne ha)).trans ((p6 a ha).trans (l0 a ha))
      cases h2 : nm true t (n - (j + 1)) (j + 1) 0 f0 with
      | inl e =>
        refine ⟨fun e' he => ?_, fun k1 f1 k2 f2 he => (by cases he)⟩
        cases he
        obtain ⟨w2, r1, r2, r3⟩ := G1 e h2
        exact ⟨w2, r1, r2.trans p3, fun a ha => (r3 a ha).trans (l1 a ha)⟩
      | inr v =>
        obtain ⟨k', f', j'⟩ := v
        obtain ⟨b1, b2, b3, b4, b5, b6, b7⟩ := nm_inr _ _ 0 f0 (by omega) (fun m hm => by omega) h2
        rw [show j + 1 + (n - (j + 1)) = n by omega] at b5 b6
        obtain ⟨N2, w2, r1, r2, r3, r4, r5, r6⟩ := G2 k' f' j' h2
        have hT2 : tC n t w2 := by unfold tC; rw [r3]; exact hT'
        rw [r1]
        show (∀ e, (if j' = n then .inr ((k, f), (k', f')) else .inl j' : Nat ⊕ ((Nat × (Nat → Nat)) × (Nat × (Nat → Nat)))) = .inl e → _) ∧ ∀ k1 f1 k2 f2, (if j' = n then .inr ((k, f), (k', f')) else .inl j' : Nat ⊕ ((Nat × (Nat → Nat)) × (Nat × (Nat → Nat)))) = .inr ((k1, f1), (k2, f2)) → _
        by_cases z : j' = n
        · rw [if_pos z]
          refine ⟨fun e he => (by cases he), fun k1 f1 k2 f2 he => ?_⟩
          cases he
          subst z
          rw [F10_r (L20_end hn hT2)]
          refine ⟨w2, ?_, r3.trans p3, ?_, r4, fun a ha => (r6 a ha).trans (l1 a ha)⟩
          · show f_X10_read_J144 (bI true) (nI (0 + (k - 0) + (k' - 0))) (nI k') (bI true) w2 = _
            unfold f_X10_read_J144
            rw [show (0 : Int32) = nI 0 from rfl, ieq (by omega) (by omega), if_neg (by omega), if_pos rfl, if_neg (show ¬ bI true = nI 0 by decide), show 0 + (k - 0) + (k' - 0) = k + k' by omega]
          · rw [r5]
            simp [z_upJ, p4]
        · rw [if_neg z]
          refine ⟨fun e he => ?_, fun k1 f1 k2 f2 he => (by cases he)⟩
          cases he
          refine ⟨w2, C_stop hn ht hT2 b2 b1 b5 b6 (fun h => by simp at h) (fun h => z h.1), r3.trans p3, fun a ha => (r6 a ha).trans (l1 a ha)⟩
    · rw [if_neg q]
      refine ⟨fun e he => ?_, fun k1 f1 k2 f2 he => (by cases he)⟩
      cases he
      exact ⟨w', C_stop hn ht hT' a2 a1 a5 a6 (fun h => q ⟨h.1, h.2.1⟩) (fun h => by simp at h), p3, fun a ha => (p6 a ha).trans (l0 a ha)⟩
def nfl (w w' : ZW) : Prop := (∀ c j, ¬ (c = 130 ∧ (j = 13 ∨ j = 14 ∨ j = 15)) → c ≠ 146 → w'.1 c j = w.1 c j) ∧ w'.2 = w.2
