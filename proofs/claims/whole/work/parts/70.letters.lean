/-! letters -/
def pr2 (n : Nat) (t : Nat → Nat) (k1 : Nat) (f1 : Nat → Nat) (j1 : Nat) : Nat ⊕ ((Nat × (Nat → Nat)) × (Nat × (Nat → Nat))) := if j1 < n ∧ t j1 = 43 then (nm true t (n - (j1 + 1)) (j1 + 1) 0 f0).elim .inl (fun v => if v.2.2 = n then .inr ((k1, f1), (v.1, v.2.1)) else .inl v.2.2) else .inl j1
def pr (n : Nat) (t : Nat → Nat) : Nat ⊕ ((Nat × (Nat → Nat)) × (Nat × (Nat → Nat))) := (nm true t n 0 0 f0).elim .inl (fun v => pr2 n t v.1 v.2.1 v.2.2)
theorem pr_ok {n : Nat} {t : Nat → Nat} : (∀ e, pr n t = .inl e → e ≤ n) ∧ ∀ k1 f1 k2 f2, pr n t = .inr ((k1, f1), (k2, f2)) → (1 ≤ k1 ∧ k1 ≤ 6) ∧ (1 ≤ k2 ∧ k2 ≤ 6) ∧ (∀ m, m < k1 → isL true (f1 m) = true) ∧ (∀ m, m < k2 → isL true (f2 m) = true) := by
  unfold pr
  cases h1 : nm true t n 0 0 f0 with
  | inl e =>
    have := nm_inl _ _ _ _ h1
    refine ⟨fun e' he => ?_, fun k1 f1 k2 f2 he => (by cases he)⟩
    cases he
    omega
  | inr v =>
    obtain ⟨k, f, j⟩ := v
    obtain ⟨a1, a2, a3, a4, a5, a6, a7⟩ := nm_inr n 0 0 f0 (by omega) (fun m hm => by omega) h1
    show (∀ e, pr2 n t k f j = .inl e → e ≤ n) ∧ ∀ k1 f1 k2 f2, pr2 n t k f j = .inr ((k1, f1), (k2, f2)) → _
    unfold pr2
    by_cases q : j < n ∧ t j = 43
    · rw [if_pos q]
      cases h2 : nm true t (n - (j + 1)) (j + 1) 0 f0 with
      | inl e =>
        have := nm_inl _ _ _ _ h2
        refine ⟨fun e' he => ?_, fun k1 f1 k2 f2 he => (by cases he)⟩
        cases he
        omega
      | inr v =>
        obtain ⟨k', f', j'⟩ := v
        obtain ⟨b1, b2, b3, b4, b5, b6, b7⟩ := nm_inr _ _ 0 f0 (by omega) (fun m hm => by omega) h2
        show (∀ e, (if j' = n then .inr ((k, f), (k', f')) else .inl j' : Nat ⊕ ((Nat × (Nat → Nat)) × (Nat × (Nat → Nat)))) = .inl e → e ≤ n) ∧ ∀ k1 f1 k2 f2, (if j' = n then .inr ((k, f), (k', f')) else .inl j' : Nat ⊕ ((Nat × (Nat → Nat)) × (Nat × (Nat → Nat)))) = .inr ((k1, f1), (k2, f2)) → _
        by_cases z : j' = n
        · rw [if_pos z]
          refine ⟨fun e he => (by cases he), fun k1 f1 k2 f2 he => ?_⟩
          cases he
          exact ⟨⟨a1, a2⟩, ⟨b1, b2⟩, a7, b7⟩
        · rw [if_neg z]
          refine ⟨fun e he => ?_, fun k1 f1 k2 f2 he => (by cases he)⟩
          cases he
          omega
    · rw [if_neg q]
      refine ⟨fun e he => ?_, fun k1 f1 k2 f2 he => (by cases he)⟩
      cases he
      omega
theorem C_stop {n : Nat} {t : Nat → Nat} (hn : n ≤ 40) (ht : ∀ i, i < n → 32 ≤ t i ∧ t i ≤ 126) {x4 : Bool} {k j x2 N : Nat} {w : ZW} (hT : tC n t w) (hk : k ≤ 6) (hk1 : 1 ≤ k) (hj : j ≤ n) (h32 : j < n → t j ≠ 32 ∧ isL true (t j) = false) (h43 : ¬ (j < n ∧ t j = 43 ∧ x4 = false)) (hx : ¬ (j = n ∧ x4 = true)) : F10 (bI true) (N + 1) (nI x2, nI k, bI x4, nI j, w) = some (-20 - nI j, w) := by
  by_cases e : j = n
  · subst e
    have : x4 = false := by cases x4 <;> simp_all
    subst this
    rw [F10_r (L20_end hn hT)]
    show f_X10_read_J144 (bI true) (nI x2) (nI k) (bI false) w = _
    unfold f_X10_read_J144
    rw [show (0 : Int32) = nI 0 from rfl, ieq (by omega) (by omega), if_neg (by omega), if_neg (show ¬ bI true = bI false by decide), hT.1]
  · obtain ⟨t1, t2⟩ := h32 (by omega)
    have hc := (ht j (by omega)).2
    have hs : f_X10_read_L20 (bI true) (nI x2, nI k, bI x4, nI j, w) = some (.inr (.inl ((-20 : Int32) - nI j, w))) := by
      rw [L20_at hn ht hT hk (by omega), t2, if_neg (by simp), J84_eq x4 hk hc, if_neg (fun q => h43 ⟨by omega, q.2.2.2, q.2.1⟩), J125_eq hc, if_neg t1]
    rw [F10_r hs]
    rfl
/-- what reading two names gives -/
theorem read1_eq {n : Nat} {t : Nat → Nat} (hn : n ≤ 40) (ht : ∀ i, i < n → 32 ≤ t i ∧ t i ≤ 126) {w : ZW} (hT : tC n t w) :
    (∀ e, pr n t = .inl e → ∃ w', f_X10_readPair w = some (-20 - nI e, w') ∧ w'.1 = w.1 ∧ ∀ a, a ≠ 120 → w'.2 a = w.2 a) ∧
    (∀ k1 f1 k2 f2, pr n t = .inr ((k1, f1), (k2, f2)) → ∃ w', f_X10_readPair w = some (nI (k1 + k2), w') ∧ w'.1 = w.1 ∧ w'.2 120 1 = lN (pack f1 k1) ∧ w'.2 120 2 = lN (pack f2 k2) ∧ ∀ a, a ≠ 120 → w'.2 a = w.2 a) := by
  have hr : f_X10_readPair w = F10 (bI true) z_fuel (nI 0, nI 0, bI false, nI 0, z_upJ (z_upJ w 120 1 0) 120 2 0) := by
    unfold f_X10_readPair
    rw [bind_eta]
    rfl
  obtain ⟨g1, g2⟩ := C_name hn ht true false n 0 0 0 f0 (z_upJ (z_upJ w 120 1 0) 120 2 0) z_fuel (by omega) (by omega) (fun m hm => by omega) hT (by simp [z_upJ]; rfl) (zf (by omega))
  have l0 : ∀ a, a ≠ 120 → (z_upJ (z_upJ w 120 1 0) 120 2 0).2 a = w.2 a := fun a ha => (upJ_ne ha).trans (upJ_ne ha)
  rw [hr]
  unfold pr
  cases h1 : nm true t n 0 0 f0 with
  | inl e =>
    refine ⟨fun e' he => ?_, fun k1 f1 k2 f2 he => (by cases he)⟩
    cases he
    obtain ⟨w', p1, p2, p3⟩ := g1 e h1
    exact ⟨w', p1, p2, fun a ha => (p3 a ha).trans (l0 a ha)⟩
  | inr v =>
    obtain ⟨k, f, j⟩ := v
    obtain ⟨a1, a2, a3, a4, a5, a6, a7⟩ := nm_inr n 0 0 f0 (by omega) (fun m hm => by omega) h1
    rw [Nat.zero_add] at a5 a6
    obtain ⟨N', w', p1, p2, p3, p4, p5, p6⟩ := g2 k f j h1
    have hT' : tC n t w' := by unfold tC; rw [p3]; exact hT
    show (∀ e, pr2 n t k f j = .inl e → _) ∧ ∀ k1 f1 k2 f2, pr2 n t k f j = .inr ((k1, f1), (k2, f2)) → _
    rw [p1]
    unfold pr2
    by_cases q : j < n ∧ t j = 43
    · rw [if_pos q]
      have hc := (ht j q.1).2
      have hs : f_X10_read_L20 (bI true) (nI (0 + (k - 0)), nI k, bI false, nI j, w') = some (.inl (nI (0 + (k - 0)), nI 0, bI true, nI (j + 1), z_upJ (z_upJ w' 120 1 (w'.2 120 2)) 120 2 0)) := by
        rw [L20_at hn ht hT' a2 (by omega), (a6 q.1).2, if_neg (by simp), J84_eq false a2 hc, if_pos ⟨rfl, rfl, by omega, q.2⟩]
        rfl
      rw [F10_s hs]
      obtain ⟨G1, G2⟩ := C_name hn ht true true (n - (j + 1)) (j + 1) 0 (0 + (k - 0)) f0 (z_upJ (z_upJ w' 120 1 (w'.2 120 2)) 120 2 0) N' (by omega) (by omega) (fun m hm => by omega) hT' (by simp [z_upJ]; rfl) (by omega)
      have l1 : ∀ a, a ≠ 120 → (z_upJ (z_upJ w' 120 1 (w'.2 120 2)) 120 2 0).2 a = w.2 a := fun a ha => ((upJ_ne ha).trans (upJ_ne ha)).trans ((p6 a ha).trans (l0 a ha))
      cases h2 : nm true t (n - (j + 1)) (j + 1) 0 f0 with
      | inl e =>
        refine ⟨fun e' he => ?_, fun k1 f1 k2 f2 he => (by cases he)⟩
        cases he
        obtain ⟨w2, r1, r2, r3⟩ := G1 e h2
        exact ⟨w2, r1, r2.trans p3, fun a ha => (r3 a ha).trans (l1 a ha)⟩
      | inr v =>
        obtain ⟨k', f', j'⟩ := v
        obtain ⟨b1, b2, b3, b4, b5, b6, b7⟩ := nm_inr _ _ 0 f0 (by omega) (fun m hm => by omega) h2
        rw [show j + 1 + (n - (j + 1)) = n by omega] at b5 b6
        obtain ⟨N2, w2, r1, r2, r3, r4, r5, r6⟩ := G2 k' f' j' h2
        have hT2 : tC n t w2 := by unfold tC; rw [r3]; exact hT'
        rw [r1]
        show (∀ e, (if j' = n then .inr ((k, f), (k', f')) else .inl j' : Nat ⊕ ((Nat × (Nat → Nat)) × (Nat × (Nat → Nat)))) = .inl e → _) ∧ ∀ k1 f1 k2 f2, (if j' = n then .inr ((k, f), (k', f')) else .inl j' : Nat ⊕ ((Nat × (Nat → Nat)) × (Nat × (Nat → Nat)))) = .inr ((k1, f1), (k2, f2)) → _
        by_cases z : j' = n
        · rw [if_pos z]
          refine ⟨fun e he => (by cases he), fun k1 f1 k2 f2 he => ?_⟩
          cases he
          subst z
          rw [F10_r (L20_end hn hT2)]
          refine ⟨w2, ?_, r3.trans p3, ?_, r4, fun a ha => (r6 a ha).trans (l1 a ha)⟩
          · show f_X10_read_J144 (bI true) (nI (0 + (k - 0) + (k' - 0))) (nI k') (bI true) w2 = _
            unfold f_X10_read_J144
            rw [show (0 : Int32) = nI 0 from rfl, ieq (by omega) (by omega), if_neg (by omega), if_pos rfl, if_neg (show ¬ bI true = nI 0 by decide), show 0 + (k - 0) + (k' - 0) = k + k' by omega]
          · rw [r5]
            simp [z_upJ, p4]
        · rw [if_neg z]
          refine ⟨fun e he => ?_, fun k1 f1 k2 f2 he => (by cases he)⟩
          cases he
          refine ⟨w2, C_stop hn ht hT2 b2 b1 b5 b6 (fun h => by simp at h) (fun h => z h.1), r3.trans p3, fun a ha => (r6 a ha).trans (l1 a ha)⟩
    · rw [if_neg q]
      refine ⟨fun e he => ?_, fun k1 f1 k2 f2 he => (by cases he)⟩
      cases he
      exact ⟨w', C_stop hn ht hT' a2 a1 a5 a6 (fun h => q ⟨h.1, h.2.1⟩) (fun h => by simp at h), p3, fun a ha => (p6 a ha).trans (l0 a ha)⟩
def nfl (w w' : ZW) : Prop := (∀ c j, ¬ (c = 130 ∧ (j = 13 ∨ j = 14 ∨ j = 15)) → c ≠ 146 → w'.1 c j = w.1 c j) ∧ w'.2 = w.2
theorem l96_bad {a x y : Int32} {w : ZW} {e : Nat} (h : w.1 130 14 = nI e) : f_X12_letters_J96 a x y w = some (-20 - nI e, z_upI (wrW w 1) 130 13 0) := by
  unfold f_X12_letters_J96 f_X12_letters_J101
  rw [show z_bo 1 = true from rfl, if_pos rfl]
  simp only [z_let]
  rw [upc (by omega), upc_e, if_neg i10, upc (by omega), upc (by omega), h]
  rfl
theorem l44_bad {a x : Int32} {w : ZW} {e : Nat} (h : w.1 130 14 = nI e) : ∃ w3, f_X12_letters_J44 a x w = some (-20 - nI e, w3) ∧ w3.1 130 13 = 0 ∧ nfl w w3 := by
  have e14 : (wrW w 1).1 130 14 = nI e := by unfold wrW; rw [upc (by omega), h]
  have e1 : f_X12_letters_J44 a x w = f_X12_letters_J69 a x 0 ((wrW w 1).1 130 14) (wrW w 1) := by
    unfold f_X12_letters_J44 f_X12_letters_J49
    rw [show z_bo 1 = true from rfl, if_pos rfl]
    simp only [z_let]
    rw [upc_e, if_neg i10]
    rfl
  have e2 : f_X12_name (atW (wrW w 1) e) 6 1 = some (0, atW (wrW w 1) e) := by
    have e15 : ¬ (atW (wrW w 1) e).1 130 15 = 0 := by rw [atW_o (by omega)]; unfold wrW; rw [upc_e]; exact i10
    rw [name_eq, if_neg e15]
    have : f_X12_name_L16 1 6 ((0 : Int32), (0 : Int32), atW (wrW w 1) e) = some (.inr (0, atW (wrW w 1) e)) := by
      unfold f_X12_name_L16
      simp only [if_true]
    exact it_count (fun _ => ((0 : Int32), (0 : Int32), atW (wrW w 1) e)) 0 _ (fun i hi => by omega) this (zf (by omega))
  refine ⟨z_upI (wrW (atW (wrW w 1) e) 1) 130 13 0, ?_, upc_e, fun c j q1 q2 => ?_, rfl⟩
  · rw [e1, e14]
    unfold f_X12_letters_J69
    simp only [z_let]
    rw [show nI e + (0 : Int32) = nI e from nI_add e 0, show z_upI (wrW w 1) 130 14 (nI e) = atW (wrW w 1) e from rfl, e2]
    have e15 : ¬ (atW (wrW w 1) e).1 130 15 = 0 := by rw [atW_o (by omega)]; unfold wrW; rw [upc_e]; exact i10
    simp only [Option.bind_some]
    rw [if_neg e15]
    exact l96_bad atW_1
  · unfold wrW
    rw [upc (by omega), upc (by omega), atW_o (by omega), upc (by omega)]
theorem l69_eq {n : Nat} {t : Nat → Nat} (hn : n ≤ 40) (ht : ∀ i, i < n → 32 ≤ t i ∧ t i ≤ 126) {w : ZW} (hT : tM n t w) {a : Int32} {k1 j : Nat} (hj : j < n) (h15 : w.1 130 15 = 0) :
    (∀ e, nm true t (n - (j + 1)) (j + 1) 0 f0 = .inl e → ∃ w3, f_X12_letters_J69 a (nI k1) 1 (nI j) w = some (-20 - nI e, w3) ∧ w3.1 130 13 = 0 ∧ nfl w w3) ∧
    (∀ k2 f2 j2, nm true t (n - (j + 1)) (j + 1) 0 f0 = .inr (k2, f2, j2) → if j2 = n then ∃ w3, f_X12_letters_J69 a (nI k1) 1 (nI j) w = f_X12_letters_J101 a (nI k1) (nI k2) 0 w3 ∧ (∀ m, m < k2 → w3.1 146 (6 + m) = nI (f2 m)) ∧ (∀ m, m < 6 → w3.1 146 m = w.1 146 m) ∧ nfl w w3 else ∃ w3, f_X12_letters_J69 a (nI k1) 1 (nI j) w = some (-20 - nI j2, w3) ∧ w3.1 130 13 = 0 ∧ nfl w w3) := by
  have hT2 : tM n t (atW w (j + 1)) := tM_at hT
  have en : f_X12_name (atW w (j + 1)) 6 1 = z_iter (f_X12_name_L16 (bI true) (nI 6)) z_fuel (nI 0, 1, atW w (j + 1)) := by
    rw [name_eq, if_pos (by rw [atW_o (by omega)]; exact h15)]
    rfl
  obtain ⟨m1, m2⟩ := M_name hn ht true (a := 6) (by omega) (n + 1) (j + 1) 0 f0 (atW w (j + 1)) z_fuel (by omega) (by omega) (by omega) hT2 atW_1 (fun m hm => by omega) (zf (by omega))
  unfold f_X12_letters_J69
  simp only [z_let]
  rw [show nI j + (1 : Int32) = nI (j + 1) from nI_add j 1, show z_upI w 130 14 (nI (j + 1)) = atW w (j + 1) from rfl, en]
  have nf : ∀ w3, nfr 6 (atW w (j + 1)) w3 → nfl w w3 := fun w3 p => ⟨fun c i q1 q2 => (p.1 c i (by omega) (by omega)).trans (atW_o (by omega)), p.2⟩
  have nf2 : ∀ w3, nfl w w3 → nfl w (z_upI (wrW w3 1) 130 13 0) := fun w3 p => ⟨fun c i q1 q2 => by unfold wrW; rw [upc (by omega), upc (by omega)]; exact p.1 c i q1 q2, p.2⟩
  refine ⟨fun e he => ?_, fun k2 f2 j2 he => ?_⟩
  · obtain ⟨x, w3, p1, p2, p3, p4⟩ := m1 e he
    refine ⟨z_upI (wrW w3 1) 130 13 0, ?_, upc_e, nf2 _ (nf _ p4)⟩
    rw [p1]
    have e15 : ¬ w3.1 130 15 = 0 := by rw [p2]; exact i10
    exact (if_neg e15).trans (l96_bad p3)
  · obtain ⟨w3, p1, p2, p3, p4, p5⟩ := m2 k2 f2 j2 he
    obtain ⟨b1, b2, b3, b4, b5, b6, b7⟩ := nm_inr _ _ 0 f0 (by omega) (fun m hm => by omega) he
    rw [show j + 1 + (n - (j + 1)) = n by omega] at b5 b6
    have hT3 : tM n t w3 := ⟨(p5.1 130 13 (by omega) (by omega)).trans hT2.1, fun i hi => (p5.1 140 i (by omega) (by omega)).trans (hT2.2 i hi)⟩
    have hh := here_eq hn ht hT3 b5
    rw [atW_self p3, sk_self b6 b5, atW_self p3] at hh
    rw [p1]
    simp only [Option.bind_some]
    rw [p2, if_pos rfl, hh]
    simp only [Option.bind_some]
    by_cases e : j2 = n
    · have : chr n t j2 = 0 := if_neg (by omega)
      rw [this, if_pos (show nI 0 = 0 from rfl), if_pos e]
      exact ⟨w3, rfl, p4, fun m hm => (p5.1 146 m (by omega) (by omega)).trans (atW_o (by omega)), nf _ p5⟩
    · have h1 := (ht j2 (by omega)).1
      have h2 := (ht j2 (by omega)).2
      have : chr n t j2 = t j2 := if_pos (by omega)
      rw [this, if_neg e, show (0 : Int32) = nI 0 from rfl, ieq (by omega) (by omega), if_neg (by omega)]
      exact ⟨z_upI (wrW w3 1) 130 13 0, l96_bad p3, upc_e, nf2 _ (nf _ p5)⟩
theorem letters_mdl {n : Nat} {t : Nat → Nat} (hn : n ≤ 40) (ht : ∀ i, i < n → 32 ≤ t i ∧ t i ≤ 126) {w1 : ZW} (hT : tM n t w1) {a : Int32} (hl : f_X12_isLock w1 a = some 1) :
    (∀ e, pr n t = .inl e → ∃ w3, f_X12_letters w1 a = some (-20 - nI e, w3) ∧ w3.1 130 13 = 0 ∧ nfl w1 w3) ∧
    (∀ k1 f1 k2 f2, pr n t = .inr ((k1, f1), (k2, f2)) → ∃ w3, f_X12_letters w1 a = f_X12_letters_J101 a (nI k1) (nI k2) 0 w3 ∧ (∀ m, m < k1 → w3.1 146 m = nI (f1 m)) ∧ (∀ m, m < k2 → w3.1 146 (6 + m) = nI (f2 m)) ∧ nfl w1 w3) := by
  have nf2 : nfr 0 w1 (wrW (atW w1 0) 0) := ⟨fun c m q1 q2 => by unfold wrW; rw [upc (by omega), atW_o (by omega)], rfl⟩
  have hT2 : tM n t (wrW (atW w1 0) 0) := ⟨(nf2.1 _ _ (by omega) (by omega)).trans hT.1, fun i hi => (nf2.1 _ _ (by omega) (by omega)).trans (hT.2 i hi)⟩
  have en : f_X12_name (wrW (atW w1 0) 0) 0 1 = z_iter (f_X12_name_L16 (bI true) (nI 0)) z_fuel (nI 0, 1, wrW (atW w1 0) 0) := by
    rw [name_eq, if_pos (show (wrW (atW w1 0) 0).1 130 15 = 0 from upc_e)]
    rfl
  obtain ⟨m1, m2⟩ := M_name hn ht true (a := 0) (by omega) (n + 1) 0 0 f0 (wrW (atW w1 0) 0) z_fuel (by omega) (by omega) (by omega) hT2 (by unfold wrW; rw [upc (by omega), atW_1]) (fun m hm => by omega) (zf (by omega))
  rw [Nat.sub_zero] at m1 m2
  have e0 : z_upI (z_upI w1 130 14 (0 : Int32)) 130 15 (0 : Int32) = wrW (atW w1 0) 0 := rfl
  have nfa : ∀ w3, nfr 0 (wrW (atW w1 0) 0) w3 → nfl w1 w3 := fun w3 p => ⟨fun c i q1 q2 => (p.1 c i (by omega) (by omega)).trans (nf2.1 c i (by omega) (by omega)), p.2.trans nf2.2⟩
  have tr : ∀ {u v x : ZW}, nfl u v → nfl v x → nfl u x := fun p q => ⟨fun c i q1 q2 => (q.1 c i q1 q2).trans (p.1 c i q1 q2), q.2.trans p.2⟩
  unfold f_X12_letters
  rw [hl]
  simp only [Option.bind_some, z_let]
  rw [if_neg i10, e0, en]
  unfold pr
  cases h1 : nm true t n 0 0 f0 with
  | inl e =>
    obtain ⟨x, w3, p1, p2, p3, p4⟩ := m1 e h1
    refine ⟨fun e' he => ?_, fun k1 f1 k2 f2 he => (by cases he)⟩
    cases he
    obtain ⟨w4, r1, r2, r3⟩ := l44_bad (a := a) (x := x) p3
    refine ⟨w4, ?_, r2, tr (nfa _ p4) r3⟩
    rw [p1]
    have e15 : ¬ w3.1 130 15 = 0 := by rw [p2]; exact i10
    exact (if_neg e15).trans r1
  | inr v =>
    obtain ⟨k, f, j⟩ := v
    obtain ⟨w3, p1, p2, p3, p4, p5⟩ := m2 k f j h1
    obtain ⟨a1, a2, a3, a4, a5, a6, a7⟩ := nm_inr n 0 0 f0 (by omega) (fun m hm => by omega) h1
    rw [Nat.zero_add] at a5 a6
    have hT3 : tM n t w3 := ⟨(p5.1 130 13 (by omega) (by omega)).trans hT2.1, fun i hi => (p5.1 140 i (by omega) (by omega)).trans (hT2.2 i hi)⟩
    have hh := here_eq hn ht hT3 a5
    rw [atW_self p3, sk_self a6 a5, atW_self p3] at hh
    rw [p1]
    simp only [Option.bind_some]
    rw [p2, if_pos rfl, hh]
    simp only [Option.bind_some, Sum.elim_inr]
    have hc : chr n t j ≤ 126 := by
      unfold chr
      split
      · exact (ht _ (by assumption)).2
      · omega
    rw [show (43 : Int32) = nI 43 from rfl, ieq (by omega) (by omega)]
    unfold pr2
    by_cases q : j < n ∧ t j = 43
    · have : chr n t j = 43 := (if_pos q.1).trans q.2
      rw [this, if_pos rfl, if_pos q]
      have hT4 : tM n t (wrW w3 0) := by
        refine ⟨?_, fun i hi => ?_⟩
        · unfold wrW; rw [upc (by omega)]; exact hT3.1
        · unfold wrW; rw [upc (by omega)]; exact hT3.2 i hi
      have e49 : f_X12_letters_J49 a (nI k) 0 w3 = f_X12_letters_J69 a (nI k) 1 (nI j) (wrW w3 0) := by
        unfold f_X12_letters_J49
        rw [show z_bo 0 = true from rfl, if_pos rfl]
        simp only [z_let]
        rw [upc_e, if_pos rfl, upc (by omega), p3]
        rfl
      rw [e49]
      have n4 : nfl w1 (wrW w3 0) := tr (nfa _ p5) ⟨fun c i q1 q2 => by unfold wrW; rw [upc (by omega)], rfl⟩
      obtain ⟨G1, G2⟩ := l69_eq hn ht hT4 (a := a) (k1 := k) q.1 upc_e
      cases h2 : nm true t (n - (j + 1)) (j + 1) 0 f0 with
      | inl e =>
        refine ⟨fun e' he => ?_, fun k1 f1 k2 f2 he => (by cases he)⟩
        cases he
        obtain ⟨w5, r1, r2, r3⟩ := G1 e h2
        exact ⟨w5, r1, r2, tr n4 r3⟩
      | inr v =>
        obtain ⟨k', f', j'⟩ := v
        have G := G2 k' f' j' h2
        show (∀ e, (if j' = n then .inr ((k, f), (k', f')) else .inl j' : Nat ⊕ ((Nat × (Nat → Nat)) × (Nat × (Nat → Nat)))) = .inl e → _) ∧ ∀ k1 f1 k2 f2, (if j' = n then .inr ((k, f), (k', f')) else .inl j' : Nat ⊕ ((Nat × (Nat → Nat)) × (Nat × (Nat → Nat)))) = .inr ((k1, f1), (k2, f2)) → _
        by_cases z : j' = n
        · rw [if_pos z] at G ⊢
          refine ⟨fun e he => (by cases he), fun k1 f1 k2 f2 he => ?_⟩
          cases he
          obtain ⟨w5, r1, r2, r3, r4⟩ := G
          refine ⟨w5, r1, fun m hm => ?_, r2, tr n4 r4⟩
          rw [r3 m (by omega)]
          unfold wrW
          rw [upc (by omega)]
          have := p4 m hm
          rw [Nat.zero_add] at this
          exact this
        · rw [if_neg z] at G ⊢
          refine ⟨fun e he => ?_, fun k1 f1 k2 f2 he => (by cases he)⟩
          cases he
          obtain ⟨w5, r1, r2, r3⟩ := G
          exact ⟨w5, r1, r2, tr n4 r3⟩
    · have : ¬ chr n t j = 43 := by
        unfold chr
        split
        · intro h; exact q ⟨by assumption, h⟩
        · omega
      rw [if_neg this, if_neg q]
      refine ⟨fun e he => ?_, fun k1 f1 k2 f2 he => (by cases he)⟩
      cases he
      obtain ⟨w4, r1, r2, r3⟩ := l44_bad (a := a) (x := nI k) p3
      exact ⟨w4, r1, r2, tr (nfa _ p5) r3⟩
