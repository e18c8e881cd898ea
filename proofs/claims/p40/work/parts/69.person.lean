/-! person -/
theorem m20 : ∀ e, e < 41 → ¬ (0 : Int32) ≤ -20 - nI e := by decide +kernel
def f0 : Nat → Nat := fun _ => 0
/-- what reading one name gives -/
theorem read0_eq {n : Nat} {t : Nat → Nat} (hn : n ≤ 40) (ht : ∀ i, i < n → 32 ≤ t i ∧ t i ≤ 126) {w : ZW} (hT : tC n t w) :
    (∀ e, nm false t n 0 0 f0 = .inl e → ∃ w', f_X10_readName w = some (-20 - nI e, w') ∧ w'.1 = w.1 ∧ ∀ a, a ≠ 120 → w'.2 a = w.2 a) ∧
    (∀ k f j, nm false t n 0 0 f0 = .inr (k, f, j) → ∃ w', f_X10_readName w = some (if j = n then nI k else -20 - nI j, w') ∧ w'.1 = w.1 ∧ (j = n → w'.2 120 1 = lN (pack f k)) ∧ ∀ a, a ≠ 120 → w'.2 a = w.2 a) := by
  have hr : f_X10_readName w = F10 (bI false) z_fuel (nI 0, nI 0, bI false, nI 0, z_upJ (z_upJ w 120 1 0) 120 2 0) := by
    unfold f_X10_readName
    rw [bind_eta]
    rfl
  obtain ⟨g1, g2⟩ := C_name hn ht false false n 0 0 0 f0 (z_upJ (z_upJ w 120 1 0) 120 2 0) z_fuel (by omega) (by omega) (fun m hm => by omega) hT (by simp [z_upJ]; rfl) (zf (by omega))
  rw [hr]
  refine ⟨fun e he => ?_, fun k f j he => ?_⟩
  · obtain ⟨w', p1, p2, p3⟩ := g1 e he
    exact ⟨w', p1, p2, fun a ha => (p3 a ha).trans ((upJ_ne ha).trans (upJ_ne ha))⟩
  · obtain ⟨N', w', p1, p2, p3, p4, p5, p6⟩ := g2 k f j he
    obtain ⟨a1, a2, a3, a4, a5, a6, a7⟩ := nm_inr n 0 0 f0 (by omega) (fun m hm => by omega) he
    have hT' : tC n t w' := by unfold tC; rw [p3]; exact hT
    have p6' : ∀ a, a ≠ 120 → w'.2 a = w.2 a := fun a ha => (p6 a ha).trans ((upJ_ne ha).trans (upJ_ne ha))
    rw [p1]
    by_cases e : j = n
    · subst e
      rw [if_pos rfl, F10_r (L20_end hn hT')]
      refine ⟨z_upJ w' 120 1 (w'.2 120 2), ?_, p3, fun _ => ?_, fun a ha => (upJ_ne ha).trans (p6' a ha)⟩
      · show f_X10_read_J144 (bI false) (nI (0 + (k - 0))) (nI k) (bI false) w' = _
        unfold f_X10_read_J144
        rw [show (0 : Int32) = nI 0 from rfl, ieq (by omega) (by omega), if_neg (by omega), if_pos rfl, if_pos (show bI false = nI 0 from rfl), Nat.zero_add, Nat.sub_zero]
        rfl
      · rw [p4.symm]
        simp [z_upJ]
    · rw [if_neg e]
      obtain ⟨t1, t2⟩ := a6 (by omega)
      have hc := (ht j (by omega)).2
      have hs : f_X10_read_L20 (bI false) (nI (0 + (k - 0)), nI k, bI false, nI j, w') = some (.inr (.inl ((-20 : Int32) - nI j, w'))) := by
        rw [L20_at hn ht hT' a2 (by omega), t2, if_neg (by simp), J84_eq false a2 hc, if_neg (by simp), J125_eq hc, if_neg t1]
      refine ⟨w', ?_, p3, fun h => absurd h e, p6'⟩
      rw [F10_r hs]
      rfl
def psR (S : ST) (q k : Nat) (f : Nat → Nat) : ST := fun a j => if a = 0 ∧ j = 0 then q + 1 else if a = 1 ∧ j = q then k else if a = 2 ∧ 6 * q ≤ j ∧ j < 6 * q + k then f (j - 6 * q) else S a j
theorem psR_o {S : ST} {q k a j : Nat} {f : Nat → Nat} (h : ¬ ((a = 0 ∧ j = 0) ∨ (a = 1 ∧ j = q) ∨ (a = 2 ∧ 6 * q ≤ j ∧ j < 6 * q + k))) : psR S q k f a j = S a j := by
  unfold psR
  rw [if_neg (by omega), if_neg (by omega), if_neg (by omega)]
theorem sk_self {q : Bool} {n : Nat} {t : Nat → Nat} {j : Nat} (h : j < n → t j ≠ 32 ∧ isL q (t j) = false) (hj : j ≤ n) : sk t (n - j) j = j := by
  by_cases e : j < n
  · obtain ⟨m, hm⟩ : ∃ m, n - j = m + 1 := ⟨n - j - 1, by omega⟩
    rw [hm]
    exact if_neg (h e).1
  · rw [show n - j = 0 by omega]
    rfl
def cpW (w : ZW) (b o k : Nat) (f : Nat → Int32) : ZW := fillo w b o k f
theorem person_cls (w : ZW) : f_X11_person w = (f_X10_readName w).bind fun r1 : Int32 × ZW => if 0 ≤ r1.1 then f_X2_addPerson (z_upI r1.2 120 0 0) (r1.2.2 120 1) else some (r1.1, z_upI r1.2 120 0 0) := by
  unfold f_X11_person
  simp only [z_let, bind_eta]
  rfl
theorem person_badA {w w0 : ZW} {x : Int32} (hn : ¬ (0 : Int32) ≤ x) (h1 : f_X10_readName w = some (x, w0)) : f_X11_person w = some (x, z_upI w0 120 0 0) := by
  rw [person_cls, h1]
  exact if_neg hn
theorem addPerson_eq {w : ZW} {q : Nat} (h : w.1 16 0 = nI q) (hq : q ≤ 8) (x : Int64) : f_X2_addPerson w x = if q < 8 then some (nI q, z_upI (z_upJ w 17 q x) 16 0 (nI (q + 1))) else some (-3, w) := by
  unfold f_X2_addPerson
  rw [h, show (8 : Int32) = nI 8 from rfl, ilt (by omega) (by omega)]
  by_cases e : q < 8
  · rw [if_pos e, if_pos e, z_in_t e (by omega), if_pos rfl, nI_clamp (show q < 2 ^ 31 by omega)]
    simp only [z_let, upJ_1]
    rw [h, nI_1]
  · rw [if_neg e, if_neg e]
