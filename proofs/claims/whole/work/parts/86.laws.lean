/-! laws: class -/
def fl (S : ST) (n : Nat) : Bool := decide ((cf S (n / 10) (n % 10) 11).1 < (cf S (n / 10) (n % 10) 11).2)
def lc (S : ST) : Nat → Nat
  | 0 => 0
  | n + 1 => lc S n + if fl S n = true then 1 else 0
def gfr (w w' : ZW) : Prop := (∀ c j, ¬ (c = 53 ∧ (j = 2 ∨ j = 3)) → w'.1 c j = w.1 c j) ∧ w'.2 = w.2
theorem gfr_s {w w' : ZW} (h : gfr w w') (x y : Int32) : gfr w (z_upI (z_upI w' 53 2 x) 53 3 y) := ⟨fun c j q => by rw [upc (by omega), upc (by omega)]; exact h.1 c j q, h.2⟩
theorem gfr_C {S : ST} {w w' : ZW} (h : gfr w w') (hC : GrowC S w.1) : GrowC S w'.1 := fr_GC (fun a j q => h.1 a j (by unfold cGC at q; omega)) hC
theorem lc_le {S : ST} : ∀ n, lc S n ≤ n
  | 0 => Nat.le_refl _
  | n + 1 => by
    have := lc_le (S := S) n
    unfold lc
    split <;> omega
theorem inner11 {S : ST} {w : ZW} (hI : GrowI S) (hC : GrowC S w.1) {a m : Nat} (ha : a ≤ 20) (hm : m ≤ 2) (s1 : Int32 × Int32 × ZW) (hs1 : s1.2.1 = nI a) {w0 : ZW} (hw : gfr w w0) (h0 : m ≠ 0 → lc S (10 * a) = 0) : ∃ res, z_iter (f_X0_lawsThatFit_L13 s1 (nI m)) z_fuel (nI (lc S (10 * a)), (0 : Int32), w0) = some res ∧ ((∃ w', res = .inr (nI (lc S (10 * a + 10)), w') ∧ gfr w w' ∧ (m ≠ 0 → lc S (10 * a + 10) = 0)) ∨ (∃ b w', b < 10 ∧ res = .inl (if m = 1 then nI a else nI b, w') ∧ m ≠ 0 ∧ fl S (10 * a + b) = true ∧ lc S (10 * a + b) = 0 ∧ gfr w w')) := by
  refine it_inv (fun b (s : Int32 × Int32 × ZW) => s.1 = nI (lc S (10 * a + b)) ∧ s.2.1 = nI b ∧ gfr w s.2.2 ∧ (m ≠ 0 → lc S (10 * a + b) = 0)) _ 10 (fun b s hb hP => ?_) (fun s hP => ?_) (zf (by omega)) ⟨rfl, rfl, hw, h0⟩
  · obtain ⟨p1, p2, p3, p4⟩ := hP
    obtain ⟨x, y, u⟩ := s
    dsimp only at p1 p2 p3
    subst p1 p2
    have ef := fits11 (w := u) hI (gfr_C p3 hC) ha (show b ≤ 9 by omega)
    have e1 : (10 * a + b) / 10 = a := by omega
    have e2 : (10 * a + b) % 10 = b := by omega
    have efl : fl S (10 * a + b) = decide ((cf S a b 11).1 < (cf S a b 11).2) := by unfold fl; rw [e1, e2]
    have elc : lc S (10 * a + (b + 1)) = lc S (10 * a + b) + if fl S (10 * a + b) = true then 1 else 0 := rfl
    unfold f_X0_lawsThatFit_L13
    dsimp only
    rw [show (9 : Int32) = nI 9 from rfl, ilt (by omega) (by omega), if_neg (by omega), hs1, ef, Option.bind_some, nI_1]
    by_cases q : (cf S a b 11).1 < (cf S a b 11).2
    · have qf : fl S (10 * a + b) = true := by rw [efl]; simp [q]
      rw [if_pos q, if_neg i10, show (0 : Int32) = nI 0 from rfl, show (1 : Int32) = nI 1 from rfl, ieq (by omega) (by omega), ieq (by omega) (by omega)]
      by_cases z : m = 0
      · rw [if_pos z]
        refine Or.inl ⟨_, rfl, ?_, rfl, gfr_s p3 _ _, fun h => absurd z h⟩
        rw [elc, if_pos qf]
        exact nI_add _ 1
      · rw [if_neg z]
        refine Or.inr ⟨_, ?_, Or.inr ⟨b, _, hb, rfl, z, qf, p4 z, gfr_s p3 (nI (cf S a b 11).1) (mb (cf S a b 11).2)⟩⟩
        by_cases z1 : m = 1
        · rw [if_pos z1, if_pos z1]
        · rw [if_neg z1, if_neg z1]
    · have qf : fl S (10 * a + b) = false := by rw [efl]; simp [q]
      rw [if_neg q, if_pos rfl]
      refine Or.inl ⟨_, rfl, ?_, rfl, gfr_s p3 _ _, fun h => ?_⟩
      · rw [elc, if_neg (by rw [qf]; simp)]
        rfl
      · rw [elc, if_neg (by rw [qf]; simp)]
        exact p4 h
  · obtain ⟨p1, p2, p3, p4⟩ := hP
    obtain ⟨x, y, u⟩ := s
    dsimp only at p1 p2 p3
    subst p1 p2
    refine ⟨.inr (nI (lc S (10 * a + 10)), u), ?_, Or.inl ⟨u, rfl, p3, p4⟩⟩
    unfold f_X0_lawsThatFit_L13
    dsimp only
    rw [show (9 : Int32) = nI 9 from rfl, ilt (by omega) (by omega), if_pos (by omega)]
