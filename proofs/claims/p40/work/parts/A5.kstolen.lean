/-! stolen: what a thief took is in some loot -/
theorem K_stolen {A : AST} {w : ZW} (hI : StI A) (hC : StC A w.1 w.2) {p q load m : Nat} (hp : p < A 0 0 0) (hq : q ≤ 2) (hld : load ≤ 99999) (hm : m ≤ 2) : ∃ w1, f_X11_stolen w (nI p) (nI q) (nI load) (nI m) = some (if m = 0 then nI (lcl (A 0) (rH (A 0) p q) load).length else if nI (lcl (A 0) (rH (A 0) p q) load).length = 0 then -4 else if m = 1 then nI ((lcl (A 0) (rH (A 0) p q) load).foldl (fun x y => x &&& y) (2 ^ 32 - 1)) else nI ((lcl (A 0) (rH (A 0) p q) load).foldl (fun x y => x ||| y) 0), w1) ∧ (∀ b j, b ≠ 119 → w1.1 b j = w.1 b j) ∧ w1.2 = w.2 := by
  have hP := hI.1.1
  have hL := hI.1.2.1
  have h14 : rH (A 0) p q < 2 ^ 14 := le14 hL rH_lt
  obtain ⟨w1, e1, f1, f2, v0, v1, v2⟩ := find11 hI.1 hC.1 h14 hld
  refine ⟨w1, ?_, f1, f2⟩
  unfold f_X11_stolen
  rw [X11_isBar_eq hC.1.1, Option.bind_some, if10, within_rg, Option.bind_some, if10, within_rg, Option.bind_some, if10, if_pos (show (ixb (A 0 0 0) (nI p) && rg 0 2 (nI q)) = true by rw [ix_y hp (by omega), rg_y (by omega) hq (by decide)]; rfl), if_pos (rg_y (Nat.zero_le _) hld (by decide)), if_pos (rg_y (Nat.zero_le _) hm (by decide)), X4_hangingAt_eq hI.1 hC.1 hp hq, Option.bind_some, e1, Option.bind_some, v0, v1, v2]
  by_cases y0 : m = 0
  · rw [if_pos (by rw [y0]; rfl), if_pos y0]
  · rw [if_neg (nI_nz y0 (by omega)), if_neg y0]
    by_cases y1 : nI (lcl (A 0) (rH (A 0) p q) load).length = 0
    · rw [if_pos y1, if_pos y1]
    · rw [if_neg y1, if_neg y1, show (1 : Int32) = nI 1 from rfl, ieq (by omega) (by omega)]
      split <;> rfl
/-- what is taken: of the locks up to k those that are chosen, with all that hangs on them -/
def tkn (R : ST) (hg c : Nat) : Nat → Nat
  | 0 => 0
  | k + 1 => tkn R hg c k ||| (if hg.testBit k = true ∧ R 5 k = 0 ∧ c.testBit k = true then rU R k else 0)
theorem tkn_s {R : ST} {hg c k : Nat} : tkn R hg c (k + 1) = tkn R hg c k ||| (if hg.testBit k = true ∧ R 5 k = 0 ∧ c.testBit k = true then rU R k else 0) := rfl
theorem tkn_bit {R : ST} {hg c i : Nat} : ∀ k, (tkn R hg c k).testBit i = true ↔ ∃ j, j < k ∧ (hg.testBit j = true ∧ R 5 j = 0 ∧ c.testBit j = true) ∧ (rU R j).testBit i = true
  | 0 => ⟨(fun h => by rw [show tkn R hg c 0 = 0 from rfl, Nat.zero_testBit] at h; cases h), (fun ⟨j, h, _⟩ => absurd h (Nat.not_lt_zero j))⟩
  | k + 1 => by
    rw [tkn_s, Nat.testBit_or, Bool.or_eq_true, tkn_bit k]
    constructor
    · rintro (⟨j, h1, h2, h3⟩ | h)
      · exact ⟨j, by omega, h2, h3⟩
      · by_cases q : hg.testBit k = true ∧ R 5 k = 0 ∧ c.testBit k = true
        · rw [if_pos q] at h
          exact ⟨k, by omega, q, h⟩
        · rw [if_neg q, Nat.zero_testBit] at h
          cases h
    · rintro ⟨j, h1, h2, h3⟩
      by_cases e : j = k
      · subst e
        exact Or.inr (by rw [if_pos h2]; exact h3)
      · exact Or.inl ⟨j, by omega, h2, h3⟩
theorem tkn_lt {R : ST} (hI : RailI R) {hg c : Nat} : ∀ k, k ≤ R 0 1 → tkn R hg c k < 2 ^ R 0 1
  | 0, _ => Nat.pow_pos (by omega)
  | k + 1, h => by
    rw [tkn_s]
    refine Nat.or_lt_two_pow (tkn_lt hI k (by omega)) ?_
    split
    · exact rU_lt hI (by omega)
    · exact Nat.pow_pos (by omega)
theorem tkn_in {R : ST} (hI : RailI R) (hg : R 0 2 = 0) {p q c : Nat} (hq : q ≤ 2) : sbq (tkn R (rH R p q) c (R 0 1)) (rH R p q) := by
  intro i h
  obtain ⟨j, h1, ⟨h2, -, -⟩, h4⟩ := (tkn_bit _).mp h
  have hi : i < R 0 1 := bit_lt (rU_lt hI h1) h4
  obtain ⟨-, -, a3, a4⟩ := (rH_bit hq).mp h2
  obtain ⟨b1, b2⟩ := rU_bar hI hg h1 i i (Nat.le_refl _) hi h4
  exact (rH_bit hq).mpr ⟨hi, by rw [hg, Nat.zero_testBit], b1.trans a3, b2.trans a4⟩
theorem tkn_vld {R : ST} (hI : RailI R) (hg : R 0 2 = 0) {p q c : Nat} (hq : q ≤ 2) {i : Nat} (hi : i < R 0 1) : vld R (rH R p q) i (tkn R (rH R p q) c (R 0 1)) := by
  unfold vld
  by_cases t : (tkn R (rH R p q) c (R 0 1)).testBit i = true
  · rw [if_pos t]
    have hb := tkn_in hI hg hq i t
    obtain ⟨j, h1, h2, h4⟩ := (tkn_bit _).mp t
    rcases (rU_step hI hg h1 hi).mp h4 with e | ⟨e1, e2⟩
    · subst e
      simp [h2.1, h2.2.1]
    · have : (tkn R (rH R p q) c (R 0 1)).testBit (R 9 i - 1) = true := (tkn_bit _).mpr ⟨j, h1, h2, e2⟩
      unfold pul
      simp [hb, e1, this]
  · rw [if_neg t]
    unfold pul
    by_cases e1 : R 9 i = 0
    · simp [e1]
    · by_cases t2 : (tkn R (rH R p q) c (R 0 1)).testBit (R 9 i - 1) = true
      · obtain ⟨j, h1, h2, h4⟩ := (tkn_bit _).mp t2
        exact absurd ((tkn_bit _).mpr ⟨j, h1, h2, (rU_step hI hg h1 hi).mpr (Or.inr ⟨e1, h4⟩)⟩) t
      · simp [t2]
theorem tkn_lcl {R : ST} (hI : RailI R) (hg : R 0 2 = 0) {p q c : Nat} (hq : q ≤ 2) (h0 : tkn R (rH R p q) c (R 0 1) ≠ 0) : rW R (tkn R (rH R p q) c (R 0 1)) ≤ rW R (rH R p q) ∧ tkn R (rH R p q) c (R 0 1) ∈ lcl R (rH R p q) (rW R (rH R p q) - rW R (tkn R (rH R p q) c (R 0 1))) := by
  have le := rW_sub (R := R) (tkn_in hI hg (p := p) (c := c) hq)
  refine ⟨le, ?_⟩
  unfold lcl
  rw [if_pos (by omega)]
  refine (tkl_mem hI (R 0 1) 0 0 _ _ (by omega) (by decide)).mpr ⟨?_, ?_, fun i _ h2 => tkn_vld hI hg hq (by omega), ?_, h0⟩
  · rw [Nat.zero_add]
    exact tkn_lt hI _ (Nat.le_refl _)
  · rw [Nat.pow_zero, Nat.mod_one]
  · show rWn R (tkn R (rH R p q) c (R 0 1)) (0 + R 0 1) = 0 + _
    rw [Nat.zero_add, Nat.zero_add]
    show rW R (tkn R (rH R p q) c (R 0 1)) = _
    omega
theorem or_in {x i : Nat} : ∀ (xs : List Nat) (o : Nat), (x ∈ xs ∧ x.testBit i = true) ∨ o.testBit i = true → (xs.foldl (fun x y => x ||| y) o).testBit i = true
  | [], o, h => by
    rcases h with ⟨h, -⟩ | h
    · exact absurd h List.not_mem_nil
    · exact h
  | y :: ys, o, h => by
    refine or_in (x := x) ys (o ||| y) ?_
    rw [Nat.testBit_or, Bool.or_eq_true]
    rcases h with ⟨h1, h2⟩ | h
    · rcases List.mem_cons.mp h1 with e | e
      · subst e; exact Or.inr (Or.inr h2)
      · exact Or.inl ⟨e, h2⟩
    · exact Or.inr (Or.inl h)
theorem and_in {x i : Nat} : ∀ (xs : List Nat) (a : Nat), (xs.foldl (fun x y => x &&& y) a).testBit i = true → a.testBit i = true ∧ (x ∈ xs → x.testBit i = true)
  | [], a, h => ⟨h, (fun q => absurd q List.not_mem_nil)⟩
  | y :: ys, a, h => by
    obtain ⟨h1, h2⟩ := and_in (x := x) ys (a &&& y) h
    rw [Nat.testBit_and, Bool.and_eq_true] at h1
    refine ⟨h1.1, fun q => ?_⟩
    rcases List.mem_cons.mp q with e | e
    · subst e; exact h1.2
    · exact h2 e
