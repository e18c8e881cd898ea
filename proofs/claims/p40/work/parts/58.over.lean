/-! what has more than it holds -/
def fd {ρ : Type} (g : Nat → ρ ⊕ Unit) : Nat → Nat → ρ ⊕ Unit
  | _, 0 => .inr ()
  | i, k + 1 => (g i).elim .inl (fun _ => fd g (i + 1) k)
theorem it_fd {ρ : Type} {B : Int32 → Option (Int32 ⊕ (ρ ⊕ Unit))} (g : Nat → ρ ⊕ Unit) (n : Nat) (hs : ∀ i, i < n → B (nI i) = some ((g i).elim (fun r => .inr (.inl r)) (fun _ => .inl (nI (i + 1))))) (he : B (nI n) = some (.inr (.inr ()))) {N : Nat} (hN : n < N) : z_iter B N (0 : Int32) = some (fd g 0 n) := by
  have main : ∀ (k i N : Nat), i + k = n → k < N → z_iter B N (nI i) = some (fd g i k) := by
    intro k
    induction k with
    | zero =>
      intro i N h1 h2
      have e : i = n := by omega
      subst e
      cases N with
      | zero => omega
      | succ N => simp [z_iter, he, fd]
    | succ k ih =>
      intro i N h1 h2
      cases N with
      | zero => omega
      | succ N =>
        have e := hs i (by omega)
        cases hg : g i with
        | inl r => rw [hg] at e; simp [z_iter, e, fd, hg]
        | inr u => rw [hg] at e; simp [z_iter, e, fd, hg, ih (i + 1) N (by omega) (by omega)]
  exact main n 0 N (by omega) hN
def g1 (R : ST) (l : Nat) : Nat ⊕ Unit := if R 4 l * (if R 5 l = 0 then 5 else 9) < rB R l then .inl l else .inr ()
def g2q (R : ST) (p q : Nat) : Nat ⊕ Unit := if R 1 p < rW R (rH R p q) then .inl (100 + 10 * p + q) else .inr ()
def g2 (R : ST) (p : Nat) : Nat ⊕ Unit := fd (g2q R p) 0 3
def g3 (R : ST) (p : Nat) : Nat ⊕ Unit := if R 2 p < rPL R p ∨ R 3 p < rLd R p 4 then .inl (200 + p) else .inr ()
def rOv (R : ST) : Nat ⊕ Unit := (fd (g1 R) 0 (R 0 1)).elim .inl (fun _ => (fd (g2 R) 0 (R 0 0)).elim .inl (fun _ => fd (g3 R) 0 (R 0 0)))
def oc (x : Nat ⊕ Unit) : Int32 := x.elim nI (fun _ => -4)
def i1 (x : Nat ⊕ Unit) : Int32 ⊕ Unit := x.elim (fun c => .inl (nI c)) .inr
theorem fd_i1 (g : Nat → Nat ⊕ Unit) : ∀ (k i : Nat), fd (fun i => i1 (g i)) i k = i1 (fd g i k)
  | 0, _ => rfl
  | k + 1, i => by
    unfold fd
    cases h : g i with
    | inl c => rfl
    | inr u => exact fd_i1 g k (i + 1)
theorem nI_lt10 : ∀ a b : Nat, a < 2 ^ 31 → b < 2 ^ 31 → (nI a < nI b ↔ a < b) := fun a b ha hb => nI_ltI ha hb
theorem isOver_eq {R : ST} {w : ZW} (hI : RailI R) (hC : RailC R w.1) {l : Nat} (hl : l < R 0 1) : f_X4_isOver w (nI l) = some (if R 4 l * (if R 5 l = 0 then 5 else 9) < rB R l then 1 else 0) := by
  have hL := hI.2.1
  obtain ⟨h4, h5, -⟩ := hI.2.2.2.2 l hl
  obtain ⟨c4, c5, -⟩ := hC.2.2.2.2 l hl
  have hb := rW_le hI (rU R l)
  have hb2 : rB R l ≤ 13986 := by unfold rB; omega
  unfold f_X4_isOver
  rw [X4_isGone_eq hC.2.2.1 (p31 hL hI.2.2.1) (by omega), X4_borneBy_eq hI hC hl]
  simp only [Option.bind_some, if10, z_in_t (show l < 14 by omega) (by omega), if_true, nI_clamp (show l < 2 ^ 31 by omega), c4, c5]
  rw [show (0 : Int32) = nI 0 from rfl, show (5 : Int32) = nI 5 from rfl, show (9 : Int32) = nI 9 from rfl, pk_mul, pk_mul]
  simp only [nI_leI (show rB R l < 2 ^ 31 by omega) (show R 4 l * 5 < 2 ^ 31 by omega), nI_leI (show rB R l < 2 ^ 31 by omega) (show R 4 l * 9 < 2 ^ 31 by omega), nI_inj (show R 5 l < 2 ^ 31 by omega) (show 0 < 2 ^ 31 by omega)]
  by_cases g : (R 0 2).testBit l = true
  · rw [if_pos g, rB_gone hI hl g]
    simp
  · rw [if_neg g]
    by_cases q : R 5 l = 0
    · simp only [q, if_true]
      by_cases q2 : R 4 l * 5 < rB R l
      · simp [q2, show ¬ rB R l ≤ R 4 l * 5 by omega]
      · simp [q2, show rB R l ≤ R 4 l * 5 by omega]
    · simp only [q, if_false]
      by_cases q2 : R 4 l * 9 < rB R l
      · simp [q2, show ¬ rB R l ≤ R 4 l * 9 by omega]
      · simp [q2, show rB R l ≤ R 4 l * 9 by omega]
theorem rPL_le {R : ST} (hI : RailI R) (p : Nat) : rPL R p ≤ 41958 := by
  have := rW_le hI (rH R p 0)
  have := rW_le hI (rH R p 1)
  have := rW_le hI (rH R p 2)
  unfold rPL
  omega
theorem rLd_le {R : ST} (hI : RailI R) (p q : Nat) : rLd R p q ≤ 55944 := by
  have := rPL_le hI p
  have := rW_le hI (rH R p 1)
  have := rW_le hI (rH R p q)
  unfold rLd
  split
  · omega
  · split <;> omega
theorem codeN {p q : Nat} : ((100 : Int32) + (10 : Int32) * nI p) + nI q = nI (100 + 10 * p + q) := by
  rw [show (100 : Int32) = nI 100 from rfl, show (10 : Int32) = nI 10 from rfl, pk_mul, nI_add, nI_add]
theorem code2 {p : Nat} : (200 : Int32) + nI p = nI (200 + p) := by
  rw [show (200 : Int32) = nI 200 from rfl, nI_add]
theorem X4_firstOver_eq {R : ST} {w : ZW} (hI : RailI R) (hC : RailC R w.1) : f_X4_firstOver w = some (oc (rOv R)) := by
  have hL := hI.2.1
  have hP := hI.1
  have s1 : z_iter (f_X4_firstOver_L2 w) z_fuel (0 : Int32) = some (fd (fun i => i1 (g1 R i)) 0 (R 0 1)) := by
    refine it_fd _ (R 0 1) (fun i hi => ?_) ?_ (zf (by omega))
    · unfold f_X4_firstOver_L2
      simp only [hC.2.1, nI_leI (show R 0 1 < 2 ^ 31 by omega) (show i < 2 ^ 31 by omega), show ¬ R 0 1 ≤ i by omega, if_false, isOver_eq hI hC hi, Option.bind_some, nI_1]
      unfold g1
      by_cases q : R 4 i * (if R 5 i = 0 then 5 else 9) < rB R i
      · simp [q, i1]
      · simp [q, i1]
    · unfold f_X4_firstOver_L2
      simp [hC.2.1]
  have s2 : z_iter (f_X4_firstOver_L28 w) z_fuel (0 : Int32) = some (fd (fun i => i1 (g2 R i)) 0 (R 0 0)) := by
    refine it_fd _ (R 0 0) (fun p hp => ?_) ?_ (zf (by omega))
    · have s3 : z_iter (f_X4_firstOver_L38 w (nI p)) z_fuel (0 : Int32) = some (fd (fun q => i1 (g2q R p q)) 0 3) := by
        refine it_fd _ 3 (fun q hq => ?_) ?_ (zf (by omega))
        · unfold f_X4_firstOver_L38
          have hw := rW_le hI (rH R p q)
          have hl := (hI.2.2.2.1 p hp).1
          simp only [show (3 : Int32) = nI 3 from rfl, nI_leI (show 3 < 2 ^ 31 by omega) (show q < 2 ^ 31 by omega), show ¬ 3 ≤ q by omega, if_false, X4_barLoad_eq hI hC hp (show q ≤ 2 by omega), Option.bind_some, z_in_t (show p < 6 by omega) (by omega), if_true, nI_clamp (show p < 2 ^ 31 by omega), (hC.2.2.2.1 p hp).1, nI_leI (show rW R (rH R p q) < 2 ^ 31 by omega) (show R 1 p < 2 ^ 31 by omega), nI_1, codeN]
          unfold g2q
          by_cases t : R 1 p < rW R (rH R p q)
          · simp [t, i1, show ¬ rW R (rH R p q) ≤ R 1 p by omega]
          · simp [t, i1, show rW R (rH R p q) ≤ R 1 p by omega]
        · unfold f_X4_firstOver_L38
          rw [if_pos (by decide)]
      unfold f_X4_firstOver_L28
      simp only [hC.1, nI_leI (show R 0 0 < 2 ^ 31 by omega) (show p < 2 ^ 31 by omega), show ¬ R 0 0 ≤ p by omega, if_false, s3, Option.bind_some, nI_1, fd_i1]
      show _ = some ((i1 (g2 R p)).elim _ _)
      unfold g2
      cases fd (g2q R p) 0 3 <;> rfl
    · unfold f_X4_firstOver_L28
      simp [hC.1]
  have s4 : z_iter (f_X4_firstOver_L82 w) z_fuel (0 : Int32) = some (fd (fun i => i1 (g3 R i)) 0 (R 0 0)) := by
    refine it_fd _ (R 0 0) (fun p hp => ?_) ?_ (zf (by omega))
    · have h1 := rPL_le hI p
      have h2 := rLd_le hI p 4
      obtain ⟨-, l2, l3⟩ := hI.2.2.2.1 p hp
      obtain ⟨-, c2, c3⟩ := hC.2.2.2.1 p hp
      unfold f_X4_firstOver_L82
      simp only [hC.1, nI_leI (show R 0 0 < 2 ^ 31 by omega) (show p < 2 ^ 31 by omega), show ¬ R 0 0 ≤ p by omega, if_false, X4_panelLoad_eq hI hC hp, Option.bind_some, z_in_t (show p < 6 by omega) (by omega), if_true, nI_clamp (show p < 2 ^ 31 by omega), c2, c3, nI_ltI (show R 2 p < 2 ^ 31 by omega) (show rPL R p < 2 ^ 31 by omega), X4_sagOf_eq hI hC hp, nI_leI (show rLd R p 4 < 2 ^ 31 by omega) (show R 3 p < 2 ^ 31 by omega), nI_1, code2]
      unfold g3
      by_cases t : R 2 p < rPL R p
      · simp [t, i1]
      · by_cases t2 : R 3 p < rLd R p 4
        · simp [t, t2, i1, show ¬ rLd R p 4 ≤ R 3 p by omega]
        · simp [t, t2, i1, show rLd R p 4 ≤ R 3 p by omega]
    · unfold f_X4_firstOver_L82
      simp [hC.1]
  unfold f_X4_firstOver
  rw [s1, fd_i1]
  unfold rOv oc
  cases h1 : fd (g1 R) 0 (R 0 1) with
  | inl c => simp [i1]
  | inr u =>
    simp only [i1, Option.bind_some, Sum.elim_inr]
    rw [s2, fd_i1]
    cases h2 : fd (g2 R) 0 (R 0 0) with
    | inl c => simp [i1]
    | inr u =>
      simp only [i1, Option.bind_some, Sum.elim_inr]
      rw [s4, fd_i1]
      cases h3 : fd (g3 R) 0 (R 0 0) with
      | inl c => simp [i1]
      | inr u => simp [i1]
theorem mul3 {p : Nat} : (3 : Int32) * nI p = nI (3 * p) := by rw [show (3 : Int32) = nI 3 from rfl, pk_mul]
