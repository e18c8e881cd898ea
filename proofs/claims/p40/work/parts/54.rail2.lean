/-! the rail's asking calls: told, load, on, over -/
theorem rUn_self {R : ST} {l : Nat} : ∀ k, (rUn R l k).testBit l = true
  | 0 => by show (2 ^ l).testBit l = true; rw [Nat.testBit_two_pow_self]
  | k + 1 => by
    unfold rUn
    split
    · rw [Nat.testBit_or, rUn_self k]; rfl
    · exact rUn_self k
theorem rWn_mem {R : ST} {b l : Nat} (h : b.testBit l = true) : ∀ k, l < k → R 4 l ≤ rWn R b k
  | 0, h1 => absurd h1 (by omega)
  | k + 1, h1 => by
    unfold rWn
    by_cases e : l = k
    · subst e
      rw [if_pos h]
      omega
    · have := rWn_mem (R := R) h k (by omega)
      omega
theorem rWn_one {R : ST} {l : Nat} : ∀ k, rWn R (2 ^ l) k = if l < k then R 4 l else 0
  | 0 => by simp [rWn]
  | k + 1 => by
    unfold rWn
    rw [rWn_one k, Nat.testBit_two_pow]
    by_cases e : l = k
    · subst e; simp
    · by_cases e2 : l < k
      · simp [e, e2, show l < k + 1 by omega]
      · simp [e, e2, show ¬ l < k + 1 by omega]
theorem rUn_gone {R : ST} (hI : RailI R) {l : Nat} (hg : (R 0 2).testBit l = true) : ∀ k, l + 1 + k ≤ R 0 1 → rUn R l k = 2 ^ l
  | 0, _ => rfl
  | k + 1, h => by
    unfold rUn
    rw [rUn_gone hI hg k (by omega)]
    have hh := (hI.2.2.2.2 (l + 1 + k) (by omega)).2.2.2.2.2.2
    rw [if_neg]
    intro q
    simp only [Bool.and_eq_true, Bool.not_eq_true', decide_eq_true_eq] at q
    obtain ⟨⟨q1, q2⟩, q3⟩ := q
    rw [Nat.testBit_two_pow, decide_eq_true_eq] at q3
    have := (hh q2).2.2
    rw [← q3] at this
    rw [this hg] at q1
    cases q1
def rB (R : ST) (l : Nat) : Nat := rW R (rU R l) - R 4 l
theorem rB_gone {R : ST} (hI : RailI R) {l : Nat} (hl : l < R 0 1) (hg : (R 0 2).testBit l = true) : rB R l = 0 := by
  unfold rB rU rW
  rw [rUn_gone hI hg _ (by omega), rWn_one, if_pos hl]
  omega
theorem rU_lt {R : ST} (hI : RailI R) {l : Nat} (hl : l < R 0 1) : rU R l < 2 ^ R 0 1 := rUn_lt (by omega)
theorem rH_lt {R : ST} {p q : Nat} : rH R p q < 2 ^ R 0 1 := rHn_lt (Nat.le_refl _)
theorem le14 {L x : Nat} (hL : L ≤ 14) (h : x < 2 ^ L) : x < 2 ^ 14 := Nat.lt_of_lt_of_le h (Nat.pow_le_pow_right (by omega) hL)
theorem rW_le {R : ST} (hI : RailI R) (b : Nat) : rW R b ≤ 13986 := by
  have := rWn_le hI b (R 0 1) (Nat.le_refl _)
  have := hI.2.1
  unfold rW
  omega
theorem X4_borneBy_eq {R : ST} {w : ZW} (hI : RailI R) (hC : RailC R w.1) {l : Nat} (hl : l < R 0 1) : f_X4_borneBy w (nI l) = some (nI (rB R l)) := by
  have hL := hI.2.1
  unfold f_X4_borneBy
  rw [X4_withAllOn_eq hI hC hl]
  simp only [Option.bind_some]
  rw [X4_weightOf_eq hI hC (le14 hL (rU_lt hI hl))]
  simp only [Option.bind_some, z_in_t (show l < 14 by omega) (by omega), if_true, nI_clamp (show l < 2 ^ 31 by omega), (hC.2.2.2.2 l hl).1]
  rw [pk_sub (show R 4 l ≤ rW R (rU R l) from rWn_mem (rUn_self _) _ hl)]
  rfl
theorem rg_07 {b : Int32} (h : rg 0 7 b = true) : b = 0 ∨ b = 1 ∨ b = 2 ∨ b = 3 ∨ b = 4 ∨ b = 5 ∨ b = 6 ∨ b = 7 := by
  obtain ⟨j, -, h1, rfl⟩ := rg_t h (by decide) (by decide)
  have : j = 0 ∨ j = 1 ∨ j = 2 ∨ j = 3 ∨ j = 4 ∨ j = 5 ∨ j = 6 ∨ j = 7 := by omega
  rcases this with rfl | rfl | rfl | rfl | rfl | rfl | rfl | rfl <;> simp [nI]
theorem rg_no {b : Int32} {lo hi k : Nat} (h : ¬ rg lo hi b = true) (hk : (decide (lo ≤ k) && decide (k ≤ hi)) = true) (hl : lo < 2 ^ 31) (hh : hi < 2 ^ 31) : ¬ b = OfNat.ofNat k := by
  intro e
  subst e
  apply h
  show rg lo hi (nI k) = true
  have : k < 2 ^ 31 := by
    simp only [Bool.and_eq_true, decide_eq_true_eq] at hk
    omega
  rw [rg_nI hl hh this]
  exact hk
theorem X4_barLoad_eq {R : ST} {w : ZW} (hI : RailI R) (hC : RailC R w.1) {p q : Nat} (hp : p < R 0 0) (hq : q ≤ 2) : f_X4_barLoad w (nI p) (nI q) = some (nI (rW R (rH R p q))) := by
  unfold f_X4_barLoad
  rw [X4_hangingAt_eq hI hC hp hq]
  simp only [Option.bind_some]
  rw [X4_weightOf_eq hI hC (le14 hI.2.1 rH_lt)]
  rfl
def rPL (R : ST) (p : Nat) : Nat := rW R (rH R p 0) + rW R (rH R p 1) + rW R (rH R p 2)
theorem X4_panelLoad_eq {R : ST} {w : ZW} (hI : RailI R) (hC : RailC R w.1) {p : Nat} (hp : p < R 0 0) : f_X4_panelLoad w (nI p) = some (nI (rPL R p)) := by
  unfold f_X4_panelLoad
  have e0 := X4_barLoad_eq hI hC hp (q := 0) (by omega)
  have e1 := X4_barLoad_eq hI hC hp (q := 1) (by omega)
  have e2 := X4_barLoad_eq hI hC hp (q := 2) (by omega)
  rw [show (0 : Int32) = nI 0 from rfl, show (1 : Int32) = nI 1 from rfl, show (2 : Int32) = nI 2 from rfl, e0, e1, e2]
  simp only [Option.bind_some, nI_add]
  rfl
/-- all that hangs on a panel weighs what its bars bear -/
theorem rH3_bit {R : ST} {p i : Nat} (q : Nat) : ∀ k, (rHn R p q k).testBit i = (decide (i < k) && (!((R 0 2).testBit i) && decide (R 7 i = p) && (decide (q = 3) || decide (R 8 i = q))))
  | 0 => by simp [rHn]
  | k + 1 => by
    unfold rHn
    have ih := rH3_bit (R := R) (p := p) (i := i) q k
    split
    · rename_i h
      rw [Nat.testBit_or, ih, Nat.testBit_two_pow]
      by_cases e : k = i
      · subst e
        simp [h]
      · by_cases e2 : i < k
        · simp [e, e2, show i < k + 1 by omega]
        · simp [e, e2, show ¬ i < k + 1 by omega]
    · rename_i h
      rw [ih]
      by_cases e : i = k
      · subst e
        simp only [Bool.not_eq_true] at h
        simp [h]
      · by_cases e2 : i < k
        · simp [e2, show i < k + 1 by omega]
        · simp [e2, show ¬ i < k + 1 by omega]
theorem rWn_cong {R : ST} {b b' : Nat} : ∀ k, (∀ i, i < k → b.testBit i = b'.testBit i) → rWn R b k = rWn R b' k
  | 0, _ => rfl
  | k + 1, h => by
    unfold rWn
    rw [rWn_cong k (fun i hi => h i (by omega)), h k (by omega)]
theorem rW_three {R : ST} (hI : RailI R) (p : Nat) : ∀ k, k ≤ R 0 1 → rWn R (rH R p 3) k = rWn R (rH R p 0) k + rWn R (rH R p 1) k + rWn R (rH R p 2) k
  | 0, _ => rfl
  | k + 1, h => by
    unfold rWn
    rw [rW_three hI p k (by omega)]
    have h8 := (hI.2.2.2.2 k (by omega)).2.2.2.2.1
    have e0 := rH3_bit (R := R) (p := p) (i := k) 0 (R 0 1)
    have e1 := rH3_bit (R := R) (p := p) (i := k) 1 (R 0 1)
    have e2 := rH3_bit (R := R) (p := p) (i := k) 2 (R 0 1)
    have e3 := rH3_bit (R := R) (p := p) (i := k) 3 (R 0 1)
    have hh : ∀ q, rH R p q = rHn R p q (R 0 1) := fun _ => rfl
    rw [hh, hh, hh, hh, e0, e1, e2, e3]
    have hk : k < R 0 1 := by omega
    by_cases g : (!((R 0 2).testBit k) && decide (R 7 k = p)) = true
    · have : R 8 k = 0 ∨ R 8 k = 1 ∨ R 8 k = 2 := by omega
      rcases this with q | q | q <;> simp [hk, g, q] <;> omega
    · simp only [Bool.not_eq_true] at g
      simp [g]
theorem rPL_3 {R : ST} (hI : RailI R) (p : Nat) : rW R (rH R p 3) = rPL R p := rW_three hI p (R 0 1) (Nat.le_refl _)
def rLd (R : ST) (p q : Nat) : Nat := if q < 3 then rW R (rH R p q) else if q = 3 then rPL R p else rPL R p + rW R (rH R p 1)
theorem X4_sagOf_eq {R : ST} {w : ZW} (hI : RailI R) (hC : RailC R w.1) {p : Nat} (hp : p < R 0 0) : f_X4_sagOf w (nI p) = some (nI (rLd R p 4)) := by
  have e0 : f_X4_barLoad w (nI p) 0 = some (nI (rW R (rH R p 0))) := X4_barLoad_eq hI hC hp (q := 0) (by omega)
  have e1 : f_X4_barLoad w (nI p) 1 = some (nI (rW R (rH R p 1))) := X4_barLoad_eq hI hC hp (q := 1) (by omega)
  have e2 : f_X4_barLoad w (nI p) 2 = some (nI (rW R (rH R p 2))) := X4_barLoad_eq hI hC hp (q := 2) (by omega)
  unfold f_X4_sagOf rLd rPL
  rw [e0, Option.bind_some, e1, Option.bind_some, e2, Option.bind_some, show (2 : Int32) = nI 2 from rfl, pk_mul, nI_add, nI_add, if_neg (show ¬ 4 < 3 by omega), if_neg (show ¬ 4 = 3 by omega)]
  exact congrArg (fun x => some (nI x)) (by omega)
theorem X4_loadOf_eq {R : ST} {w : ZW} (hI : RailI R) (hC : RailC R w.1) {p q : Nat} (hp : p < R 0 0) (hq : q ≤ 4) : f_X4_loadOf w (nI p) (nI q) = some (nI (rLd R p q)) := by
  unfold f_X4_loadOf
  rcases (show q = 0 ∨ q = 1 ∨ q = 2 ∨ q = 3 ∨ q = 4 by omega) with rfl | rfl | rfl | rfl | rfl
  · rw [if_pos (show nI 0 = (0 : Int32) from rfl), X4_barLoad_eq hI hC hp (by omega)]
    rfl
  · rw [if_neg (show ¬ nI 1 = (0 : Int32) by decide), if_pos (show nI 1 = (1 : Int32) from rfl), X4_barLoad_eq hI hC hp (by omega)]
    rfl
  · rw [if_neg (show ¬ nI 2 = (0 : Int32) by decide), if_neg (show ¬ nI 2 = (1 : Int32) by decide), if_pos (show nI 2 = (2 : Int32) from rfl), X4_barLoad_eq hI hC hp (by omega)]
    rfl
  · rw [if_neg (show ¬ nI 3 = (0 : Int32) by decide), if_neg (show ¬ nI 3 = (1 : Int32) by decide), if_neg (show ¬ nI 3 = (2 : Int32) by decide), if_pos (show nI 3 = (3 : Int32) from rfl), X4_panelLoad_eq hI hC hp]
    rfl
  · rw [if_neg (show ¬ nI 4 = (0 : Int32) by decide), if_neg (show ¬ nI 4 = (1 : Int32) by decide), if_neg (show ¬ nI 4 = (2 : Int32) by decide), if_neg (show ¬ nI 4 = (3 : Int32) by decide), if_pos (show nI 4 = (4 : Int32) from rfl), X4_sagOf_eq hI hC hp]
    rfl
