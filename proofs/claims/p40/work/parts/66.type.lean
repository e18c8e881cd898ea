/-! type -/
theorem l_and (x : Int64) (k : Nat) (hk : k ≤ 62) : (x &&& (OfNat.ofNat (2 ^ k - 1) : Int64)) = lN (x.toBitVec.toNat % 2 ^ k) := by
  have h63 : 2 ^ k ≤ 2 ^ 62 := Nat.pow_le_pow_right (by omega) hk
  apply Int64.toBitVec_inj.mp
  apply BitVec.eq_of_toNat_eq
  rw [Int64.toBitVec_and, BitVec.toNat_and]
  have e1 : (OfNat.ofNat (2 ^ k - 1) : Int64).toBitVec.toNat = 2 ^ k - 1 := by
    show (BitVec.ofNat 64 (2 ^ k - 1)).toNat = _
    rw [BitVec.toNat_ofNat]
    exact Nat.mod_eq_of_lt (by omega)
  have e2 : (lN (x.toBitVec.toNat % 2 ^ k)).toBitVec.toNat = x.toBitVec.toNat % 2 ^ k := by
    show (BitVec.ofNat 64 _).toNat = _
    rw [BitVec.toNat_ofNat]
    have : x.toBitVec.toNat % 2 ^ k < 2 ^ k := Nat.mod_lt _ (Nat.two_pow_pos k)
    exact Nat.mod_eq_of_lt (by omega)
  rw [e1, e2, Nat.and_two_pow_sub_one_eq_mod]
def ch (a : Int64) (s : Nat) : Nat := (a >>> (((8 : Int32) * nI s).toInt64 &&& 63)).toBitVec.toNat % 256
theorem ch_lt {a : Int64} {s : Nat} : ch a s < 256 := Nat.mod_lt _ (by omega)
theorem ch_eq (a : Int64) (s : Nat) : ((a >>> (((8 : Int32) * nI s).toInt64 &&& 63)) &&& (255 : Int64)) = lN (ch a s) := l_and _ 8 (by omega)
def sgn (c : Nat) : Bool := decide (32 ≤ c) && decide (c ≤ 126)
theorem isSign_eq {c : Nat} (h : c < 256) : f_X10_isSign (lN c) = some (if sgn c = true then 1 else 0) := by
  unfold f_X10_isSign sgn
  simp only [lg_cmp_lt, lg_cmp_gt]
  rw [show (32 : Int64) = lN 32 from rfl, show (126 : Int64) = lN 126 from rfl]
  simp only [pk_lLT (show c < 2 ^ 63 by omega) (show 32 < 2 ^ 63 by omega), pk_lLT (show 126 < 2 ^ 63 by omega) (show c < 2 ^ 63 by omega)]
  by_cases h1 : c < 32
  · simp [h1, show ¬ 32 ≤ c by omega]
  · by_cases h2 : 126 < c
    · simp [h1, h2, show ¬ c ≤ 126 by omega]
    · simp [h1, h2, show 32 ≤ c by omega, show c ≤ 126 by omega]
theorem fd_all {ρ : Type} {r : ρ} {ok : Nat → Bool} : ∀ (k i : Nat), (fd (fun s => if ok s = true then .inr () else .inl r) i k = .inr () ∧ ∀ j, i ≤ j → j < i + k → ok j = true) ∨ fd (fun s => if ok s = true then .inr () else .inl r) i k = .inl r
  | 0, i => Or.inl ⟨rfl, fun j h1 h2 => by omega⟩
  | k + 1, i => by
    unfold fd
    by_cases q : ok i = true
    · rcases fd_all (ρ := ρ) (r := r) (ok := ok) k (i + 1) with ⟨h1, h2⟩ | h
      · left
        simp only [q, if_true, Sum.elim_inr]
        refine ⟨h1, fun j h3 h4 => ?_⟩
        by_cases e : j = i
        · subst e; exact q
        · exact h2 j (by omega) (by omega)
      · right
        simp only [q, if_true, Sum.elim_inr]
        exact h
    · right
      simp only [q]
      rfl
def tpW (w : ZW) (ca cj b L0 i : Nat) (f : Nat → Int32) : ZW := (fun c j => if c = ca ∧ j = cj then nI (L0 + i) else if c = b ∧ L0 ≤ j ∧ j < L0 + i then f (j - L0) else w.1 c j, w.2)
theorem tpW_0 {w : ZW} {ca cj b L0 : Nat} {f : Nat → Int32} (h : w.1 ca cj = nI L0) : tpW w ca cj b L0 0 f = w := by
  unfold tpW
  have : (fun c j => if c = ca ∧ j = cj then nI (L0 + 0) else if c = b ∧ L0 ≤ j ∧ j < L0 + 0 then f (j - L0) else w.1 c j) = w.1 := by
    funext c j
    by_cases q : c = ca ∧ j = cj
    · rw [if_pos q, q.1, q.2, h]
      rfl
    · rw [if_neg q, if_neg (by omega)]
  rw [this]
theorem tpW_c {w : ZW} {ca cj b L0 i : Nat} {f : Nat → Int32} : (tpW w ca cj b L0 i f).1 ca cj = nI (L0 + i) := if_pos ⟨rfl, rfl⟩
theorem tpW_o {w : ZW} {ca cj b L0 i c j : Nat} {f : Nat → Int32} (h1 : ¬ (c = ca ∧ j = cj)) (h2 : ¬ (c = b ∧ L0 ≤ j ∧ j < L0 + i)) : (tpW w ca cj b L0 i f).1 c j = w.1 c j := (if_neg h1).trans (if_neg h2)
theorem tpW_i {w : ZW} {ca cj b L0 i j : Nat} {f : Nat → Int32} (h1 : ¬ (b = ca ∧ j = cj)) (h2 : L0 ≤ j) (h3 : j < L0 + i) : (tpW w ca cj b L0 i f).1 b j = f (j - L0) := (if_neg h1).trans (if_pos ⟨rfl, h2, h3⟩)
theorem tpW_s {w : ZW} {ca cj b L0 i : Nat} {f : Nat → Int32} (h : b ≠ ca) : z_upI (z_upI (tpW w ca cj b L0 i f) ca cj (nI (L0 + i + 1))) b (L0 + i) (f i) = tpW w ca cj b L0 (i + 1) f := by
  unfold tpW z_upI
  refine Prod.ext (funext fun c => funext fun j => ?_) rfl
  show (if c = b ∧ j = L0 + i then f i else if c = ca ∧ j = cj then nI (L0 + i + 1) else if c = ca ∧ j = cj then nI (L0 + i) else if c = b ∧ L0 ≤ j ∧ j < L0 + i then f (j - L0) else w.1 c j) = (if c = ca ∧ j = cj then nI (L0 + (i + 1)) else if c = b ∧ L0 ≤ j ∧ j < L0 + (i + 1) then f (j - L0) else w.1 c j)
  by_cases q1 : c = b ∧ j = L0 + i
  · rw [if_pos q1, if_neg (by omega), if_pos (by omega)]
    congr 1
    omega
  · rw [if_neg q1]
    by_cases q2 : c = ca ∧ j = cj
    · rw [if_pos q2, if_pos q2]
      rfl
    · rw [if_neg q2, if_neg q2, if_neg q2]
      by_cases q3 : c = b ∧ L0 ≤ j ∧ j < L0 + i
      · rw [if_pos q3, if_pos (by omega)]
      · rw [if_neg q3, if_neg (by omega)]
theorem up_comm {w : ZW} {a j b k : Nat} {x y : Int32} (h : ¬ (a = b ∧ j = k)) : z_upI (z_upI w a j x) b k y = z_upI (z_upI w b k y) a j x := by
  unfold z_upI
  refine Prod.ext (funext fun c => funext fun i => ?_) rfl
  show (if c = b ∧ i = k then y else if c = a ∧ i = j then x else w.1 c i) = (if c = a ∧ i = j then x else if c = b ∧ i = k then y else w.1 c i)
  by_cases q : c = b ∧ i = k
  · rw [if_pos q, if_pos q, if_neg (by omega)]
  · rw [if_neg q, if_neg q]
def cd (n i : Nat) : Int32 := nI (n - i) + (-1)
theorem cd_n {n : Nat} : cd n n = -1 := by unfold cd; rw [Nat.sub_self]; rfl
theorem cd_i {n i : Nat} (h : i < n) : cd n i = nI (n - 1 - i) := by
  unfold cd
  rw [show n - i = (n - 1 - i) + 1 by omega, pk_m1]
theorem cd_s {n i : Nat} (h : i < n) : cd n i + (-1) = cd n (i + 1) := by
  rw [cd_i h]
  unfold cd
  rw [show n - 1 - i = n - (i + 1) by omega]
theorem nar_b : ∀ c, c < 128 → vp_nar .byte ((nI c).toInt8.toInt32) = nI c := by decide +kernel
theorem bind_eta (o : Option (Int32 × ZW)) : (o.bind fun r : Int32 × ZW => some (r.1, r.2)) = o := by cases o <;> rfl
