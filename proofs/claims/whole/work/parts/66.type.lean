/-! type -/
theorem l_and (x : Int64) (k : Nat) (hk : k ≤ 62) : (x &&& (OfNat.ofNat (2 ^ k - 1) : Int64)) = lN (x.toBitVec.toNat % 2 ^ k) := by
  have h63 : 2 ^ k ≤ 2 ^ 62 := Nat.pow_le_pow_right (by omega) hk
  apply Int64.toBitVec_inj.mp
  apply BitVec.eq_of_toNat_eq
  rw [Int64.toBitVec_and, BitVec.toNat_and]
  have e1 : (OfNat.ofNat (2 ^ k - 1) : Int64).toBitVec.toNat = 2 ^ k - 1 := by
    show (BitVec.ofNat 64 (2 ^ k - 1)).toNat = _
    rw [BitVec.toNat_ofNat]
    exact Nat.mod_eq_of_lt (by omega)
  have e2 : (lN (x.toBitVec.toNat % 2 ^ k)).toBitVec.toNat = x.toBitVec.toNat % 2 ^ k := by
    show (BitVec.ofNat 64 _).toNat = _
    rw [BitVec.toNat_ofNat]
    have : x.toBitVec.toNat % 2 ^ k < 2 ^ k := Nat.mod_lt _ (Nat.two_pow_pos k)
    exact Nat.mod_eq_of_lt (by omega)
  rw [e1, e2, Nat.and_two_pow_sub_one_eq_mod]
def ch (a : Int64) (s : Nat) : Nat := (a >>> (((8 : Int32) * nI s).toInt64 &&& 63)).toBitVec.toNat % 256
theorem ch_lt {a : Int64} {s : Nat} : ch a s < 256 := Nat.mod_lt _ (by omega)
theorem ch_eq (a : Int64) (s : Nat) : ((a >>> (((8 : Int32) * nI s).toInt64 &&& 63)) &&& (255 : Int64)) = lN (ch a s) := l_and _ 8 (by omega)
def sgn (c : Nat) : Bool := decide (32 ≤ c) && decide (c ≤ 126)
theorem isSign_eq {c : Nat} (h : c < 256) : f_X10_isSign (lN c) = some (if sgn c = true then 1 else 0) := by
  unfold f_X10_isSign sgn
  simp only [lg_cmp_lt, lg_cmp_gt]
  rw [show (32 : Int64) = lN 32 from rfl, show (126 : Int64) = lN 126 from rfl]
  simp only [pk_lLT (show c < 2 ^ 63 by omega) (show 32 < 2 ^ 63 by omega), pk_lLT (show 126 < 2 ^ 63 by omega) (show c < 2 ^ 63 by omega)]
  by_cases h1 : c < 32
  · simp [h1, show ¬ 32 ≤ c by omega]
  · by_cases h2 : 126 < c
    · simp [h1, h2, show ¬ c ≤ 126 by omega]
    · simp [h1, h2, show 32 ≤ c by omega, show c ≤ 126 by omega]
theorem inSign_eq {c : Nat} (h : c < 256) : f_X12_in (lN c) (32 : Int64) (126 : Int64) = some (if sgn c = true then 1 else 0) := by
  rw [in_eq]
  unfold sgn
  rw [show (32 : Int64) = lN 32 from rfl, show (126 : Int64) = lN 126 from rfl]
  simp only [pk_lLE (show 32 < 2 ^ 63 by omega) (show c < 2 ^ 63 by omega), pk_lLE (show c < 2 ^ 63 by omega) (show 126 < 2 ^ 63 by omega), Bool.and_eq_true, decide_eq_true_eq]
theorem fd_all {ρ : Type} {r : ρ} {ok : Nat → Bool} : ∀ (k i : Nat), (fd (fun s => if ok s = true then .inr () else .inl r) i k = .inr () ∧ ∀ j, i ≤ j → j < i + k → ok j = true) ∨ fd (fun s => if ok s = true then .inr () else .inl r) i k = .inl r
  | 0, i => Or.inl ⟨rfl, fun j h1 h2 => by omega⟩
  | k + 1, i => by
    unfold fd
    by_cases q : ok i = true
    · rcases fd_all (ρ := ρ) (r := r) (ok := ok) k (i + 1) with ⟨h1, h2⟩ | h
      · left
        simp only [q, if_true, Sum.elim_inr]
        refine ⟨h1, fun j h3 h4 => ?_⟩
        by_cases e : j = i
        · subst e; exact q
        · exact h2 j (by omega) (by omega)
      · right
        simp only [q, if_true, Sum.elim_inr]
        exact h
    · right
      simp only [q]
      rfl
def tpW (w : ZW) (ca cj b L0 i : Nat) (f : Nat → Int32) : ZW := (fun c j => if c = ca ∧ j = cj then nI (L0 + i) else if c = b ∧ L0 ≤ j ∧ j < L0 + i then f (j - L0) else w.1 c j, w.2)
theorem tpW_0 {w : ZW} {ca cj b L0 : Nat} {f : Nat → Int32} (h : w.1 ca cj = nI L0) : tpW w ca cj b L0 0 f = w := by
  unfold tpW
  have : (fun c j => if c = ca ∧ j = cj then nI (L0 + 0) else if c = b ∧ L0 ≤ j ∧ j < L0 + 0 then f (j - L0) else w.1 c j) = w.1 := by
    funext c j
    by_cases q : c = ca ∧ j = cj
    · rw [if_pos q, q.1, q.2, h]
      rfl
    · rw [if_neg q, if_neg (by omega)]
  rw [this]
theorem tpW_c {w : ZW} {ca cj b L0 i : Nat} {f : Nat → Int32} : (tpW w ca cj b L0 i f).1 ca cj = nI (L0 + i) := if_pos ⟨rfl, rfl⟩
theorem tpW_o {w : ZW} {ca cj b L0 i c j : Nat} {f : Nat → Int32} (h1 : ¬ (c = ca ∧ j = cj)) (h2 : ¬ (c = b ∧ L0 ≤ j ∧ j < L0 + i)) : (tpW w ca cj b L0 i f).1 c j = w.1 c j := (if_neg h1).trans (if_neg h2)
theorem tpW_i {w : ZW} {ca cj b L0 i j : Nat} {f : Nat → Int32} (h1 : ¬ (b = ca ∧ j = cj)) (h2 : L0 ≤ j) (h3 : j < L0 + i) : (tpW w ca cj b L0 i f).1 b j = f (j - L0) := (if_neg h1).trans (if_pos ⟨rfl, h2, h3⟩)
theorem tpW_s {w : ZW} {ca cj b L0 i : Nat} {f : Nat → Int32} (h : b ≠ ca) : z_upI (z_upI (tpW w ca cj b L0 i f) ca cj (nI (L0 + i + 1))) b (L0 + i) (f i) = tpW w ca cj b L0 (i + 1) f := by
  unfold tpW z_upI
  refine Prod.ext (funext fun c => funext fun j => ?_) rfl
  show (if c = b ∧ j = L0 + i then f i else if c = ca ∧ j = cj then nI (L0 + i + 1) else if c = ca ∧ j = cj then nI (L0 + i) else if c = b ∧ L0 ≤ j ∧ j < L0 + i then f (j - L0) else w.1 c j) = (if c = ca ∧ j = cj then nI (L0 + (i + 1)) else if c = b ∧ L0 ≤ j ∧ j < L0 + (i + 1) then f (j - L0) else w.1 c j)
  by_cases q1 : c = b ∧ j = L0 + i
  · rw [if_pos q1, if_neg (by omega), if_pos (by omega)]
    congr 1
    omega
  · rw [if_neg q1]
    by_cases q2 : c = ca ∧ j = cj
    · rw [if_pos q2, if_pos q2]
      rfl
    · rw [if_neg q2, if_neg q2, if_neg q2]
      by_cases q3 : c = b ∧ L0 ≤ j ∧ j < L0 + i
      · rw [if_pos q3, if_pos (by omega)]
      · rw [if_neg q3, if_neg (by omega)]
theorem up_comm {w : ZW} {a j b k : Nat} {x y : Int32} (h : ¬ (a = b ∧ j = k)) : z_upI (z_upI w a j x) b k y = z_upI (z_upI w b k y) a j x := by
  unfold z_upI
  refine Prod.ext (funext fun c => funext fun i => ?_) rfl
  show (if c = b ∧ i = k then y else if c = a ∧ i = j then x else w.1 c i) = (if c = a ∧ i = j then x else if c = b ∧ i = k then y else w.1 c i)
  by_cases q : c = b ∧ i = k
  · rw [if_pos q, if_pos q, if_neg (by omega)]
  · rw [if_neg q, if_neg q]
def cd (n i : Nat) : Int32 := nI (n - i) + (-1)
theorem cd_n {n : Nat} : cd n n = -1 := by unfold cd; rw [Nat.sub_self]; rfl
theorem cd_i {n i : Nat} (h : i < n) : cd n i = nI (n - 1 - i) := by
  unfold cd
  rw [show n - i = (n - 1 - i) + 1 by omega, pk_m1]
theorem cd_s {n i : Nat} (h : i < n) : cd n i + (-1) = cd n (i + 1) := by
  rw [cd_i h]
  unfold cd
  rw [show n - 1 - i = n - (i + 1) by omega]
theorem nar_b : ∀ c, c < 128 → vp_nar .byte ((nI c).toInt8.toInt32) = nI c := by decide +kernel
theorem bind_eta (o : Option (Int32 × ZW)) : (o.bind fun r : Int32 × ZW => some (r.1, r.2)) = o := by cases o <;> rfl
theorem sim_type {w : ZW} (h : Rel w) (a : Int64) (b : Int32) : ∃ r w1 w2, f_X11_type w a b = some (r, w1) ∧ f_X12_type w1 a b = some (r, w2) ∧ Rel w2 := by
  have h0 := h
  obtain ⟨A, hA⟩ := h
  obtain ⟨hI, hC, hM, hT, hS, hIm⟩ := id hA
  obtain ⟨L0, t, t1, t2, t3, t4, t5⟩ := hT
  have bail : ∀ r : Int32, f_X11_type w a b = some (r, w) → f_X12_type w a b = some (r, w) → ∃ r w1 w2, f_X11_type w a b = some (r, w1) ∧ f_X12_type w1 a b = some (r, w2) ∧ Rel w2 := fun r e1 e2 => ⟨r, w, w, e1, e2, h0⟩
  have m1 : ∀ w', f_X12_type w' a b = if rg 1 8 b = true then (z_iter (f_X12_type_L17 b a w') z_fuel (0 : Int32)).bind (Sum.elim (fun x : Int32 × ZW => some x) (fun q3 : Unit => if ((w'.1 130 13) + b) ≤ (40 : Int32) then (z_iter (f_X12_type_L73 a) z_fuel (b - (1 : Int32), w')).bind (fun q6 : ZW => some (q6.1 130 13, q6)) else some ((-3 : Int32), w'))) else some (-1, w') := by
    intro w'
    unfold f_X12_type
    rw [in_rg _ _ _ (by decide) (by decide)]
    simp only [Option.bind_some, if10]
  have c1 : f_X11_type w a b = if rg 1 8 b = true then (z_iter (f_X10_add_L16 b a w) z_fuel (0 : Int32)).bind (Sum.elim (fun x : Int32 × ZW => some x) (fun q2 : Unit => if b ≤ ((40 : Int32) - (w.1 120 0)) then (z_iter (f_X10_add_L66 a) z_fuel (b - (1 : Int32), w)).bind (fun q5 : ZW => some (q5.1 120 0, q5)) else some ((-3 : Int32), w))) else some (-1, w) := by
    unfold f_X11_type
    rw [bind_eta]
    unfold f_X10_add rg
    have e : (b < 1) ↔ ¬ nI 1 ≤ b := by
      rw [Int32.le_iff_toInt_le, Int32.lt_iff_toInt_lt]
      show b.toInt < 1 ↔ ¬ (1 : Int) ≤ b.toInt
      omega
    by_cases q1 : nI 1 ≤ b
    · rw [if_neg (by rw [e]; exact fun h => h q1)]
      by_cases q2 : b ≤ nI 8
      · rw [if_pos (show b ≤ 8 from q2)]
        exact (if_pos (show (decide (nI 1 ≤ b) && decide (b ≤ nI 8)) = true by simp [q1, q2])).symm
      · rw [if_neg (show ¬ b ≤ 8 from q2)]
        exact (if_neg (show ¬ (decide (nI 1 ≤ b) && decide (b ≤ nI 8)) = true by simp [q2])).symm
    · rw [if_pos (by rw [e]; exact q1)]
      exact (if_neg (show ¬ (decide (nI 1 ≤ b) && decide (b ≤ nI 8)) = true by simp [q1])).symm
  by_cases q : rg 1 8 b = true
  · obtain ⟨n, n1, n2, rfl⟩ := rg_t q (by decide) (by decide)
    rw [if_pos q] at c1
    have k1 : ∀ w', z_iter (f_X10_add_L16 (nI n) a w') z_fuel (0 : Int32) = some (fd (fun s => if sgn (ch a s) = true then .inr () else .inl (-1, w')) 0 n) := by
      intro w'
      refine it_fd _ n (fun i hi => ?_) ?_ (zf (by omega))
      · unfold f_X10_add_L16
        rw [if_neg (nnle hi), ch_eq, isSign_eq ch_lt]
        simp only [Option.bind_some, if10, nI_1]
        by_cases t : sgn (ch a i) = true
        · simp [t]
        · simp [t]
      · unfold f_X10_add_L16
        rw [if_pos (Int32.le_refl _)]
    have k2 : ∀ w', z_iter (f_X12_type_L17 (nI n) a w') z_fuel (0 : Int32) = some (fd (fun s => if sgn (ch a s) = true then .inr () else .inl (-1, w')) 0 n) := by
      intro w'
      refine it_fd _ n (fun i hi => ?_) ?_ (zf (by omega))
      · unfold f_X12_type_L17
        rw [if_neg (nnle hi), ch_eq, inSign_eq ch_lt]
        simp only [Option.bind_some, if10, nI_1]
        by_cases t : sgn (ch a i) = true
        · simp [t]
        · simp [t]
      · unfold f_X12_type_L17
        rw [if_pos (Int32.le_refl _)]
    rw [k1, t3, show (40 : Int32) = nI 40 from rfl, pk_sub t1] at c1
    simp only [Option.bind_some] at c1
    have m2 := fun w' (h : w'.1 130 13 = nI L0) => (m1 w').trans (if_pos q)
    rcases fd_all (ρ := Int32 × ZW) (r := (-1, w)) (ok := fun s => sgn (ch a s)) n 0 with ⟨f1, f2⟩ | f1
    · rw [f1] at c1
      simp only [Sum.elim_inr] at c1
      have fa : ∀ w' : ZW, fd (fun s => if sgn (ch a s) = true then .inr () else .inl ((-1 : Int32), w')) 0 n = .inr () := by
        intro w'
        rcases fd_all (ρ := Int32 × ZW) (r := (-1, w')) (ok := fun s => sgn (ch a s)) n 0 with ⟨g1, g2⟩ | g1
        · exact g1
        · obtain ⟨j, j1, j2, j3⟩ := fd_inl _ _ g1
          rw [f2 j j1 j2] at j3
          cases j3
      by_cases s : L0 + n ≤ 40
      · rw [if_pos (nle (by omega))] at c1
        have fc : ∀ i, i < n → 32 ≤ ch a (n - 1 - i) ∧ ch a (n - 1 - i) ≤ 126 := by
          intro i hi
          have := f2 (n - 1 - i) (by omega) (by omega)
          unfold sgn at this
          simpa using this
        have c2 : z_iter (f_X10_add_L66 a) z_fuel (nI n - 1, w) = some (tpW w 120 0 121 L0 n (fun i => nI (ch a (n - 1 - i)))) := by
          rw [show (nI n - 1, w) = (cd n 0, tpW w 120 0 121 L0 0 (fun i => nI (ch a (n - 1 - i)))) by
            rw [tpW_0 t3, cd_i (by omega), show (1 : Int32) = nI 1 from rfl, pk_sub (by omega)]; rfl]
          refine it_count (fun i => (cd n i, tpW w 120 0 121 L0 i (fun i => nI (ch a (n - 1 - i))))) n _ (fun i hi => ?_) ?_ (zf (by omega))
          · obtain ⟨r1, r2⟩ := fc i hi
            unfold f_X10_add_L66
            simp only []
            rw [cd_s hi, cd_i hi, if_neg (nI_pos (by omega)), ch_eq, lN_i, tpW_c, nI_1, z_in_t (show L0 + i < 40 by omega) (by omega), nI_clamp (show L0 + i < 2 ^ 31 by omega), nar_b _ (by omega)]
            simp only [z_let, if_true]
            have := tpW_s (w := w) (ca := 120) (cj := 0) (b := 121) (L0 := L0) (i := i) (f := fun i => nI (ch a (n - 1 - i))) (by omega)
            rw [this]
          · unfold f_X10_add_L66
            simp only []
            rw [cd_n, if_pos (by decide)]
        rw [c2] at c1
        simp only [Option.bind_some] at c1
        rw [tpW_c] at c1
        generalize hw1 : tpW w 120 0 121 L0 n (fun i => nI (ch a (n - 1 - i))) = w1 at c1 c2
        have e13 : w1.1 130 13 = nI L0 := by
          rw [← hw1]
          rw [tpW_o (by omega) (by omega)]
          exact t4
        have m3 : z_iter (f_X12_type_L73 a) z_fuel (nI n - 1, w1) = some (tpW w1 130 13 140 L0 n (fun i => nI (ch a (n - 1 - i)))) := by
          rw [show (nI n - 1, w1) = (cd n 0, tpW w1 130 13 140 L0 0 (fun i => nI (ch a (n - 1 - i)))) by
            rw [tpW_0 e13, cd_i (by omega), show (1 : Int32) = nI 1 from rfl, pk_sub (by omega)]; rfl]
          refine it_count (fun i => (cd n i, tpW w1 130 13 140 L0 i (fun i => nI (ch a (n - 1 - i))))) n _ (fun i hi => ?_) ?_ (zf (by omega))
          · unfold f_X12_type_L73
            simp only []
            rw [cd_s hi, cd_i hi, if_neg (nI_pos (by omega)), ch_eq, lN_i, tpW_c, z_in_t (show L0 + i < 40 by omega) (by omega), nI_clamp (show L0 + i < 2 ^ 31 by omega)]
            simp only [z_let, if_true]
            rw [upc (by omega), tpW_c, nI_1, up_comm (by omega)]
            have := tpW_s (w := w1) (ca := 130) (cj := 13) (b := 140) (L0 := L0) (i := i) (f := fun i => nI (ch a (n - 1 - i))) (by omega)
            rw [this]
          · unfold f_X12_type_L73
            simp only []
            rw [cd_n, if_pos (by decide)]
        refine ⟨nI (L0 + n), w1, tpW w1 130 13 140 L0 n (fun i => nI (ch a (n - 1 - i))), c1, ?_, ?_⟩
        · rw [m2 w1 e13, k2, fa]
          simp only [Option.bind_some, Sum.elim_inr]
          rw [e13, nI_add, if_pos (show nI (L0 + n) ≤ (40 : Int32) from nle (b := 40) s), m3]
          simp only [Option.bind_some]
          rw [tpW_c]
        · have fr : ∀ c j, ¬ ((c = 120 ∧ j = 0) ∨ c = 121 ∨ (c = 130 ∧ j = 13) ∨ c = 140) → (tpW w1 130 13 140 L0 n (fun i => nI (ch a (n - 1 - i)))).1 c j = w.1 c j := by
            intro c j q
            rw [← hw1]
            rw [tpW_o (by omega) (by omega), tpW_o (by omega) (by omega)]
          refine ⟨A, hI, fr_StC (fun c j q => fr c j (by unfold cRC cSC cNC cNiC cGC at q; omega)) (fun c j _ => by rw [← hw1]; rfl) hC, fr_StM (fun c j q => fr c j (by unfold cRM cSM cNM cNiM cGM at q; omega)) hM, ?_, fr_Sh (fun c j q => fr c j (by unfold cSh at q; omega)) hS, fr_Im (fun c j q => fr c j (by unfold cIm at q; omega)) (fun c j _ => by rw [← hw1]; rfl) hIm⟩
          refine ⟨L0 + n, fun j => if j < L0 then t j else ch a (n - 1 - (j - L0)), s, fun i hi => ?_, ?_, ?_, fun i hi => ?_⟩
          · by_cases g : i < L0
            · simp only [g, if_true]
              exact t2 i g
            · simp only [g, if_false]
              exact fc (i - L0) (by omega)
          · rw [← hw1]
            rw [tpW_o (by omega) (by omega), tpW_c]
          · rw [tpW_c]
          · rw [← hw1]
            by_cases g : i < L0
            · rw [tpW_o (by omega) (by omega), tpW_o (by omega) (by omega), tpW_o (by omega) (by omega)]
              simp only [g, if_true]
              exact t5 i g
            · rw [tpW_o (by omega) (by omega), tpW_i (by omega) (by omega) (by omega), tpW_i (by omega) (by omega) (by omega)]
              simp only [g, if_false]
              exact ⟨trivial, trivial⟩
      · rw [if_neg (nnle (by omega))] at c1
        refine bail _ c1 ?_
        rw [m2 w t4, k2, fa]
        simp only [Option.bind_some, Sum.elim_inr]
        rw [t4, nI_add, if_neg (show ¬ nI (L0 + n) ≤ (40 : Int32) from nnle (b := 40) (by omega) (by omega))]
    · rw [f1] at c1
      refine bail _ c1 ?_
      rw [m2 w t4, k2, f1]
      rfl
  · rw [if_neg q] at c1
    exact bail _ c1 ((m1 w).trans (if_neg q))
