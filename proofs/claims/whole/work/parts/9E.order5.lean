/-! order: the model's walk; both -/
def dsc (c : Nat → Bool) (N : Nat) : Nat → Nat
  | 0 => 0
  | i + 1 => if c (N - i) = true then N - i + 1 else dsc c N i
theorem dsc_s {c : Nat → Bool} {N i : Nat} : dsc c N (i + 1) = if c (N - i) = true then N - i + 1 else dsc c N i := rfl
theorem dsc_le {c : Nat → Bool} {N : Nat} : ∀ i, dsc c N i ≤ N + 1
  | 0 => Nat.zero_le _
  | i + 1 => by
    have := dsc_le (c := c) (N := N) i
    rw [dsc_s]
    split <;> omega
theorem dsc_first {c : Nat → Bool} {N a : Nat} (ha : a ≤ N) (h : c a = true) (h0 : ∀ s, s < a → c s = false) : ∀ k, k ≤ a → dsc c N (N - a + 1 + k) = a + 1
  | 0, _ => by
    rw [Nat.add_zero, dsc_s, show N - (N - a) = a by omega, if_pos h]
  | k + 1, hk => by
    have ih := dsc_first ha h h0 k (by omega)
    rw [← Nat.add_assoc, dsc_s, if_neg (by rw [h0 (N - (N - a + 1 + k)) (by omega)]; simp), ih]
def oc2b (S : ST) (D k left s : Nat) : Bool := okv S (11 - k) left s && (decide (ob S D k (ndn left s) < D) && decide (wt S (11 - k) (ndn left s) + ob S D k (ndn left s) = ob S D (k + 1) left))
theorem oc2b_iff {S : ST} {D k left s : Nat} : oc2b S D k left s = true ↔ oc2 S D k left s := by
  unfold oc2b oc2
  rw [Bool.and_eq_true, Bool.and_eq_true, decide_eq_true_eq, decide_eq_true_eq]
theorem found12 {P : Nat} {S : ST} {w : ZW} (hI : NightI P S) (hP : P ≤ 6) (hp : w.1 130 0 = nI P) (hM : NightM P S w.1) {k left D : Nat} (hD : D = 1000000000) (hk : k ≤ 11) (hl : left < 64) (hrow : ∀ m, m ≤ 12 → ∀ y, y < 64 → w.1 152 (64 * (12 - m) + y) = nI (ob S D m y)) (s4 : Int32 × Int32) (h4 : s4.1 = nI left) (h4b : s4.2 = nI (11 - k)) : z_iter (f_X12_order_L70 s4 w) z_fuel ((-4 : Int32), (63 : Int32)) = some (hol (dsc (oc2b S D k left) 63 64)) := by
  have hb := fun i => ob_B (S := S) (B := D) k (ndn left i)
  have hw := fun i => wt_le hI (n := 11 - k) (ndn left i) (by omega)
  have hB := ob_B (S := S) (B := D) (k + 1) left
  have r1 : ∀ i, w.1 152 (64 * (11 - k) + 64 + ndn left i) = nI (ob S D k (ndn left i)) := fun i => by
    rw [show 64 * (11 - k) + 64 = 64 * (12 - k) by omega]
    exact hrow k (by omega) _ (Nat.lt_of_le_of_lt ndn_le hl)
  have r2 : w.1 152 (64 * (11 - k) + left) = nI (ob S D (k + 1) left) := by
    have := hrow (k + 1) (by omega) left hl
    rw [show 12 - (k + 1) = 11 - k by omega] at this
    exact this
  have hc : ∀ i, oc2b S D k left i = ((decide (ndn i left = 0) && (decide (pc14 i ≤ S 0 0) && mbn S (11 - k) i 6)) && (decide (ob S D k (ndn left i) < D) && decide (wt S (11 - k) (ndn left i) + ob S D k (ndn left i) = ob S D (k + 1) left))) := fun i => rfl
  generalize oc2b S D k left = c at hc ⊢
  generalize ob S D (k + 1) left = V at hB r2 hc
  generalize ob S D k = o at hb r1 hc
  clear hrow
  refine it_at (fun i => (hol (dsc c 63 i), cd 64 i)) 0 64 _ (show ((-4 : Int32), (63 : Int32)) = (hol (dsc c 63 0), cd 64 0) from congrArg (fun z => ((-4 : Int32), z)) (show (63 : Int32) = cd 64 0 by decide)) (by omega) (fun i _ hi => ?_) ?_ (zf (by omega))
  · have ec := cd_s hi
    rw [cd_i hi, show 64 - 1 - i = 63 - i by omega] at ec
    have hs : 63 - i < 64 := by omega
    have hci := hc (63 - i)
    have b1 := hb (63 - i)
    have b2 := hw (63 - i)
    have r1i := r1 (63 - i)
    have l := ndn_le (a := left) (b := 63 - i)
    have l2 := ndn_le (a := 63 - i) (b := left)
    have z0 : nI (ndn (63 - i) left) = 0 ↔ ndn (63 - i) left = 0 := nI_inj (by omega) (show 0 < 2 ^ 31 by omega)
    have j120 : f_X12_order_J120 w s4 (hol (dsc c 63 i)) (nI (63 - i)) (nI (ndn left (63 - i))) = some (.inl (hol (dsc c 63 i), cd 64 (i + 1))) := by
      unfold f_X12_order_J120 f_X12_order_J122
      rw [if_pos (Int32.le_refl _), ec]
    rw [cd_i hi, show 64 - 1 - i = 63 - i by omega, dsc_s]
    generalize dsc c 63 i = d at j120 ⊢
    unfold f_X12_order_L70
    dsimp only
    rw [if_neg (nI_pos (by omega)), h4, zl, nI_ndn, nI_ndn, j120, h4b, may12 hI hP hp hM hs (by omega), Option.bind_some, if10, ix152, z_in_t (show 64 * (11 - k) + 64 + ndn left (63 - i) < 832 by omega) (by omega), if_pos rfl, nI_clamp (show 64 * (11 - k) + 64 + ndn left (63 - i) < 2 ^ 31 by omega), r1i]
    by_cases q1 : ndn (63 - i) left = 0
    · rw [if_pos (z0.mpr q1)]
      by_cases q2 : (decide (pc14 (63 - i) ≤ S 0 0) && mbn S (11 - k) (63 - i) 6) = true
      · rw [if_pos q2]
        unfold f_X12_order_J122
        by_cases q3 : D ≤ o (ndn left (63 - i))
        · rw [if_pos (show (1000000000 : Int32) ≤ nI (o (ndn left (63 - i))) from nle (a := 1000000000) (by omega)), if_neg (fun h => by
            rw [hci, Bool.and_eq_true, Bool.and_eq_true, decide_eq_true_eq] at h
            have := (Bool.and_eq_true _ _ ▸ h.2).1
            have := of_decide_eq_true this
            omega), ec]
        · rw [if_neg (show ¬ (1000000000 : Int32) ≤ nI (o (ndn left (63 - i))) from nnle (a := 1000000000) (by omega)), h4, h4b, cost12 hI hP hp hM (show ndn left (63 - i) < 64 by omega), Option.bind_some, ix152b, z_in_t (show 64 * (11 - k) + left < 832 by omega) (by omega), if_pos rfl, nI_clamp (show 64 * (11 - k) + left < 2 ^ 31 by omega), r2, nI_add, ieq (by omega) (by omega), ec]
          by_cases q4 : wt S (11 - k) (ndn left (63 - i)) + o (ndn left (63 - i)) = V
          · rw [if_pos q4, if_pos (by rw [hci, q2, decide_eq_true q1, decide_eq_true q4, decide_eq_true (show o (ndn left (63 - i)) < D by omega)]; rfl), hol_s]
          · rw [if_neg q4, if_neg (fun h => by
              rw [hci, decide_eq_false q4, Bool.and_false, Bool.and_false] at h
              cases h)]
      · rw [if_neg q2, if_neg (fun h => by
          rw [hci] at h
          simp only [Bool.not_eq_true] at q2
          rw [q2, Bool.and_false, Bool.false_and] at h
          cases h)]
    · rw [if_neg (fun h => q1 (z0.mp h)), if_neg (fun h => by
        rw [hci, decide_eq_false q1, Bool.false_and, Bool.false_and] at h
        cases h)]
  · unfold f_X12_order_L70
    dsimp only
    rw [cd_n, if_pos (by decide)]
/-- the model finds the class's choice -/
theorem found_eq {P : Nat} {S : ST} (hI : NightI P S) {M D all n : Nat} (hM : 100000 ≤ M) (hD : M ≤ D) (ha : all < 64) (hn : n < 12) : dsc (oc2b S D (11 - n) (lfp S M all n)) 63 64 = chp S M all n + 1 := by
  obtain ⟨c1, c2, c3⟩ := chp_ok hI hM ha hn
  obtain ⟨b1, b2⟩ := och_both (D := D) hD c3
  have := dsc_first (c := oc2b S D (11 - n) (lfp S M all n)) (N := 63) (a := chp S M all n) (by omega) (oc2b_iff.mpr b1) (fun s hs => by
    cases q : oc2b S D (11 - n) (lfp S M all n) s
    · rfl
    · exact absurd (oc2b_iff.mp q) (b2 s hs)) (chp S M all n) (Nat.le_refl _)
  rw [show 63 - chp S M all n + 1 + chp S M all n = 64 by omega] at this
  exact this
theorem walk12 {P : Nat} {S : ST} {w : ZW} (hI : NightI P S) (hP : P ≤ 6) (hp : w.1 130 0 = nI P) (hM : NightM P S w.1) {M all D : Nat} (hm : M = 1000000) (hD : D = 1000000000) (ha : all + 1 = 2 ^ P) (hrow : ∀ m, m ≤ 12 → ∀ y, y < 64 → w.1 152 (64 * (12 - m) + y) = nI (ob S D m y)) {p : Nat} (hpp : p < P) : ∃ m, m < 12 ∧ (chp S M all m).testBit p = true ∧ z_iter (f_X12_order_L56 w (nI p)) z_fuel (nI all, (0 : Int32)) = some (.inl (nI m, w)) := by
  have h64 := p64 hP
  have hab : all.testBit p = true := by
    rw [show all = 2 ^ P - 1 by omega, Nat.testBit_two_pow_sub_one]
    simpa using hpp
  have key : ∃ r, z_iter (f_X12_order_L56 w (nI p)) z_fuel (nI all, (0 : Int32)) = some r ∧ ∃ m, m < 12 ∧ (chp S M all m).testBit p = true ∧ r = .inl (nI m, w) := by
    refine it_inv (fun n (s : Int32 × Int32) => s.1 = nI (lfp S M all n) ∧ s.2 = nI n ∧ ∀ m, m < n → (chp S M all m).testBit p = false) _ 12 (fun n s hn hQ => ?_) (fun s hQ => ?_) (zf (by omega)) ⟨rfl, rfl, fun m hm => by omega⟩
    · obtain ⟨p1, p2, p3⟩ := hQ
      obtain ⟨x, y⟩ := s
      dsimp only at p1 p2 p3
      subst p1 p2
      have l := (lfp_ok hI (show 100000 ≤ M by omega) (show all < 64 by omega) n (by omega)).1
      obtain ⟨c1, c2, c3⟩ := chp_ok hI (show 100000 ≤ M by omega) (show all < 64 by omega) hn
      have fo := found12 (w := w) hI hP hp hM hD (k := 11 - n) (left := lfp S M all n) (by omega) (by omega) hrow (nI (lfp S M all n), nI n) rfl (by rw [show 11 - (11 - n) = n by omega])
      rw [found_eq hI (show 100000 ≤ M by omega) (show M ≤ D by omega) (show all < 64 by omega) hn, hol_s] at fo
      have e := nI_bit1 (b := chp S M all n) (k := p) (by omega) (by omega)
      have st : f_X12_order_L56 w (nI p) (nI (lfp S M all n), nI n) = if (chp S M all n).testBit p = true then some (.inr (.inl (nI n, w))) else some (.inl (nI (lfp S M all (n + 1)), nI (n + 1))) := by
        unfold f_X12_order_L56
        dsimp only
        rw [show (12 : Int32) = nI 12 from rfl, if_neg (nnle hn), fo, Option.bind_some, zl, nI_ndn, nI_1, lfp_s]
        by_cases q : (chp S M all n).testBit p = true
        · rw [if_pos q, if_pos (e.mpr q)]
        · rw [if_neg q, if_neg (fun h => q (e.mp h))]
      rw [st]
      by_cases q : (chp S M all n).testBit p = true
      · rw [if_pos q]
        exact Or.inr ⟨_, rfl, n, hn, q, rfl⟩
      · rw [if_neg q]
        refine Or.inl ⟨_, rfl, rfl, rfl, fun m hm => ?_⟩
        by_cases z : m = n
        · subst z; simpa using q
        · exact p3 m (by omega)
    · exfalso
      obtain ⟨m, h1, h2⟩ := chp_all hI (M := M) (show 100000 ≤ M by omega) (show all < 64 by omega) hab
      rw [hQ.2.2 m h1] at h2
      cases h2
  obtain ⟨r, e, m, h1, h2, h3⟩ := key
  exact ⟨m, h1, h2, by rw [e, h3]⟩
theorem in_m1 {P : Nat} (hP : P ≤ 6) (a : Int32) : f_X12_in a.toInt64 (-1 : Int64) ((nI P - 1).toInt64) = some (if (decide (a = -1) || ixb P a) = true then 1 else 0) := by
  by_cases q : a = -1
  · subst q
    have hh : P = 0 ∨ P = 1 ∨ P = 2 ∨ P = 3 ∨ P = 4 ∨ P = 5 ∨ P = 6 := by omega
    rcases hh with rfl | rfl | rfl | rfl | rfl | rfl | rfl <;> decide
  · have e := ix_in (n := P) (by omega) a
    rw [decide_eq_false q, Bool.false_or, ← e, in_eq, in_eq]
    have e0 : ((-1 : Int64) ≤ a.toInt64) ↔ ((0 : Int64) ≤ a.toInt64) := by
      rw [show (-1 : Int64) = (-1 : Int32).toInt64 by decide, show (0 : Int64) = (0 : Int32).toInt64 by decide, w_le, w_le, Int32.le_iff_toInt_le, Int32.le_iff_toInt_le]
      have h1 : (-1 : Int32).toInt = -1 := by decide
      have h2 : (0 : Int32).toInt = 0 := by decide
      have h3 : a.toInt ≠ -1 := fun h => q (Int32.toInt_inj.mp (by rw [h, h1]))
      rw [h1, h2]
      omega
    simp only [e0]
theorem sim_order {w : ZW} (h : Rel w) (a : Int32) : ∃ r w1 w2, f_X11_order w a = some (r, w1) ∧ f_X12_order w1 a = some (r, w2) ∧ Rel w2 := by
  have h0 := h
  obtain ⟨A, hA⟩ := h
  obtain ⟨hI, hC, hM, -⟩ := id hA
  have hP := hI.1.1
  have cP := hC.1.1
  have mP := hM.1.1
  by_cases g : (decide (a = -1) || ixb (A 0 0 0) a) = true
  · have eC : f_X11_order w a = f_X11_order_J21 a w := by
      unfold f_X11_order
      by_cases q : a = -1
      · rw [if_pos q]
      · rw [decide_eq_false q, Bool.false_or] at g
        rw [if_neg q, X4_hasPanel_eq cP, Option.bind_some, if10, if_pos g]
    have z0 : nI (A 0 0 0) = 0 ↔ A 0 0 0 = 0 := nI_inj (by omega) (show 0 < 2 ^ 31 by omega)
    by_cases q0 : A 0 0 0 = 0
    · refine ⟨-2, w, w, ?_, ?_, h0⟩
      · rw [eC]
        unfold f_X11_order_J21
        rw [cP, if_pos (z0.mpr q0)]
      · unfold f_X12_order
        rw [mP, in_m1 hP, Option.bind_some, if10, if_pos g, if_pos (z0.mpr q0)]
    · obtain ⟨all, ha⟩ : ∃ all, all + 1 = 2 ^ A 0 0 0 := ⟨2 ^ A 0 0 0 - 1, by have : 0 < 2 ^ A 0 0 0 := Nat.pow_pos (by omega); omega⟩
      obtain ⟨M, hm⟩ : ∃ M, M = 1000000 := ⟨_, rfl⟩
      obtain ⟨D, hD⟩ : ∃ D, D = 1000000000 := ⟨_, rfl⟩
      have h64 := p64 hP
      obtain ⟨w1, e1, f1, f2, f3, f4⟩ := plan11 hI.2.2.2.1 hP hC.2.2.2.1 hm ha
      have mP1 : w1.1 130 0 = nI (A 0 0 0) := by rw [f1 130 0 (by omega)]; exact mP
      have hM1 : NightM (A 0 0 0) (A 3) w1.1 := fr_NiM (fun a j z => f1 a j (by unfold cNiM at z; omega)) hM.2.2.2.1
      obtain ⟨w2, e2, g1, g2, g3⟩ := settles12 hI.2.2.2.1 hP mP1 hM1 hD
      have mP2 : w2.1 130 0 = nI (A 0 0 0) := by rw [g1 130 0 (by omega)]; exact mP1
      have hM2 : NightM (A 0 0 0) (A 3) w2.1 := fr_NiM (fun a j z => g1 a j (by unfold cNiM at z; omega)) hM1
      have lp := (lfp_ok hI.2.2.2.1 (M := M) (show 100000 ≤ M by omega) (show all < 64 by omega) 0 (by omega)).2
      have eq := ob_eq (S := A 3) (B := M) (D := D) (k := 12) (left := all) (by omega) (by
        have : ob (A 3) M 12 all ≤ 14256 := lp
        omega)
      have eA := all1 ha
      have hR : RelA A w2 := fr_X (fun b j z => by rw [g1 b j (fun q => z (by unfold cX; omega)), f1 b j (fun q => z (by unfold cX; omega))]) (fun b j z => by rw [g2, f2]) hA
      have eM : f_X12_order w1 a = if 0 ≤ a then (z_iter (f_X12_order_L56 w2 a) z_fuel (nI all, (0 : Int32))).bind (Sum.elim (fun x : Int32 × ZW => some x) (fun _ : Unit => some ((-4 : Int32), w2))) else some (nI (ob (A 3) D 12 all), w2) := by
        unfold f_X12_order
        rw [mP1, in_m1 hP, Option.bind_some, if10, if_pos g, if_neg (fun h => q0 (z0.mp h)), e2, Option.bind_some, mP2, nI_shl1 (by omega), eA, zl, z_in_t (show all < 832 by omega) (by omega), if_pos rfl, nI_clamp (show all < 2 ^ 31 by omega)]
        have := g3 12 (Nat.le_refl _) all (by omega)
        rw [show 64 * (12 - 12) + all = all by omega] at this
        rw [this]
      have eC2 : ∀ x, f_X11_order_J21 x w = if x = -1 then some (nI (ob (A 3) M 12 all), w1) else (f_X3_nightOf w1 x).bind fun r3 => some (r3, w1) := fun x => by
        unfold f_X11_order_J21
        rw [cP, if_neg (fun h => q0 (z0.mp h)), e1, Option.bind_some]
        unfold f_X3_costInAll
        rw [f3, Option.bind_some]
      by_cases q : a = -1
      · refine ⟨nI (ob (A 3) M 12 all), w1, w2, ?_, ?_, A, hR⟩
        · rw [eC, eC2, if_pos q]
        · rw [eM, if_neg (by rw [q]; decide), eq]
      · rw [decide_eq_false q, Bool.false_or] at g
        obtain ⟨p, hp, rfl⟩ := ix_t (show A 0 0 0 < 2 ^ 31 by omega) g
        obtain ⟨m, k1, k2, k3⟩ := walk12 (w := w2) hI.2.2.2.1 hP mP2 hM2 hm hD ha g3 hp
        refine ⟨nI m, w1, w2, ?_, ?_, A, hR⟩
        · rw [eC, eC2, if_neg q]
          unfold f_X3_nightOf
          rw [z_in_t (show p < 6 by omega) (by omega), if_pos rfl, nI_clamp (show p < 2 ^ 31 by omega), f4 m p k1 (by omega) k2]
          rfl
        · rw [eM, if_pos (show (0 : Int32) ≤ nI p from nle (a := 0) (b := p) (Nat.zero_le _) (by omega)), k3]
          rfl
  · refine ⟨-1, w, w, ?_, ?_, h0⟩
    · unfold f_X11_order
      have q : ¬ a = -1 := fun q => g (by rw [decide_eq_true q]; rfl)
      rw [decide_eq_false q, Bool.false_or] at g
      rw [if_neg q, X4_hasPanel_eq cP, Option.bind_some, if10, if_neg g]
    · unfold f_X12_order
      rw [mP, in_m1 hP, Option.bind_some, if10, if_neg g]
