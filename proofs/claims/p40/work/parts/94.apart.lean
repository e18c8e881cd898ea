/-! apart: two locks that answer alike are never parted -/
def alk (R : ST) (j l : Nat) : Prop := ∀ q, q < 28 → (yb R q).testBit j = (yb R q).testBit l
theorem pc_pow : ∀ j, j < 14 → pc14 (2 ^ j) = 1 := by decide
theorem pc_two {t j l : Nat} (hj : j < 14) (hl : l < 14) (n : j ≠ l) (h1 : t.testBit j = true) (h2 : t.testBit l = true) : 2 ≤ pc14 t := by
  have e : pc14 (2 ^ j ||| 2 ^ l) = 2 := by
    rw [pc_disj (fun i h => by
      rw [Nat.testBit_two_pow] at h ⊢
      have := of_decide_eq_true h
      exact decide_eq_false (by omega)), pc_pow j hj, pc_pow l hl]
  rw [← e]
  exact pc_mono (fun i h => by
    rw [Nat.testBit_or, Nat.testBit_two_pow, Nat.testBit_two_pow, Bool.or_eq_true, decide_eq_true_eq, decide_eq_true_eq] at h
    rcases h with h | h
    · rw [← h]; exact h1
    · rw [← h]; exact h2)
theorem two_of {t : Nat} (ht : t < 2 ^ 14) (h : 2 ≤ pc14 t) : ∃ j l, j ≠ l ∧ t.testBit j = true ∧ t.testBit l = true := by
  have t0 : t ≠ 0 := fun z => by
    rw [z] at h
    exact absurd h (by decide)
  obtain ⟨j, hj⟩ := Nat.exists_testBit_of_ne_zero t0
  by_cases q : ∃ l, l ≠ j ∧ t.testBit l = true
  · obtain ⟨l, h1, h2⟩ := q
    exact ⟨j, l, fun z => h1 z.symm, hj, h2⟩
  · have : t = 2 ^ j := Nat.eq_of_testBit_eq (fun i => by
      rw [Nat.testBit_two_pow]
      by_cases z : j = i
      · subst z
        rw [hj]
        simp
      · cases y : t.testBit i
        · simp [z]
        · exact absurd ⟨i, fun x => z x.symm, y⟩ q)
    rw [this, pc_pow j (bit_lt ht hj)] at h
    omega
theorem alk_no {R : ST} {j l : Nat} (hj : j < 14) (hl : l < 14) (n : j ≠ l) (ha : alk R j l) : ∀ k t, t < 2 ^ 14 → t.testBit j = true → t.testBit l = true → enb R k t = false
  | 0, t, ht, h1, h2 => by
    have := pc_two hj hl n h1 h2
    exact decide_eq_false (by omega)
  | k + 1, t, ht, h1, h2 => by
    cases e : enb R (k + 1) t
    · rfl
    · have p := pc_two hj hl n h1 h2
      rcases enb_iff.mp e with z | ⟨q, z1, z2⟩
      · omega
      · obtain ⟨e1, e2, e3, e4⟩ := enc_iff.mp z2
        have a := ha q z1
        cases y : (yb R q).testBit j
        · rw [y] at a
          rw [alk_no hj hl n ha k (ndn t (yb R q)) (ndn_lt ht) (by rw [ndn_bit (by omega), h1, y]; rfl) (by rw [ndn_bit (by omega), h2, ← a]; rfl)] at e4
          cases e4
        · rw [y] at a
          rw [alk_no hj hl n ha k (t &&& yb R q) (and14 ht) (by rw [Nat.testBit_and, h1, y]; rfl) (by rw [Nat.testBit_and, h2, ← a]; rfl)] at e3
          cases e3
theorem apt_yes {R : ST} : ∀ k t, t < 2 ^ 14 → pc14 t ≤ k + 1 → (∀ j l, t.testBit j = true → t.testBit l = true → alk R j l → j = l) → enb R k t = true
  | 0, t, ht, hp, _ => decide_eq_true (by omega)
  | k + 1, t, ht, hp, hA => by
    by_cases z : pc14 t ≤ 1
    · exact enb_0 z
    · obtain ⟨j, l, n, h1, h2⟩ := two_of ht (by omega)
      have na : ¬ alk R j l := fun a => n (hA j l h1 h2 a)
      unfold alk at na
      obtain ⟨q, hq⟩ := Classical.not_forall.mp na
      have q1 : q < 28 := Classical.byContradiction (fun c => hq (fun h => absurd h c))
      have q2 : ¬ (yb R q).testBit j = (yb R q).testBit l := fun c => hq (fun _ => c)
      have c := pc_split (y := yb R q) ht
      have o1 : t &&& yb R q ≠ 0 := fun z => q2 (by
        have a := z_bits.mp z j
        have b := z_bits.mp z l
        rw [Nat.testBit_and, h1, Bool.true_and] at a
        rw [Nat.testBit_and, h2, Bool.true_and] at b
        rw [a, b])
      have o2 : t &&& yb R q ≠ t := fun z => q2 (by
        have a : (t &&& yb R q).testBit j = t.testBit j := by rw [z]
        have b : (t &&& yb R q).testBit l = t.testBit l := by rw [z]
        rw [Nat.testBit_and, h1, Bool.true_and] at a
        rw [Nat.testBit_and, h2, Bool.true_and] at b
        rw [a, b])
      have d := pc_pos (and14 ht) o1
      have e := pc_pos (ndn_lt ht) (fun z => o2 ((ndn_nz ht).mp z))
      refine enb_iff.mpr (Or.inr ⟨q, q1, enc_iff.mpr ⟨o1, o2, apt_yes k _ (and14 ht) (by omega) (fun x y hx hy => hA x y ?_ ?_), apt_yes k _ (ndn_lt ht) (by omega) (fun x y hx hy => hA x y ?_ ?_)⟩⟩)
      · rw [Nat.testBit_and, Bool.and_eq_true] at hx
        exact hx.1
      · rw [Nat.testBit_and, Bool.and_eq_true] at hy
        exact hy.1
      · rw [ndn_bit (by omega), Bool.and_eq_true] at hx
        exact hx.1
      · rw [ndn_bit (by omega), Bool.and_eq_true] at hy
        exact hy.1
/-- what the class finds -/
theorem ap_no {R : ST} {s i0 : Nat} (hs : s < 2 ^ 14) (h0 : i0 = 28) (h : anyN (apc R s i0) 14 = true) : ∀ n, enb R n s = false := by
  intro n
  obtain ⟨l, l1, l2⟩ := (anyN_iff _).mp h
  unfold apc at l2
  have hk : (if s.testBit l = true then s else 0) < 2 ^ 14 := by split <;> omega
  obtain ⟨x, y, xy, hx, hy⟩ := two_of (lkn_lt hk i0) (of_decide_eq_true l2)
  obtain ⟨x1, x2⟩ := (lkn_bit hk i0).mp hx
  obtain ⟨y1, y2⟩ := (lkn_bit hk i0).mp hy
  have b : ∀ z, (if s.testBit l = true then s else 0).testBit z = true → s.testBit z = true := fun z hz => by
    by_cases q : s.testBit l = true
    · rw [if_pos q] at hz
      exact hz
    · rw [if_neg q, Nat.zero_testBit] at hz
      cases hz
  exact alk_no (bit_lt hs (b x x1)) (bit_lt hs (b y y1)) xy (fun q hq => (x2 q (by omega)).trans (y2 q (by omega)).symm) n s hs (b x x1) (b y y1)
theorem ap_yes {R : ST} {s i0 : Nat} (hs : s < 2 ^ 14) (h0 : i0 = 28) (h : ¬ anyN (apc R s i0) 14 = true) : enb R 13 s = true := by
  refine apt_yes 13 s hs (pc_le (b := s)) (fun j l hj hl ha => ?_)
  refine Classical.byContradiction (fun c => h ((anyN_iff _).mpr ⟨l, bit_lt hs hl, ?_⟩))
  unfold apc
  rw [if_pos hl]
  refine decide_eq_true ?_
  exact pc_two (bit_lt hs hj) (bit_lt hs hl) c ((lkn_bit hs i0).mpr ⟨hj, fun q hq => ha q (by omega)⟩) ((lkn_bit hs i0).mpr ⟨hl, fun q hq => rfl⟩)
theorem need11 {R : ST} {w : ZW} (hL : R 0 1 ≤ 14) (hy : ∀ q, q < 28 → w.1 118 q = nI (yb R q)) {s : Nat} (hs : s < 2 ^ 14) : f_X6_questionsFor w (nI s) = some (if nv R s = 1000000000 then -4 else nI (nv R s)) := by
  obtain ⟨i0, h0⟩ : ∃ i, i = 28 := ⟨_, rfl⟩
  unfold f_X6_questionsFor
  rw [apart11 hL hy hs h0, Option.bind_some]
  by_cases q : anyN (apc R s i0) 14 = true
  · rw [if_pos q, if_pos rfl]
    have no := ap_no hs h0 q
    rcases nv_cases (R := R) s hs with ⟨j, h1, h2, h3, h4, h5⟩ | ⟨h1, h2, h3⟩
    · rw [no j] at h4
      cases h4
    · rw [if_pos h2]
  · rw [if_neg q, if_neg i10]
    have yes := ap_yes hs h0 q
    have lp : z_iter (f_X6_questionsFor_L13 w (nI s)) z_fuel (0 : Int32) = some (fd (fun n => if enb R n s = true then .inl (nI n) else .inr ()) 0 14) := by
      refine it_fd (fun n => if enb R n s = true then .inl (nI n) else .inr ()) 14 (fun n hn => ?_) ?_ (zf (by omega))
      · unfold f_X6_questionsFor_L13
        rw [show (14 : Int32) = nI 14 from rfl, if_neg (nnle hn), en11 hy n 20 s (by omega) (by omega) hs, Option.bind_some, if10, nI_1]
        by_cases z : enb R n s = true
        · rw [if_pos z, if_pos z]
          rfl
        · rw [if_neg z, if_neg z]
          rfl
      · unfold f_X6_questionsFor_L13
        rw [show (14 : Int32) = nI 14 from rfl, if_pos (Int32.le_refl _)]
    rw [lp, Option.bind_some]
    rcases fd_any (r := nI) (c := fun n => enb R n s) 14 0 with ⟨j, h1, h2, h3, h4, h5⟩ | ⟨h1, h2⟩
    · rw [h5, Sum.elim_inl]
      have a := (nv_le (R := R) (n := j) hs (by omega)).mpr h3
      have b : j ≤ nv R s := Nat.le_of_not_lt (fun c => by
        have := (nv_le (R := R) (n := nv R s) hs (by omega)).mp (Nat.le_refl _)
        rw [h4 _ (by omega) c] at this
        cases this)
      have e : nv R s = j := by omega
      rw [e, if_neg (by omega)]
    · rw [h2 13 (by omega) (by omega)] at yes
      cases yes
