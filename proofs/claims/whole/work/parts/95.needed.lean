/-! needed: the model's table -/
def sbq (x s : Nat) : Prop := ∀ i, x.testBit i = true → s.testBit i = true
theorem sbq_iff {x s : Nat} (hx : x < 2 ^ 14) : ndn x s = 0 ↔ sbq x s := by
  rw [z_bits]
  unfold sbq
  have e : ∀ i, (ndn x s).testBit i = false ↔ (x.testBit i = true → s.testBit i = true) := fun i => by
    rw [ndn_bit (by omega)]
    cases x.testBit i <;> cases s.testBit i <;> simp
  simp only [e]
theorem sbq_and {t s y : Nat} (h : sbq t s) : t &&& (s &&& y) = t &&& y := by
  apply Nat.eq_of_testBit_eq
  intro i
  rw [Nat.testBit_and, Nat.testBit_and, Nat.testBit_and]
  cases q : t.testBit i
  · rfl
  · rw [h i q]
    rfl
theorem sbq_ndn {t s y : Nat} (ht : t < 2 ^ 14) (h : sbq t s) : ndn t (s &&& y) = ndn t y := by
  apply Nat.eq_of_testBit_eq
  intro i
  rw [ndn_bit (by omega), ndn_bit (by omega), Nat.testBit_and]
  cases q : t.testBit i
  · rfl
  · rw [h i q]
    rfl
def qi (i : Nat) : Nat := if i < 6 then i else i - 4
theorem qn_qi {i : Nat} (hi : i < 32) (h : ¬ (5 < i ∧ i < 10)) : i = qn (qi i) ∧ qi i < 28 := by
  unfold qn qi
  by_cases z : i < 6
  · rw [if_pos z, if_pos z]; omega
  · rw [if_neg z, if_neg (by omega)]; omega
theorem qi_qn {q : Nat} (hq : q < 28) : qi (qn q) = q ∧ qn q < 32 ∧ ¬ (5 < qn q ∧ qn q < 10) := by
  unfold qn qi
  by_cases z : q < 6
  · rw [if_pos z, if_pos z]; omega
  · rw [if_neg z, if_neg (by omega)]; omega
def sdm (R : ST) (s i : Nat) : Nat := if 5 < i ∧ i < 10 then 0 else s &&& yb R (qi i)
theorem j38 {R : ST} {u : ZW} (hI : RailI R) (hM : RailM R u.1) {s i : Nat} (hi : i < 32) (h : ¬ (5 < i ∧ i < 10)) : f_X12_needed_J38 (nI s) (nI i) (nI i) u = some (.inl (nI (i + 1), z_upI u 156 i (nI (sdm R s i)))) := by
  obtain ⟨e, hq⟩ := qn_qi hi h
  have y := yes12 (w := u) (n := s) hI hM hq
  rw [← e] at y
  unfold f_X12_needed_J38 sdm
  rw [y, Option.bind_some, z_in_t hi (by omega), if_pos rfl, nI_clamp (show i < 2 ^ 31 by omega), zl, nI_1, if_neg h]
theorem said12 {R : ST} {w : ZW} (hI : RailI R) (hM : RailM R w.1) (s : Nat) : ∃ r, z_iter (f_X12_needed_L12 (nI s)) z_fuel ((0 : Int32), w) = some r ∧ (∀ c j, c ≠ 156 → r.1 c j = w.1 c j) ∧ r.2 = w.2 ∧ ∀ k, k < 32 → r.1 156 k = nI (sdm R s k) := by
  refine it_inv (fun i (st : Int32 × ZW) => st.1 = nI i ∧ (∀ c j, c ≠ 156 → st.2.1 c j = w.1 c j) ∧ st.2.2 = w.2 ∧ ∀ k, k < i → st.2.1 156 k = nI (sdm R s k)) _ 32 (fun i st hi hP => ?_) (fun st hP => ?_) (zf (by omega)) ⟨rfl, fun c j _ => rfl, rfl, fun k hk => by omega⟩
  · obtain ⟨p1, p2, p3, p4⟩ := hP
    obtain ⟨x, u⟩ := st
    dsimp only at p1 p2 p3 p4
    subst p1
    left
    have hM' : RailM R u.1 := fr_RM (fun a j z => p2 a j (by unfold cRM at z; omega)) hM
    refine ⟨(nI (i + 1), z_upI u 156 i (nI (sdm R s i))), ?_, rfl, fun c j h => by rw [upc (by omega)]; exact p2 c j h, p3, fun k hk => ?_⟩
    · unfold f_X12_needed_L12
      dsimp only
      rw [show (32 : Int32) = nI 32 from rfl, if_neg (nnle hi), show (5 : Int32) = nI 5 from rfl, show (10 : Int32) = nI 10 from rfl, ile (by omega) (by omega), ile (by omega) (by omega)]
      by_cases z : i ≤ 5
      · rw [if_pos z, j38 hI hM' hi (by omega)]
      · rw [if_neg z]
        by_cases y : 10 ≤ i
        · rw [if_pos y, j38 hI hM' hi (by omega)]
        · rw [if_neg y, z_in_t hi (by omega), if_pos rfl, nI_clamp (show i < 2 ^ 31 by omega), zl, nI_1]
          unfold sdm
          rw [if_pos (by omega)]
          rfl
    · by_cases z : k = i
      · subst z; exact upc_e
      · rw [upc (by omega)]
        exact p4 k (by omega)
  · obtain ⟨p1, p2, p3, p4⟩ := hP
    obtain ⟨x, u⟩ := st
    dsimp only at p1 p2 p3 p4
    subst p1
    refine ⟨u, ?_, p2, p3, p4⟩
    unfold f_X12_needed_L12
    dsimp only
    rw [show (32 : Int32) = nI 32 from rfl, if_pos (Int32.le_refl _)]
/-- one set: the least over the questions -/
def bnd (R : ST) (t i b : Nat) : Prop := 1 ≤ b ∧ b ≤ 1000000000 ∧ ∀ n, n < 1000000000 → (b ≤ n ↔ 1 ≤ n ∧ ∃ k, k < i ∧ ¬ (5 < k ∧ k < 10) ∧ enc R (n - 1) t (qi k) = true)
theorem bnd_same {R : ST} {t i b : Nat} (h : bnd R t i b) (no : ∀ m, ¬ (¬ (5 < i ∧ i < 10) ∧ enc R m t (qi i) = true)) : bnd R t (i + 1) b := by
  refine ⟨h.1, h.2.1, fun n hn => ?_⟩
  rw [h.2.2 n hn]
  constructor
  · rintro ⟨h1, k, h2, h3⟩
    exact ⟨h1, k, by omega, h3⟩
  · rintro ⟨h1, k, h2, h3⟩
    refine ⟨h1, k, ?_, h3⟩
    by_cases z : k = i
    · subst z
      exact absurd h3 (no _)
    · omega
theorem j168 {b v i : Nat} (hb : b < 2 ^ 31) (hv : v ≤ 1000000000) : f_X12_needed_J168 (nI b) (nI i) (nI v) = some (.inl (nI (if v < 1000000000 ∧ v + 1 < b then v + 1 else b), nI (i + 1))) := by
  unfold f_X12_needed_J168
  rw [show (1000000000 : Int32) = nI 1000000000 from rfl, nI_1, nI_1, ile (by omega) (by omega), ile (by omega) (by omega)]
  by_cases z : 1000000000 ≤ v
  · rw [if_pos z, if_neg (by omega)]
  · rw [if_neg z]
    by_cases y : b ≤ v + 1
    · rw [if_pos y, if_neg (by omega)]
    · rw [if_neg y, if_pos (by omega)]
theorem j129 {b i : Nat} (hb : b < 2 ^ 31) : f_X12_needed_J129 (nI b) (nI i) = some (.inl (nI b, nI (i + 1))) := by
  unfold f_X12_needed_J129
  have := j168 (b := b) (v := 1000000000) (i := i) hb (Nat.le_refl _)
  rw [if_neg (by omega)] at this
  exact this
theorem bnd_step {R : ST} {t i b va vb v : Nat} (ht : t < 2 ^ 14) (h : bnd R t i b) (hk : ¬ (5 < i ∧ i < 10)) (o1 : t &&& yb R (qi i) ≠ 0) (o2 : t &&& yb R (qi i) ≠ t) (ea : va = nv R (t &&& yb R (qi i))) (eb : vb = nv R (ndn t (yb R (qi i)))) (ev : v = if va ≤ vb then vb else va) : bnd R t (i + 1) (if v < 1000000000 ∧ v + 1 < b then v + 1 else b) := by
  obtain ⟨h1, h2, h3⟩ := h
  have c : ∀ m, m < 1000000000 → (v ≤ m ↔ enc R m t (qi i) = true) := fun m hm => by
    rw [enc_iff, ← nv_le (and14 ht) hm, ← nv_le (ndn_lt ht) hm, ← ea, ← eb]
    have : v ≤ m ↔ va ≤ m ∧ vb ≤ m := by rw [ev]; split <;> omega
    rw [this]
    exact ⟨fun z => ⟨o1, o2, z⟩, fun z => z.2.2⟩
  clear ea eb ev
  have t1 : 1 ≤ (if v < 1000000000 ∧ v + 1 < b then v + 1 else b) := by split <;> omega
  have t2 : (if v < 1000000000 ∧ v + 1 < b then v + 1 else b) ≤ 1000000000 := by split <;> omega
  refine ⟨t1, t2, fun n hn => ?_⟩
  have e : (if v < 1000000000 ∧ v + 1 < b then v + 1 else b) ≤ n ↔ b ≤ n ∨ (1 ≤ n ∧ v ≤ n - 1) := by split <;> omega
  rw [e, h3 n hn, c (n - 1) (by omega)]
  constructor
  · rintro (⟨z1, k, z2, z3⟩ | ⟨z1, z2⟩)
    · exact ⟨z1, k, by omega, z3⟩
    · exact ⟨z1, i, by omega, hk, z2⟩
  · rintro ⟨z1, k, z2, z3, z4⟩
    by_cases z : k = i
    · subst z
      exact Or.inr ⟨z1, z4⟩
    · exact Or.inl ⟨z1, k, by omega, z3, z4⟩
theorem bnd_end {R : ST} {t b : Nat} (ht : t < 2 ^ 14) (hp : 1 < pc14 t) (h : bnd R t 32 b) : b = nv R t := by
  obtain ⟨h1, h2, h3⟩ := h
  have top := nv_top (R := R) ht
  have c : ∀ n, n < 1000000000 → (b ≤ n ↔ nv R t ≤ n) := fun n hn => by
    rw [h3 n hn, nv_le ht hn]
    constructor
    · rintro ⟨z1, k, z2, z3, z4⟩
      obtain ⟨m, rfl⟩ : ∃ m, n = m + 1 := ⟨n - 1, by omega⟩
      exact enb_iff.mpr (Or.inr ⟨qi k, (qn_qi z2 z3).2, z4⟩)
    · intro z
      cases n with
      | zero =>
        have := of_decide_eq_true z
        omega
      | succ m =>
        rcases enb_iff.mp z with y | ⟨q, y1, y2⟩
        · omega
        · obtain ⟨a1, a2, a3⟩ := qi_qn y1
          refine ⟨by omega, qn q, a2, a3, ?_⟩
          rw [a1]
          exact y2
  rcases Nat.lt_or_ge b 1000000000 with q | q
  · have a := (c b q).mp (Nat.le_refl _)
    have d := (c (nv R t) (by omega)).mpr (Nat.le_refl _)
    omega
  · rcases Nat.lt_or_ge (nv R t) 1000000000 with p | p
    · have d := (c (nv R t) p).mpr (Nat.le_refl _)
      omega
    · omega
theorem ge0 {b : Nat} (h : 1 ≤ b) (hb : b < 2 ^ 31) : ¬ nI b ≤ 0 := nnle (b := 0) h hb
theorem L84_lp {R : ST} {u : ZW} {s t : Nat} (ht : t < 2 ^ 14) (hts : sbq t s) (t0 : t ≠ 0) (hd : ∀ k, k < 32 → u.1 156 k = nI (sdm R s k)) (hn : ∀ x, x ≠ 0 → x < t → sbq x s → u.1 155 x = nI (nv R x)) : z_iter (f_X12_needed_L84 (nI t) u) z_fuel (if pc14 t = 1 then (0 : Int32) else 1000000000, (0 : Int32)) = some (nI (nv R t)) := by
  have p := pc_pos ht t0
  have p2 := pc_le (b := t)
  by_cases z : pc14 t = 1
  · rw [if_pos z]
    have e : nv R t = 0 := by
      have := (nv_le (R := R) (n := 0) ht (by omega)).mpr (enb_0 (by omega))
      omega
    rw [e]
    refine it_count (fun _ => ((0 : Int32), (0 : Int32))) 0 _ (fun i hi => by omega) ?_ (zf (by omega))
    unfold f_X12_needed_L84
    dsimp only
    rw [if_neg (by decide), if_pos (by decide)]
    rfl
  · rw [if_neg z]
    have key : ∃ r, z_iter (f_X12_needed_L84 (nI t) u) z_fuel ((1000000000 : Int32), (0 : Int32)) = some r ∧ ∃ b, r = nI b ∧ bnd R t 32 b := by
      refine it_inv (fun i (st : Int32 × Int32) => st.2 = nI i ∧ ∃ b, st.1 = nI b ∧ bnd R t i b) _ 32 (fun i st hi hP => ?_) (fun st hP => ?_) (zf (by omega)) ⟨rfl, 1000000000, rfl, by omega, Nat.le_refl _, fun n hn => ⟨fun h => by omega, fun ⟨_, k, hk, _⟩ => by omega⟩⟩
      · obtain ⟨p1, b, p3, p4⟩ := hP
        obtain ⟨x, y⟩ := st
        dsimp only at p1 p3
        subst p1 p3
        left
        obtain ⟨b1, b2, -⟩ := id p4
        have y18 : t &&& sdm R s i < 2 ^ 14 := and14 ht
        have y19 := ndn_lt (y := sdm R s i) ht
        have z18 : nI (t &&& sdm R s i) = 0 ↔ t &&& sdm R s i = 0 := nI_inj (by omega) (show 0 < 2 ^ 31 by omega)
        have z19 : nI (ndn t (sdm R s i)) = 0 ↔ ndn t (sdm R s i) = 0 := nI_inj (by omega) (show 0 < 2 ^ 31 by omega)
        unfold f_X12_needed_L84
        dsimp only
        rw [show (32 : Int32) = nI 32 from rfl, if_neg (nnle hi), if_neg (ge0 b1 (by omega)), z_in_t hi (by omega), if_pos rfl, nI_clamp (show i < 2 ^ 31 by omega), hd i hi, zl, if_pos rfl, zl, nI_and, nI_ndn]
        by_cases h1 : t &&& sdm R s i = 0
        · rw [if_pos (z18.mpr h1), j129 (by omega)]
          refine ⟨_, rfl, rfl, b, rfl, bnd_same p4 (fun m hm => ?_)⟩
          have e := (enc_iff.mp hm.2).1
          unfold sdm at h1
          rw [if_neg hm.1, sbq_and hts] at h1
          exact e h1
        · have hk : ¬ (5 < i ∧ i < 10) := fun q => h1 (by unfold sdm; rw [if_pos q, Nat.and_zero])
          have es : sdm R s i = s &&& yb R (qi i) := if_neg hk
          rw [if_neg (fun q => h1 (z18.mp q))]
          by_cases h2 : ndn t (sdm R s i) = 0
          · rw [if_pos (z19.mpr h2), j129 (by omega)]
            refine ⟨_, rfl, rfl, b, rfl, bnd_same p4 (fun m hm => ?_)⟩
            have e := (enc_iff.mp hm.2).2.1
            rw [es, sbq_ndn ht hts] at h2
            exact e ((ndn_nz ht).mp h2)
          · rw [if_neg (fun q => h2 (z19.mp q)), z_in_t (show t &&& sdm R s i < 16384 by omega) (by omega), z_in_t (show ndn t (sdm R s i) < 16384 by omega) (by omega), if_pos rfl, if_pos rfl, if_pos rfl, if_pos rfl, nI_clamp (show t &&& sdm R s i < 2 ^ 31 by omega), nI_clamp (show ndn t (sdm R s i) < 2 ^ 31 by omega)]
            have s18 : sbq (t &&& sdm R s i) s := fun j hj => by
              rw [Nat.testBit_and, Bool.and_eq_true] at hj
              exact hts j hj.1
            have s19 : sbq (ndn t (sdm R s i)) s := fun j hj => by
              rw [ndn_bit (by omega), Bool.and_eq_true] at hj
              exact hts j hj.1
            have l18 : t &&& sdm R s i < t := by
              have a : t &&& sdm R s i ≤ t := Nat.and_le_left
              rcases Nat.lt_or_ge (t &&& sdm R s i) t with q | q
              · exact q
              · exact absurd ((ndn_nz ht).mpr (Nat.le_antisymm a q)) h2
            have l19 : ndn t (sdm R s i) < t := by
              have a := ndn_le (a := t) (b := sdm R s i)
              rcases Nat.lt_or_ge (ndn t (sdm R s i)) t with q | q
              · exact q
              · exfalso
                have e := Nat.le_antisymm a q
                apply h1
                rw [z_bits]
                intro j
                have e2 : (ndn t (sdm R s i)).testBit j = t.testBit j := by rw [e]
                rw [ndn_bit (by omega)] at e2
                rw [Nat.testBit_and]
                cases q1 : t.testBit j
                · rfl
                · rw [q1] at e2
                  simpa using e2
            rw [hn _ h1 l18 s18, hn _ h2 l19 s19]
            have ta := nv_top (R := R) y18
            have tb := nv_top (R := R) y19
            have st := bnd_step (va := nv R (t &&& sdm R s i)) (vb := nv R (ndn t (sdm R s i))) ht p4 hk (by rw [← sbq_and hts, ← es]; exact h1) (by
              intro q
              apply h2
              rw [es, sbq_ndn ht hts]
              exact (ndn_nz ht).mpr q) (by rw [es, sbq_and hts]) (by rw [es, sbq_ndn ht hts]) rfl
            generalize nv R (t &&& sdm R s i) = va at ta st ⊢
            generalize nv R (ndn t (sdm R s i)) = vb at tb st ⊢
            rw [ile (by omega) (by omega)]
            by_cases q : va ≤ vb
            · rw [if_pos q] at st ⊢
              rw [j168 (by omega) tb]
              exact ⟨_, rfl, rfl, _, rfl, st⟩
            · rw [if_neg q] at st ⊢
              rw [j168 (by omega) ta]
              exact ⟨_, rfl, rfl, _, rfl, st⟩
      · obtain ⟨p1, b, p3, p4⟩ := hP
        obtain ⟨x, y⟩ := st
        dsimp only at p1 p3
        subst p1 p3
        refine ⟨nI b, ?_, b, rfl, p4⟩
        unfold f_X12_needed_L84
        dsimp only
        rw [show (32 : Int32) = nI 32 from rfl, if_pos (Int32.le_refl _)]
    obtain ⟨r, e, b, h1, h2⟩ := key
    rw [e, h1, bnd_end ht (by omega) h2]
