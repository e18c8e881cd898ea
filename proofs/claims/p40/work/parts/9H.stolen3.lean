/-! stolen: both -/
theorem kws_v : ∀ (xs : List Nat) (w : ZW) (c a o : Nat), w.1 119 0 = nI c → w.1 119 1 = nI a → w.1 119 2 = nI o → (xs.foldl kw w).1 119 0 = nI (c + xs.length) ∧ (xs.foldl kw w).1 119 1 = nI (xs.foldl (fun x y => x &&& y) a) ∧ (xs.foldl kw w).1 119 2 = nI (xs.foldl (fun x y => x ||| y) o)
  | [], w, c, a, o, h1, h2, h3 => ⟨h1, h2, h3⟩
  | x :: xs, w, c, a, o, h1, h2, h3 => by
    have k1 : (kw w x).1 119 0 = nI (c + 1) := by
      unfold kw
      rw [upc (by omega), upc (by omega), upc_e, h1, nI_1]
    have k2 : (kw w x).1 119 1 = nI (a &&& x) := by
      unfold kw
      rw [upc (by omega), upc_e, h2, nI_and]
    have k3 : (kw w x).1 119 2 = nI (o ||| x) := by
      unfold kw
      rw [upc_e, h3, nI_or]
    have ih := kws_v xs (kw w x) (c + 1) (a &&& x) (o ||| x) k1 k2 k3
    rw [List.length_cons, show c + (xs.length + 1) = c + 1 + xs.length by omega]
    exact ih
def lcl (R : ST) (hg load : Nat) : List Nat := if load ≤ rW R hg then tkl R hg (R 0 1) 0 0 (rW R hg - load) else []
theorem find11 {R : ST} {w : ZW} (hI : RailI R) (hC : RailC R w.1) {hg load : Nat} (hh : hg < 2 ^ 14) (hl : load ≤ 99999) : ∃ r, f_X1_findLoots w (nI hg) (nI load) = some r ∧ (∀ b j, b ≠ 119 → r.1 b j = w.1 b j) ∧ r.2 = w.2 ∧ r.1 119 0 = nI (lcl R hg load).length ∧ r.1 119 1 = nI ((lcl R hg load).foldl (fun x y => x &&& y) (2 ^ 32 - 1)) ∧ r.1 119 2 = nI ((lcl R hg load).foldl (fun x y => x ||| y) 0) := by
  have hW := rW_le hI hg
  have hL := hI.2.1
  obtain ⟨w3, h3⟩ : ∃ w3, w3 = z_upI (z_upI (z_upI w 119 0 0) 119 1 (-1)) 119 2 0 := ⟨_, rfl⟩
  have o3 : ∀ b j, b ≠ 119 → w3.1 b j = w.1 b j := fun b j h => by rw [h3, upc (by omega), upc (by omega), upc (by omega)]
  have hC3 : RailC R w3.1 := fr_RC (fun a j q => o3 a j (by unfold cRC at q; omega)) hC
  have v := kws_v (lcl R hg load) w3 0 (2 ^ 32 - 1) 0 (by rw [h3, upc (by omega), upc (by omega), upc_e]; rfl) (by rw [h3, upc (by omega), upc_e]; rfl) (by rw [h3, upc_e]; rfl)
  rw [Nat.zero_add] at v
  have ko := kws_o (lcl R hg load) w3
  refine ⟨(lcl R hg load).foldl kw w3, ?_, fun b j h => (ko.1 b j h).trans (o3 b j h), ko.2.trans (by rw [h3]; rfl), v⟩
  unfold f_X1_findLoots
  rw [zl, zl, zl, ← h3, X4_weightOf_eq hI hC3 hh, Option.bind_some]
  unfold lcl
  by_cases q : load ≤ rW R hg
  · have t := take11 hI hh (R 0 1) 20 0 0 (rW R hg - load) w3 (by omega) (by omega) (by omega) (by omega) hC3
    rw [if_pos q, pk_sub q, show f_X1_takeFrom 20 w3 (nI hg) (0 : Int32) (0 : Int32) (nI (rW R hg - load)) = _ from t]
    rfl
  · rw [if_neg q, show (20 : Nat) = 19 + 1 from rfl, take_neg (by
      rw [Int32.lt_iff_toInt_lt, pk_sub_toInt (by omega) (by omega)]
      have : (0 : Int32).toInt = 0 := by decide
      omega)]
    rfl
/-- the same loots -/
theorem rH_bit {R : ST} {p q i : Nat} (hq : q ≤ 2) : (rH R p q).testBit i = true ↔ i < R 0 1 ∧ (R 0 2).testBit i = false ∧ R 7 i = p ∧ R 8 i = q := by
  unfold rH
  rw [rH3_bit, decide_eq_false (show ¬ q = 3 by omega), Bool.false_or]
  simp only [Bool.and_eq_true, decide_eq_true_eq, Bool.not_eq_true']
  exact ⟨fun h => ⟨h.1, h.2.1.1, h.2.1.2, h.2.2⟩, fun h => ⟨h.1, ⟨h.2.1, h.2.2.1⟩, h.2.2.2⟩⟩
theorem pul_iff {R : ST} {hg s i : Nat} : pul R hg s i = true ↔ hg.testBit i = true ∧ abv R s i = true := by
  unfold pul abv
  rw [Bool.and_eq_true]
theorem vld_all {R : ST} (hI : RailI R) {p q s : Nat} (hq : q ≤ 2) : (∀ i, i < R 0 1 → vld R (rH R p q) i s) ∧ s < 2 ^ R 0 1 ↔ sbq s (rH R p q) ∧ ∀ i, i < R 0 1 → lb1 R s i = true := by
  constructor
  · rintro ⟨h, hs⟩
    have sub : sbq s (rH R p q) := fun i hi => by
      have v := h i (bit_lt hs hi)
      unfold vld at v
      rw [hi, if_pos rfl, Bool.or_eq_true, pul_iff, Bool.and_eq_true] at v
      rcases v with v | v
      · exact v.1
      · exact v.1
    refine ⟨sub, fun i hi => ?_⟩
    have v := h i hi
    unfold vld at v
    unfold lb1
    cases qb : s.testBit i
    · rw [qb, if_neg (by simp)] at v
      rw [if_neg (by simp)]
      cases qa : abv R s i
      · rfl
      · cases qg : (R 0 2).testBit i
        · exfalso
          obtain ⟨-, -, -, h7, h8, h9, hh⟩ := hI.2.2.2.2 i hi
          have qa2 := qa
          unfold abv at qa2
          rw [Bool.and_eq_true, decide_eq_true_eq] at qa2
          obtain ⟨e7, e8, -⟩ := hh qa2.1
          obtain ⟨a1, a2, a3, a4⟩ := (rH_bit hq).mp (sub _ qa2.2)
          have : (rH R p q).testBit i = true := (rH_bit hq).mpr ⟨hi, qg, by omega, by omega⟩
          have c := pul_iff.mpr ⟨this, qa⟩
          rw [c] at v
          cases v
        · rfl
    · rw [qb, if_pos rfl, Bool.or_eq_true, pul_iff, Bool.and_eq_true] at v
      rw [if_pos rfl, Bool.or_eq_true]
      rcases v with v | v
      · exact Or.inl v.2
      · exact Or.inr v.2
  · rintro ⟨sub, h⟩
    refine ⟨fun i hi => ?_, Nat.lt_pow_two_of_testBit s (fun i hi => ?_)⟩
    · have v := h i hi
      unfold lb1 at v
      unfold vld
      cases qb : s.testBit i
      · rw [qb, if_neg (by simp)] at v
        rw [if_neg (by simp)]
        cases qp : pul R (rH R p q) s i
        · rfl
        · obtain ⟨p1, p2⟩ := pul_iff.mp qp
          have := ((rH_bit hq).mp p1).2.1
          rw [p2, this] at v
          cases v
      · rw [qb, if_pos rfl, Bool.or_eq_true] at v
        rw [if_pos rfl, Bool.or_eq_true, pul_iff, Bool.and_eq_true]
        have hb := sub i qb
        rcases v with v | v
        · exact Or.inl ⟨hb, v⟩
        · exact Or.inr ⟨hb, v⟩
    · cases qb : s.testBit i
      · rfl
      · have := ((rH_bit hq).mp (sub i qb)).1
        omega
theorem loots_perm {R : ST} (hI : RailI R) {p q load : Nat} (hq : q ≤ 2) : (lcl R (rH R p q) load).Perm ((dl (rH R p q) (rH R p q)).filter (cnl R (rW R (rH R p q)) load)) := by
  have hL := hI.2.1
  have h14 : rH R p q < 2 ^ 14 := Nat.lt_of_lt_of_le (rHn_lt (Nat.le_refl _)) (Nat.pow_le_pow_right (by omega) hL)
  have n1 : (lcl R (rH R p q) load).Nodup := by
    unfold lcl
    split
    · exact tkl_nodup hI (R 0 1) 0 0 _ (by omega) (by omega)
    · exact List.Pairwise.nil
  have n2 : ((dl (rH R p q) (rH R p q)).filter (cnl R (rW R (rH R p q)) load)).Nodup := List.Nodup.sublist List.filter_sublist (dl_nodup _)
  refine (List.perm_ext_iff_of_nodup n1 n2).mpr (fun s => ?_)
  rw [List.mem_filter, dl_mem]
  have mem1 : s ∈ lcl R (rH R p q) load ↔ load ≤ rW R (rH R p q) ∧ ((∀ i, i < R 0 1 → vld R (rH R p q) i s) ∧ s < 2 ^ R 0 1) ∧ rW R s = rW R (rH R p q) - load ∧ s ≠ 0 := by
    unfold lcl
    by_cases z : load ≤ rW R (rH R p q)
    · rw [if_pos z, tkl_mem hI (R 0 1) 0 0 _ s (by omega) (by omega), Nat.zero_add, Nat.pow_zero, Nat.mod_one]
      have r0 : rWn R s 0 = 0 := rfl
      rw [r0, Nat.zero_add]
      constructor
      · rintro ⟨a1, -, a3, a4, a5⟩
        exact ⟨z, ⟨fun i hi => a3 i (by omega) hi, a1⟩, a4, a5⟩
      · rintro ⟨-, ⟨a3, a1⟩, a4, a5⟩
        exact ⟨a1, rfl, fun i _ hi => a3 i hi, a4, a5⟩
    · rw [if_neg z]
      exact ⟨(fun h => by cases h), (fun h => absurd h.1 z)⟩
  rw [mem1, vld_all hI hq]
  unfold cnl lob
  rw [Bool.and_eq_true, Bool.and_eq_true, decide_eq_true_eq, decide_eq_true_eq, lbn_iff]
  constructor
  · rintro ⟨a1, ⟨a2, a3⟩, a4, a5⟩
    have le := Nat.le_of_testBit a2
    exact ⟨⟨a5, le, (sbq_iff (by omega)).mpr a2⟩, by omega, a5, a3⟩
  · rintro ⟨⟨a1, a2, a3⟩, a4, -, a6⟩
    have sb := (sbq_iff (by omega)).mp a3
    have := rW_sub (R := R) sb
    exact ⟨by omega, ⟨sb, a6⟩, by omega, a1⟩
theorem and_start {all : Nat} (h14 : all < 2 ^ 14) : ∀ xs : List Nat, xs ≠ [] → (∀ x, x ∈ xs → sbq x all) → xs.foldl (fun x y => x &&& y) (2 ^ 32 - 1) = xs.foldl (fun x y => x &&& y) all
  | [], h, _ => absurd rfl h
  | x :: xs, _, hx => by
    have sb := hx x (List.mem_cons_self ..)
    rw [List.foldl_cons, List.foldl_cons]
    have e : (2 ^ 32 - 1) &&& x = all &&& x := Nat.eq_of_testBit_eq (fun i => by
      rw [Nat.testBit_and, Nat.testBit_and, Nat.testBit_two_pow_sub_one]
      cases q : x.testBit i
      · rw [Bool.and_false, Bool.and_false]
      · have a := sb i q
        have := bit_lt h14 a
        rw [a, decide_eq_true (show i < 32 by omega)])
    rw [e]
