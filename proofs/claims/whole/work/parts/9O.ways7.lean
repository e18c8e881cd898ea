/-! who, where -/
theorem who_lp {R S : ST} {w : ZW} (hR : RailI R) (hI : NamesI (R 0 1) S) (hM : RailM R w.1) (hN : NamesM (R 0 1) S w.1) (hT : Tw R S ≠ 0) {l m : Nat} (hl : (S 0 1).testBit l = true) (hm : m ≤ 1) : ∃ r, z_iter (f_X12_who_L49 (nI l) (nI m)) z_fuel ((0 : Int32), (0 : Int32), w) = some r ∧ ∃ w', r = (nI (bst (fun p => (onS R S m l).testBit p) (S 0 0)), w') ∧ w'.1 = w.1 ∧ ∀ b j, ¬ (b = 147 ∨ b = 148) → w'.2 b j = w.2 b j := by
  have hN8 := hI.1
  have st := fun p (z : ZW) (hp : p < S 0 0) (hz : z.1 = w.1) => isOn12 (w := z) hR hI (by rw [hz]; exact hM) (by rw [hz]; exact hN) hT hl hp hm
  generalize onS R S m l = X at st ⊢
  refine it_inv (fun p (s : Int32 × Int32 × ZW) => s.1 = nI (bst (fun p => X.testBit p) p) ∧ s.2.1 = nI p ∧ s.2.2.1 = w.1 ∧ ∀ b j, ¬ (b = 147 ∨ b = 148) → s.2.2.2 b j = w.2 b j) _ (S 0 0) (fun p s hp hP => ?_) (fun s hP => ?_) (zf (by omega)) ⟨rfl, rfl, rfl, fun b j _ => rfl⟩
  · obtain ⟨p1, p2, p3, p4⟩ := hP
    obtain ⟨x, i, z⟩ := s
    dsimp only at p1 p2 p3 p4
    subst p1 p2
    left
    obtain ⟨r, e, b1, b2⟩ := st p z hp p3
    refine ⟨(nI (bst (fun p => X.testBit p) (p + 1)), nI (p + 1), r), ?_, rfl, rfl, b1.trans p3, fun b j h => (b2 b j h).trans (p4 b j h)⟩
    unfold f_X12_who_L49
    dsimp only
    rw [p3, hN.1, if_neg (nnle hp), e, Option.bind_some]
    dsimp only
    rw [if10, nI_shl1 (by omega), nI_or, zl, show (0 : Int32) = nI 0 from rfl, nI_or, Nat.or_zero, nI_1, bst_s]
    split <;> rfl
  · obtain ⟨p1, p2, p3, p4⟩ := hP
    obtain ⟨x, i, z⟩ := s
    dsimp only at p1 p2 p3 p4
    subst p1 p2
    refine ⟨_, ?_, z, rfl, p3, p4⟩
    unfold f_X12_who_L49
    dsimp only
    rw [p3, hN.1, if_pos (Int32.le_refl _)]
theorem sim_who {w : ZW} (h : Rel w) (a b : Int32) : ∃ r w1 w2, f_X11_who w a b = some (r, w1) ∧ f_X12_who w1 a b = some (r, w2) ∧ Rel w2 := by
  have h0 := h
  obtain ⟨A, hA⟩ := h
  obtain ⟨hI, hC, hM, -⟩ := id hA
  have hL := hI.1.2.1
  have hN8 := hI.2.2.1.1
  by_cases g1 : ixb (A 0 0 1) a = true
  · by_cases g2 : rg 0 1 b = true
    · obtain ⟨l, hl, rfl⟩ := ix_t (show A 0 0 1 < 2 ^ 31 by omega) g1
      obtain ⟨m, hm, rfl⟩ := rg_0 g2 (by decide)
      by_cases tb : (A 2 0 1).testBit l = true
      · have s3 := (hI.2.2.1.2.2.2.2 l tb).1
        obtain ⟨w1, e1, a1, a2, a3, a4, a5⟩ := find11w hI.1 hI.2.2.1 hC.1 hC.2.2.1
        have hM1 : RailM (A 0) w1.1 := fr_RM (fun a j z => a1 a j (by unfold cRM at z; omega)) hM.1
        have hN1 : NamesM (A 0 0 1) (A 2) w1.1 := fr_NM (fun a j z => a1 a j (by unfold cNM at z; omega)) hM.2.2.1
        obtain ⟨w2, e2, b1, b2⟩ := ways12 (w := w1) hI.1 hI.2.2.1 hM1 hN1
        have lt := Tw_lt hI.1 hI.2.2.1
        have z3 : nI (A 2 3 l) = 0 ↔ A 2 3 l = 0 := nI_inj (by omega) (show 0 < 2 ^ 31 by omega)
        have eC : f_X11_who w (nI l) (nI m) = if Tw (A 0) (A 2) = 0 then some (-4, w1) else (f_X5_peopleOn w1 (nI l) (nI m)).bind fun r4 : Int32 => some (r4, w1) := by
          unfold f_X11_who
          rw [X4_hasLock_eq hC.1.2.1, Option.bind_some, if10, if_pos g1, within_rg, Option.bind_some, if10, if_pos g2, hasLetters_eq hC.2.2.1 hI.2.2.1 hL (by omega), Option.bind_some, if10, if_pos tb, e1, Option.bind_some, show w1.2 111 0 = lN (Tw (A 0) (A 2)) from a3]
          by_cases q : Tw (A 0) (A 2) = 0
          · rw [if_pos ((lc0 lt).mpr q), if_pos q]
          · rw [if_neg (fun h => q ((lc0 lt).mp h)), if_neg q]
        have eM : f_X12_who w1 (nI l) (nI m) = if Tw (A 0) (A 2) = 0 then some (-4, w2) else (z_iter (f_X12_who_L49 (nI l) (nI m)) z_fuel ((0 : Int32), (0 : Int32), w2)).bind (fun q5 : Int32 × ZW => some (q5.1, q5.2)) := by
          unfold f_X12_who
          rw [X12_isLock_eq (by omega) hM1.2.1, Option.bind_some, if10, if_pos g1, in_rg _ _ _ (by decide) (by decide), Option.bind_some, if10, if_pos g2, z_in_t (show l < 14 by omega) (by omega), if_pos rfl, nI_clamp (show l < 2 ^ 31 by omega), hN1.2.2.1 l hl, if_pos tb, if_neg (fun h => by have := z3.mp h; omega), e2, Option.bind_some]
          dsimp only
          by_cases q : Tw (A 0) (A 2) = 0
          · rw [if_pos ((lc0 lt).mpr q), if_pos q]
          · rw [if_neg (fun h => q ((lc0 lt).mp h)), if_neg q]
        by_cases q : Tw (A 0) (A 2) = 0
        · refine ⟨-4, w1, w2, by rw [eC, if_pos q], by rw [eM, if_pos q], A, fr_X (fun b j z => ?_) (fun b j z => ?_) hA⟩
          · rw [b1, a1 b j (fun q => z (by unfold cX; omega))]
          · rw [b2 b j (fun q => z (by unfold cXl; omega)), a2 b j (fun q => z (by unfold cXl; omega))]
        · obtain ⟨r, e3, w3, h3, c1, c2⟩ := who_lp (w := w2) hI.1 hI.2.2.1 (by rw [b1]; exact hM1) (by rw [b1]; exact hN1) q tb hm
          have ol := onS_lt hI.1 hI.2.2.1 q (m := m) tb
          have es : bst (fun p => (onS (A 0) (A 2) m l).testBit p) (A 2 0 0) = onS (A 0) (A 2) m l := Nat.eq_of_testBit_eq (fun i => by
            rw [Bool.eq_iff_iff, bst_bit]
            exact ⟨fun h => h.2, fun h => ⟨bit_lt ol h, h⟩⟩)
          refine ⟨nI (onS (A 0) (A 2) m l), w1, w3, ?_, ?_, A, fr_X (fun b j z => ?_) (fun b j z => ?_) hA⟩
          · rw [eC, if_neg q]
            unfold f_X5_peopleOn onS
            rw [z_in_t (show l < 14 by omega) (by omega), if_pos rfl, if_pos rfl, nI_clamp (show l < 2 ^ 31 by omega), (a5 l tb).1, (a5 l tb).2]
            by_cases y : m = 0
            · rw [if_pos (by rw [y]; rfl), if_pos y]
              rfl
            · rw [if_neg (nI_nz y (by omega)), if_neg y]
              rfl
          · rw [eM, if_neg q, e3, h3, es]
            rfl
          · rw [c1, b1, a1 b j (fun q => z (by unfold cX; omega))]
          · rw [c2 b j (fun q => z (by unfold cXl; omega)), b2 b j (fun q => z (by unfold cXl; omega)), a2 b j (fun q => z (by unfold cXl; omega))]
      · refine ⟨-2, w, w, ?_, ?_, h0⟩
        · unfold f_X11_who
          rw [X4_hasLock_eq hC.1.2.1, Option.bind_some, if10, if_pos g1, within_rg, Option.bind_some, if10, if_pos g2, hasLetters_eq hC.2.2.1 hI.2.2.1 hL (by omega), Option.bind_some, if10, if_neg tb]
        · unfold f_X12_who
          rw [X12_isLock_eq (by omega) hM.1.2.1, Option.bind_some, if10, if_pos g1, in_rg _ _ _ (by decide) (by decide), Option.bind_some, if10, if_pos g2, z_in_t (show l < 14 by omega) (by omega), if_pos rfl, nI_clamp (show l < 2 ^ 31 by omega), hM.2.2.1.2.2.1 l hl, if_neg tb, if_pos (show nI 0 = 0 from rfl)]
    · refine ⟨-1, w, w, ?_, ?_, h0⟩
      · unfold f_X11_who
        rw [X4_hasLock_eq hC.1.2.1, Option.bind_some, if10, if_pos g1, within_rg, Option.bind_some, if10, if_neg g2]
      · unfold f_X12_who
        rw [X12_isLock_eq (by omega) hM.1.2.1, Option.bind_some, if10, if_pos g1, in_rg _ _ _ (by decide) (by decide), Option.bind_some, if10, if_neg g2]
  · refine ⟨-1, w, w, ?_, ?_, h0⟩
    · unfold f_X11_who
      rw [X4_hasLock_eq hC.1.2.1, Option.bind_some, if10, if_neg g1]
    · unfold f_X12_who
      rw [X12_isLock_eq (by omega) hM.1.2.1, Option.bind_some, if10, if_neg g1]
/-! where -/
def whf (R S : ST) (m p l : Nat) : Bool := (S 0 1).testBit l && (onS R S m l).testBit p
theorem where_lp {R S : ST} {w : ZW} (hR : RailI R) (hI : NamesI (R 0 1) S) (hM : RailM R w.1) (hN : NamesM (R 0 1) S w.1) (hT : Tw R S ≠ 0) {p m : Nat} (hp : p < S 0 0) (hm : m ≤ 1) : ∃ r, z_iter (f_X12_where_L45 (nI p) (nI m)) z_fuel ((0 : Int32), (0 : Int32), w) = some r ∧ ∃ w', r = (nI (bst (whf R S m p) (R 0 1)), w') ∧ w'.1 = w.1 ∧ ∀ b j, ¬ (b = 147 ∨ b = 148) → w'.2 b j = w.2 b j := by
  have hL := hR.2.1
  have st := fun l (z : ZW) (hl : (S 0 1).testBit l = true) (hz : z.1 = w.1) => isOn12 (w := z) (m := m) (p := p) hR hI (by rw [hz]; exact hM) (by rw [hz]; exact hN) hT hl hp hm
  have fe : ∀ l, whf R S m p l = ((S 0 1).testBit l && (onS R S m l).testBit p) := fun l => rfl
  generalize whf R S m p = F at fe ⊢
  generalize onS R S m = X at st fe
  refine it_inv (fun l (s : Int32 × Int32 × ZW) => s.1 = nI (bst F l) ∧ s.2.1 = nI l ∧ s.2.2.1 = w.1 ∧ ∀ b j, ¬ (b = 147 ∨ b = 148) → s.2.2.2 b j = w.2 b j) _ (R 0 1) (fun l s hl hP => ?_) (fun s hP => ?_) (zf (by omega)) ⟨rfl, rfl, rfl, fun b j _ => rfl⟩
  · obtain ⟨p1, p2, p3, p4⟩ := hP
    obtain ⟨x, i, z⟩ := s
    dsimp only at p1 p2 p3 p4
    subst p1 p2
    left
    have e144 := hN.2.2.1 l hl
    have fl := fe l
    by_cases q : (S 0 1).testBit l = true
    · obtain ⟨r, e, b1, b2⟩ := st l z q p3
      have s3 := (hI.2.2.2.2 l q).1
      refine ⟨(nI (bst F (l + 1)), nI (l + 1), r), ?_, rfl, rfl, b1.trans p3, fun b j h => (b2 b j h).trans (p4 b j h)⟩
      unfold f_X12_where_L45
      dsimp only
      rw [p3, hM.2.1, if_neg (nnle hl), z_in_t (show l < 14 by omega) (by omega), if_pos rfl, nI_clamp (show l < 2 ^ 31 by omega), e144, if_pos q, if_neg (show ¬ nI (S 3 l) ≤ 0 from nnle (b := 0) (by omega)), e, Option.bind_some]
      dsimp only
      rw [if10, nI_shl1 (by omega), nI_or, zl, show (0 : Int32) = nI 0 from rfl, nI_or, Nat.or_zero, nI_1, bst_s, fl, q, Bool.true_and]
      split <;> rfl
    · refine ⟨(nI (bst F (l + 1)), nI (l + 1), z), ?_, rfl, rfl, p3, p4⟩
      have qf : (S 0 1).testBit l = false := by simpa using q
      unfold f_X12_where_L45
      dsimp only
      rw [p3, hM.2.1, if_neg (nnle hl), z_in_t (show l < 14 by omega) (by omega), if_pos rfl, nI_clamp (show l < 2 ^ 31 by omega), e144, if_neg q, if_pos (show nI 0 ≤ 0 by decide), show (0 : Int32) = nI 0 from rfl, nI_or, Nat.or_zero, nI_1, bst_s, fl, qf, Bool.false_and, if_neg (by simp)]
  · obtain ⟨p1, p2, p3, p4⟩ := hP
    obtain ⟨x, i, z⟩ := s
    dsimp only at p1 p2 p3 p4
    subst p1 p2
    refine ⟨_, ?_, z, rfl, p3, p4⟩
    unfold f_X12_where_L45
    dsimp only
    rw [p3, hM.2.1, if_pos (Int32.le_refl _)]
theorem locks11 {R S : ST} {w : ZW} (hR : RailI R) (hI : NamesI (R 0 1) S) (hT : Tw R S ≠ 0) (h2 : w.1 111 2 = nI (S 0 1)) (hw : ∀ l, (S 0 1).testBit l = true → w.1 115 l = nI ((wys R S (R 6 l)).foldl (fun o x => o ||| x l) 0) ∧ w.1 116 l = nI ((wys R S (R 6 l)).foldl (fun a x => a &&& x l) (2 ^ 32 - 1))) {p m : Nat} (hp : p < 8) (hm : m ≤ 1) : f_X5_locksOf w (nI p) (nI m) = some (nI (bst (whf R S m p) 14)) := by
  have hL := hR.2.1
  have l14 : S 0 1 < 2 ^ 14 := Nat.lt_of_lt_of_le hI.2.1 (Nat.pow_le_pow_right (by omega) hL)
  have fe : ∀ l, whf R S m p l = ((S 0 1).testBit l && (onS R S m l).testBit p) := fun l => rfl
  have po : ∀ l, l < 14 → (S 0 1).testBit l = true → f_X5_peopleOn w (nI l) (nI m) = some (nI (onS R S m l)) ∧ onS R S m l < 2 ^ 31 := fun l hl q => by
    have ol := onS_lt hR hI hT (m := m) q
    have : 2 ^ S 0 0 ≤ 2 ^ 8 := Nat.pow_le_pow_right (by omega) hI.1
    refine ⟨?_, by omega⟩
    unfold f_X5_peopleOn onS
    rw [z_in_t hl (by omega), if_pos rfl, if_pos rfl, nI_clamp (show l < 2 ^ 31 by omega), (hw l q).1, (hw l q).2]
    by_cases y : m = 0
    · rw [if_pos (by rw [y]; rfl), if_pos y]
    · rw [if_neg (nI_nz y (by omega)), if_neg y]
  generalize onS R S m = X at fe po
  generalize whf R S m p = F at fe ⊢
  unfold f_X5_locksOf
  rw [show ((0 : Int32), (0 : Int32)) = (nI (bst F 0), nI 0) from rfl, it_count (fun l => (nI (bst F l), nI l)) 14 (nI (bst F 14)) ?_ ?_ (zf (by omega))]
  · rfl
  · intro l hl
    have e := nI_bit0 (b := S 0 1) (k := l) (by omega) (by omega)
    have fl := fe l
    unfold f_X5_locksOf_L5
    dsimp only
    rw [show (14 : Int32) = nI 14 from rfl, if_neg (nnle hl), h2, nI_1, bst_s, fl]
    by_cases q : (S 0 1).testBit l = true
    · obtain ⟨o1, o2⟩ := po l hl q
      have e2 := nI_bit0 (b := X l) (k := p) o2 (by omega)
      rw [if_neg (fun h => by rw [e.mp h] at q; cases q), o1, Option.bind_some, nI_shl1 (by omega), nI_or, zl, q, Bool.true_and]
      cases y : (X l).testBit p
      · rw [if_pos (e2.mpr y), if_neg (by simp)]
      · rw [if_neg (fun h => by rw [e2.mp h] at y; cases y), if_pos rfl]
    · have qf : (S 0 1).testBit l = false := by simpa using q
      rw [if_pos (e.mpr qf), qf, Bool.false_and, if_neg (by simp)]
  · unfold f_X5_locksOf_L5
    dsimp only
    rw [show (14 : Int32) = nI 14 from rfl, if_pos (Int32.le_refl _)]
theorem sim_where {w : ZW} (h : Rel w) (a b : Int32) : ∃ r w1 w2, f_X11_where w a b = some (r, w1) ∧ f_X12_where w1 a b = some (r, w2) ∧ Rel w2 := by
  have h0 := h
  obtain ⟨A, hA⟩ := h
  obtain ⟨hI, hC, hM, -⟩ := id hA
  have hL := hI.1.2.1
  have hN8 := hI.2.2.1.1
  have wi : f_X11_within a (0 : Int32) (nI (A 2 0 0) - (1 : Int32)) = some (if ixb (A 2 0 0) a = true then 1 else 0) := by
    rw [within_eq, ← ix_in (show A 2 0 0 < 2 ^ 30 by omega) a, in_eq]
    have e1 : (0 : Int64) = (0 : Int32).toInt64 := by decide
    rw [e1]
    simp only [w_le]
  by_cases g1 : ixb (A 2 0 0) a = true
  · by_cases g2 : rg 0 1 b = true
    · obtain ⟨p, hp, rfl⟩ := ix_t (show A 2 0 0 < 2 ^ 31 by omega) g1
      obtain ⟨m, hm, rfl⟩ := rg_0 g2 (by decide)
      obtain ⟨w1, e1, a1, a2, a3, a4, a5⟩ := find11w hI.1 hI.2.2.1 hC.1 hC.2.2.1
      have hM1 : RailM (A 0) w1.1 := fr_RM (fun a j z => a1 a j (by unfold cRM at z; omega)) hM.1
      have hN1 : NamesM (A 0 0 1) (A 2) w1.1 := fr_NM (fun a j z => a1 a j (by unfold cNM at z; omega)) hM.2.2.1
      obtain ⟨w2, e2, b1, b2⟩ := ways12 (w := w1) hI.1 hI.2.2.1 hM1 hN1
      have lt := Tw_lt hI.1 hI.2.2.1
      have eC : f_X11_where w (nI p) (nI m) = if Tw (A 0) (A 2) = 0 then some (-4, w1) else (f_X5_locksOf w1 (nI p) (nI m)).bind fun r4 : Int32 => some (r4, w1) := by
        unfold f_X11_where
        rw [hC.2.2.1.1, wi, Option.bind_some, if10, if_pos g1, within_rg, Option.bind_some, if10, if_pos g2, e1, Option.bind_some, show w1.2 111 0 = lN (Tw (A 0) (A 2)) from a3]
        by_cases q : Tw (A 0) (A 2) = 0
        · rw [if_pos ((lc0 lt).mpr q), if_pos q]
        · rw [if_neg (fun h => q ((lc0 lt).mp h)), if_neg q]
      have eM : f_X12_where w1 (nI p) (nI m) = if Tw (A 0) (A 2) = 0 then some (-4, w2) else (z_iter (f_X12_where_L45 (nI p) (nI m)) z_fuel ((0 : Int32), (0 : Int32), w2)).bind (fun q5 : Int32 × ZW => some (q5.1, q5.2)) := by
        unfold f_X12_where
        rw [hN1.1, ix_in (by omega), Option.bind_some, if10, if_pos g1, in_rg _ _ _ (by decide) (by decide), Option.bind_some, if10, if_pos g2, e2, Option.bind_some]
        dsimp only
        by_cases q : Tw (A 0) (A 2) = 0
        · rw [if_pos ((lc0 lt).mpr q), if_pos q]
        · rw [if_neg (fun h => q ((lc0 lt).mp h)), if_neg q]
      by_cases q : Tw (A 0) (A 2) = 0
      · refine ⟨-4, w1, w2, by rw [eC, if_pos q], by rw [eM, if_pos q], A, fr_X (fun b j z => ?_) (fun b j z => ?_) hA⟩
        · rw [b1, a1 b j (fun q => z (by unfold cX; omega))]
        · rw [b2 b j (fun q => z (by unfold cXl; omega)), a2 b j (fun q => z (by unfold cXl; omega))]
      · obtain ⟨r, e3, w3, h3, c1, c2⟩ := where_lp (w := w2) hI.1 hI.2.2.1 (by rw [b1]; exact hM1) (by rw [b1]; exact hN1) q hp hm
        have lo := locks11 (w := w1) hI.1 hI.2.2.1 q a4 a5 (show p < 8 by omega) hm
        have es : bst (whf (A 0) (A 2) m p) 14 = bst (whf (A 0) (A 2) m p) (A 0 0 1) := Nat.eq_of_testBit_eq (fun i => by
          rw [Bool.eq_iff_iff, bst_bit, bst_bit]
          constructor
          · rintro ⟨h1, h2⟩
            refine ⟨?_, h2⟩
            unfold whf at h2
            rw [Bool.and_eq_true] at h2
            exact bit_lt hI.2.2.1.2.1 h2.1
          · rintro ⟨h1, h2⟩
            exact ⟨by omega, h2⟩)
        refine ⟨nI (bst (whf (A 0) (A 2) m p) (A 0 0 1)), w1, w3, ?_, ?_, A, fr_X (fun b j z => ?_) (fun b j z => ?_) hA⟩
        · rw [eC, if_neg q, lo, es]
          rfl
        · rw [eM, if_neg q, e3, h3]
          rfl
        · rw [c1, b1, a1 b j (fun q => z (by unfold cX; omega))]
        · rw [c2 b j (fun q => z (by unfold cXl; omega)), b2 b j (fun q => z (by unfold cXl; omega)), a2 b j (fun q => z (by unfold cXl; omega))]
    · refine ⟨-1, w, w, ?_, ?_, h0⟩
      · unfold f_X11_where
        rw [hC.2.2.1.1, wi, Option.bind_some, if10, if_pos g1, within_rg, Option.bind_some, if10, if_neg g2]
      · unfold f_X12_where
        rw [hM.2.2.1.1, ix_in (by omega), Option.bind_some, if10, if_pos g1, in_rg _ _ _ (by decide) (by decide), Option.bind_some, if10, if_neg g2]
  · refine ⟨-1, w, w, ?_, ?_, h0⟩
    · unfold f_X11_where
      rw [hC.2.2.1.1, wi, Option.bind_some, if10, if_neg g1]
    · unfold f_X12_where
      rw [hM.2.2.1.1, ix_in (by omega), Option.bind_some, if10, if_neg g1]
