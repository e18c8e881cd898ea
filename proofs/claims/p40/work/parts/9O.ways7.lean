/-! where -/
def whf (R S : ST) (m p l : Nat) : Bool := (S 0 1).testBit l && (onS R S m l).testBit p
theorem locks11 {R S : ST} {w : ZW} (hR : RailI R) (hI : NamesI (R 0 1) S) (hT : Tw R S ≠ 0) (h2 : w.1 111 2 = nI (S 0 1)) (hw : ∀ l, (S 0 1).testBit l = true → w.1 115 l = nI ((wys R S (R 6 l)).foldl (fun o x => o ||| x l) 0) ∧ w.1 116 l = nI ((wys R S (R 6 l)).foldl (fun a x => a &&& x l) (2 ^ 32 - 1))) {p m : Nat} (hp : p < 8) (hm : m ≤ 1) : f_X5_locksOf w (nI p) (nI m) = some (nI (bst (whf R S m p) 14)) := by
  have hL := hR.2.1
  have l14 : S 0 1 < 2 ^ 14 := Nat.lt_of_lt_of_le hI.2.1 (Nat.pow_le_pow_right (by omega) hL)
  have fe : ∀ l, whf R S m p l = ((S 0 1).testBit l && (onS R S m l).testBit p) := fun l => rfl
  have po : ∀ l, l < 14 → (S 0 1).testBit l = true → f_X5_peopleOn w (nI l) (nI m) = some (nI (onS R S m l)) ∧ onS R S m l < 2 ^ 31 := fun l hl q => by
    have ol := onS_lt hR hI hT (m := m) q
    have : 2 ^ S 0 0 ≤ 2 ^ 8 := Nat.pow_le_pow_right (by omega) hI.1
    refine ⟨?_, by omega⟩
    unfold f_X5_peopleOn onS
    rw [z_in_t hl (by omega), if_pos rfl, if_pos rfl, nI_clamp (show l < 2 ^ 31 by omega), (hw l q).1, (hw l q).2]
    by_cases y : m = 0
    · rw [if_pos (by rw [y]; rfl), if_pos y]
    · rw [if_neg (nI_nz y (by omega)), if_neg y]
  generalize onS R S m = X at fe po
  generalize whf R S m p = F at fe ⊢
  unfold f_X5_locksOf
  rw [show ((0 : Int32), (0 : Int32)) = (nI (bst F 0), nI 0) from rfl, it_count (fun l => (nI (bst F l), nI l)) 14 (nI (bst F 14)) ?_ ?_ (zf (by omega))]
  · rfl
  · intro l hl
    have e := nI_bit0 (b := S 0 1) (k := l) (by omega) (by omega)
    have fl := fe l
    unfold f_X5_locksOf_L5
    dsimp only
    rw [show (14 : Int32) = nI 14 from rfl, if_neg (nnle hl), h2, nI_1, bst_s, fl]
    by_cases q : (S 0 1).testBit l = true
    · obtain ⟨o1, o2⟩ := po l hl q
      have e2 := nI_bit0 (b := X l) (k := p) o2 (by omega)
      rw [if_neg (fun h => by rw [e.mp h] at q; cases q), o1, Option.bind_some, nI_shl1 (by omega), nI_or, zl, q, Bool.true_and]
      cases y : (X l).testBit p
      · rw [if_pos (e2.mpr y), if_neg (by simp)]
      · rw [if_neg (fun h => by rw [e2.mp h] at y; cases y), if_pos rfl]
    · have qf : (S 0 1).testBit l = false := by simpa using q
      rw [if_pos (e.mpr qf), qf, Bool.false_and, if_neg (by simp)]
  · unfold f_X5_locksOf_L5
    dsimp only
    rw [show (14 : Int32) = nI 14 from rfl, if_pos (Int32.le_refl _)]
