/-! laws: model -/
def uc (S : ST) : Nat → Nat
  | 0 => 0
  | i + 1 => uc S i + if fl S (209 - i) = true then 1 else 0
def fo (S : ST) : Nat → Nat
  | 0 => 0
  | i + 1 => if fl S (209 - i) = true then 209 - i + 1 else fo S i
theorem uc_lc {S : ST} : ∀ i, i ≤ 210 → lc S (210 - i) + uc S i = lc S 210
  | 0, _ => by
    rw [Nat.sub_zero]
    exact Nat.add_zero _
  | i + 1, h => by
    have := uc_lc (S := S) i (by omega)
    have e : lc S (210 - i) = lc S (210 - (i + 1)) + if fl S (209 - i) = true then 1 else 0 := by
      rw [show 210 - i = (209 - i) + 1 by omega, show 210 - (i + 1) = 209 - i by omega]
      rfl
    show lc S (210 - (i + 1)) + (uc S i + if fl S (209 - i) = true then 1 else 0) = _
    omega
theorem lc_mono {S : ST} : ∀ m n, lc S n ≤ lc S (n + m)
  | 0, _ => Nat.le_refl _
  | m + 1, n => by
    have := lc_mono (S := S) m n
    show lc S n ≤ lc S (n + m) + _
    omega
theorem lc_0 {S : ST} {n k : Nat} (h : lc S n = 0) (hk : k < n) : fl S k = false := by
  cases q : fl S k
  · rfl
  · have h1 : lc S (k + 1) = lc S k + 1 := by
      show lc S k + (if fl S k = true then 1 else 0) = _
      rw [if_pos q]
    have h2 := lc_mono (S := S) (n - (k + 1)) (k + 1)
    rw [show k + 1 + (n - (k + 1)) = n by omega] at h2
    omega
theorem fo_none {S : ST} (h : lc S 210 = 0) : ∀ i, i ≤ 210 → fo S i = 0
  | 0, _ => rfl
  | i + 1, hi => by
    show (if fl S (209 - i) = true then _ else fo S i) = 0
    rw [if_neg (by rw [lc_0 h (by omega)]; simp)]
    exact fo_none h i (by omega)
theorem fo_first {S : ST} {n : Nat} (hn : n < 210) (h : fl S n = true) (h0 : lc S n = 0) : ∀ k, k ≤ n → fo S (210 - n + k) = n + 1
  | 0, _ => by
    rw [show 210 - n + 0 = (209 - n) + 1 by omega]
    show (if fl S (209 - (209 - n)) = true then 209 - (209 - n) + 1 else _) = _
    rw [show 209 - (209 - n) = n by omega, if_pos h]
  | k + 1, hk => by
    show (if fl S (209 - (210 - n + k)) = true then _ else fo S (210 - n + k)) = _
    rw [if_neg (by rw [lc_0 h0 (by omega)]; simp)]
    exact fo_first hn h h0 k (by omega)
def lfr (w w' : ZW) : Prop := (∀ c j, ¬ (c = 130 ∧ (j = 32 ∨ j = 33)) → w'.1 c j = w.1 c j) ∧ w'.2 = w.2
theorem uc_s {S : ST} {i : Nat} : uc S (i + 1) = uc S i + if fl S (209 - i) = true then 1 else 0 := rfl
theorem fo_s {S : ST} {i : Nat} : fo S (i + 1) = if fl S (209 - i) = true then 209 - i + 1 else fo S i := rfl
theorem j56 {c i : Nat} {x k : Int32} {u : ZW} (hi : i < 210) (flag : Int32) : f_X12_laws_J56 x (nI (209 - i)) flag k (nI c) u = some (.inl (nI c + k, if flag = 0 then x else nI (209 - i), cd 210 (i + 1), u)) := by
  have e3 := cd_s hi
  rw [cd_i hi, show 210 - 1 - i = 209 - i by omega] at e3
  unfold f_X12_laws_J56
  rw [e3]
  by_cases q : flag = 0
  · rw [if_pos q, if_pos q]
  · rw [if_neg q, if_neg q]
theorem step12 {S : ST} {u : ZW} (hI : GrowI S) (hM : GrowM S u.1) {i c : Nat} {x : Int32} (hi : i < 210) : ∃ u', f_X12_laws_L24 (nI c, x, nI (209 - i), u) = some (.inl (nI (c + if fl S (209 - i) = true then 1 else 0), if fl S (209 - i) = true then nI (209 - i) else x, cd 210 (i + 1), u')) ∧ lfr u u' := by
  obtain ⟨u', lo, H, l1, l2, l3, l4, l5, l6, l7, l8⟩ := law_eq (S := S) (w := u) (a := (209 - i) / 10) (b := (209 - i) % 10) hI hM (by omega) (by omega)
  have lb := (law_both hI (show (209 - i) / 10 ≤ 20 by omega) (show (209 - i) % 10 ≤ 9 by omega) l4 l5 l8).1
  refine ⟨u', ?_, l2, l3⟩
  have hf : fl S (209 - i) = decide (lo < H) := by
    unfold fl
    exact decide_eq_decide.mpr lb
  rw [hf]
  unfold f_X12_laws_L24
  dsimp only
  rw [if_neg (nI_pos (by omega)), show (10 : Int32) = nI 10 from rfl, pk_rem (by omega) (by omega) (by omega), pk_div (by omega) (by omega) (by omega), l1, Option.bind_some, j56 hi, j56 hi]
  by_cases q : lo < H
  · rw [if_pos q, if_neg i10, if_neg i10, if_pos (decide_eq_true q), if_pos (decide_eq_true q), show nI c + (1 : Int32) = nI (c + 1) from nI_add _ 1]
  · rw [if_neg q, if_pos rfl, if_pos rfl, if_neg (by simp [q]), if_neg (by simp [q]), show nI c + (0 : Int32) = nI (c + 0) from nI_add _ 0]
theorem model12 {S : ST} {w : ZW} (hI : GrowI S) (hM : GrowM S w.1) {n0 : Nat} (hn : n0 = 210) : ∃ w', z_iter f_X12_laws_L24 z_fuel ((0 : Int32), (-4 : Int32), (209 : Int32), w) = some (nI (uc S n0), hol (fo S n0), w') ∧ lfr w w' := by
  have key : ∃ r, z_iter f_X12_laws_L24 z_fuel ((0 : Int32), (-4 : Int32), (209 : Int32), w) = some r ∧ ∃ w', r = (nI (uc S n0), hol (fo S n0), w') ∧ lfr w w' := by
    refine it_inv (fun i (s : Int32 × Int32 × Int32 × ZW) => s.1 = nI (uc S i) ∧ s.2.1 = hol (fo S i) ∧ s.2.2.1 = cd 210 i ∧ lfr w s.2.2.2) (fun r => ∃ w', r = (nI (uc S n0), hol (fo S n0), w') ∧ lfr w w') n0 (fun i s hi hP => ?_) (fun s hP => ?_) (zf (by omega)) ⟨rfl, rfl, (show (209 : Int32) = cd 210 0 by decide), ⟨fun _ _ _ => rfl, rfl⟩⟩
    · obtain ⟨p1, p2, p3, p4⟩ := hP
      obtain ⟨x, y, n, u⟩ := s
      dsimp only at p1 p2 p3 p4
      obtain ⟨u', e, f⟩ := step12 (S := S) (u := u) (i := i) (c := uc S i) (x := y) hI (fr_GM (fun a j q => p4.1 a j (by unfold cGM at q; omega)) hM) (by omega)
      left
      refine ⟨(nI (uc S i + if fl S (209 - i) = true then 1 else 0), if fl S (209 - i) = true then nI (209 - i) else y, cd 210 (i + 1), u'), by rw [p1, p3, cd_i (show i < 210 by omega), show 210 - 1 - i = 209 - i by omega]; exact e, ?_, ?_, rfl, fun c j q => (f.1 c j q).trans (p4.1 c j q), f.2.trans p4.2⟩
      · dsimp only
        rw [uc_s]
      · dsimp only
        rw [fo_s, p2]
        split
        · rw [hol_p (by omega), Nat.add_sub_cancel]
        · rfl
    · obtain ⟨p1, p2, p3, p4⟩ := hP
      obtain ⟨x, y, n, u⟩ := s
      dsimp only at p1 p2 p3 p4
      refine ⟨(x, y, u), ?_, u, by rw [p1, p2], p4⟩
      unfold f_X12_laws_L24
      dsimp only
      rw [p3, hn, cd_n, if_pos (by decide)]
  obtain ⟨r, e, w', h1, h2⟩ := key
  exact ⟨w', by rw [e, h1], h2⟩
