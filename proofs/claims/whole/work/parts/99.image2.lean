/-! image, restore: the model's array -/
theorem sv_lp {w : ZW} {a n off : Nat} (ha : a ≠ 157) (hn : off + n ≤ 520) : ∃ r, z_iter (f_X12_saves_L2 n (nI off) 520 157 a) z_fuel ((0 : Int32), w) = some r ∧ (∀ j, j < n → r.1 157 (off + j) = w.1 a j) ∧ (∀ b k, ¬ (b = 157 ∧ off ≤ k ∧ k < off + n) → r.1 b k = w.1 b k) ∧ r.2 = w.2 := by
  refine it_inv (fun i (s : Int32 × ZW) => s.1 = nI i ∧ (∀ j, j < i → s.2.1 157 (off + j) = w.1 a j) ∧ (∀ b k, ¬ (b = 157 ∧ off ≤ k ∧ k < off + i) → s.2.1 b k = w.1 b k) ∧ s.2.2 = w.2) _ n (fun i s hi hP => ?_) (fun s hP => ?_) (zf (by omega)) ⟨rfl, fun j hj => by omega, fun b k _ => rfl, rfl⟩
  · obtain ⟨p1, p2, p3, p4⟩ := hP
    obtain ⟨x, u⟩ := s
    dsimp only at p1 p2 p3 p4
    subst p1
    left
    refine ⟨(nI (i + 1), z_upI u 157 (off + i) (u.1 a i)), ?_, rfl, fun j hj => ?_, fun b k h => ?_, p4⟩
    · unfold f_X12_saves_L2
      dsimp only
      rw [show Int32.ofNat n = nI n from rfl, if_neg (nnle hi), z_in_t hi (by omega), if_pos rfl, nI_add, z_in_t (show off + i < 520 by omega) (by omega), if_pos rfl, nI_clamp (show off + i < 2 ^ 31 by omega), nI_clamp (show i < 2 ^ 31 by omega), zl, nI_1]
    · by_cases z : j = i
      · subst z
        rw [upc_e]
        exact p3 a j (fun q => ha q.1)
      · rw [upc (by omega)]
        exact p2 j (by omega)
    · rw [upc (by omega)]
      exact p3 b k (by omega)
  · obtain ⟨p1, p2, p3, p4⟩ := hP
    obtain ⟨x, u⟩ := s
    dsimp only at p1 p2 p3 p4
    subst p1
    refine ⟨u, ?_, p2, p3, p4⟩
    unfold f_X12_saves_L2
    dsimp only
    rw [show Int32.ofNat n = nI n from rfl, if_pos (Int32.le_refl _)]
theorem gv_lp {w : ZW} {a n off : Nat} (ha : a ≠ 157) (hn : off + n ≤ 520) : ∃ r, z_iter (f_X12_gives_L2 n (nI off) 520 a 157) z_fuel ((0 : Int32), w) = some r ∧ (∀ j, j < n → r.1 a j = w.1 157 (off + j)) ∧ (∀ b k, ¬ (b = a ∧ k < n) → r.1 b k = w.1 b k) ∧ r.2 = w.2 := by
  refine it_inv (fun i (s : Int32 × ZW) => s.1 = nI i ∧ (∀ j, j < i → s.2.1 a j = w.1 157 (off + j)) ∧ (∀ b k, ¬ (b = a ∧ k < i) → s.2.1 b k = w.1 b k) ∧ s.2.2 = w.2) _ n (fun i s hi hP => ?_) (fun s hP => ?_) (zf (by omega)) ⟨rfl, fun j hj => by omega, fun b k _ => rfl, rfl⟩
  · obtain ⟨p1, p2, p3, p4⟩ := hP
    obtain ⟨x, u⟩ := s
    dsimp only at p1 p2 p3 p4
    subst p1
    left
    refine ⟨(nI (i + 1), z_upI u a i (u.1 157 (off + i))), ?_, rfl, fun j hj => ?_, fun b k h => ?_, p4⟩
    · unfold f_X12_gives_L2
      dsimp only
      rw [show Int32.ofNat n = nI n from rfl, if_neg (nnle hi), nI_add, z_in_t (show off + i < 520 by omega) (by omega), if_pos rfl, z_in_t hi (by omega), if_pos rfl, nI_clamp (show off + i < 2 ^ 31 by omega), nI_clamp (show i < 2 ^ 31 by omega), zl, nI_1]
    · by_cases z : j = i
      · subst z
        rw [upc_e]
        exact p3 157 _ (fun q => ha q.1.symm)
      · rw [upc (by omega)]
        exact p2 j (by omega)
    · rw [upc (by omega)]
      exact p3 b k (by omega)
  · obtain ⟨p1, p2, p3, p4⟩ := hP
    obtain ⟨x, u⟩ := s
    dsimp only at p1 p2 p3 p4
    subst p1
    refine ⟨u, ?_, p2, p3, p4⟩
    unfold f_X12_gives_L2
    dsimp only
    rw [show Int32.ofNat n = nI n from rfl, if_pos (Int32.le_refl _)]
def Sv (A N : Nat) (w w1 : ZW) : Prop := (∀ a j, a < A → j < rlen a → w1.1 157 (roff a + j) = w.1 a j) ∧ (∀ a, a < A → rlen a ≠ 0 → roff a + rlen a ≤ N) ∧ (∀ b k, b ≠ 157 → w1.1 b k = w.1 b k) ∧ w1.2 = w.2
def Gv (A : Nat) (w w1 : ZW) : Prop := (∀ a j, a < A → j < rlen a → w1.1 a j = w.1 157 (roff a + j)) ∧ (∀ a j, A ≤ a ∨ ¬ j < rlen a → w1.1 a j = w.1 a j) ∧ w1.2 = w.2
theorem sv_step {w w1 : ZW} {A N : Nat} (a n M : Nat) (h : Sv A N w w1) (hs : ∀ x, A ≤ x → x < a → rlen x = 0) (hl : rlen a = n) (ho : roff a = N) (hM : N + n = M) (h5 : M ≤ 520) (ha : a < 157) : ∃ w2, f_X12_saves w1 a n 157 520 (nI N) = some (nI M, w2) ∧ Sv (a + 1) M w w2 := by
  obtain ⟨h1, h2, h3, h4⟩ := h
  obtain ⟨r, e, r1, r2, r3⟩ := sv_lp (w := w1) (a := a) (n := n) (off := N) (by omega) (by omega)
  refine ⟨r, ?_, fun x j hx hj => ?_, fun x hx h0 => ?_, fun b k hb => ?_, r3.trans h4⟩
  · unfold f_X12_saves
    rw [e, Option.bind_some, show Int32.ofNat n = nI n from rfl, nI_add, hM]
  · by_cases z : x = a
    · subst z
      rw [ho, r1 j (by omega)]
      exact h3 x j (by omega)
    · by_cases y : x < A
      · have b := h2 x y (by omega)
        rw [r2 _ _ (by omega)]
        exact h1 x j y hj
      · rw [hs x (by omega) (by omega)] at hj
        omega
  · by_cases z : x = a
    · subst z
      omega
    · by_cases y : x < A
      · have := h2 x y h0
        omega
      · exact absurd (hs x (by omega) (by omega)) h0
  · rw [r2 _ _ (by omega)]
    exact h3 b k hb
theorem gv_step {w w1 : ZW} {A N : Nat} (a n M : Nat) (h : Gv A w w1) (hA : A ≤ a) (hs : ∀ x, A ≤ x → x < a → rlen x = 0) (hl : rlen a = n) (ho : roff a = N) (hM : N + n = M) (h5 : M ≤ 520) (ha : a < 157) : ∃ w2, f_X12_gives w1 157 520 (nI N) a n = some (nI M, w2) ∧ Gv (a + 1) w w2 := by
  obtain ⟨h1, h3, h4⟩ := h
  obtain ⟨r, e, r1, r2, r3⟩ := gv_lp (w := w1) (a := a) (n := n) (off := N) (by omega) (by omega)
  refine ⟨r, ?_, fun x j hx hj => ?_, fun x j hx => ?_, r3.trans h4⟩
  · unfold f_X12_gives
    rw [e, Option.bind_some, show Int32.ofNat n = nI n from rfl, nI_add, hM]
  · by_cases z : x = a
    · subst z
      rw [ho, r1 j (by omega)]
      exact h3 157 _ (Or.inl (by omega))
    · by_cases y : x < A
      · rw [r2 _ _ (by omega)]
        exact h1 x j y hj
      · rw [hs x (by omega) (by omega)] at hj
        omega
  · by_cases z : x = a
    · subst z
      rw [r2 _ _ (by omega)]
      exact h3 x j (Or.inr (by omega))
    · rw [r2 _ _ (by omega)]
      refine h3 x j ?_
      rcases hx with hx | hx
      · exact Or.inl (by omega)
      · exact Or.inr hx
theorem rlen_lo {x : Nat} (h : x < 131) : rlen x = 0 := by
  unfold rlen
  rw [if_neg (by omega), if_neg (by omega), if_neg (by omega), if_neg (by omega), if_neg (by omega), if_neg (by omega), if_neg (by omega), if_neg (by omega), if_neg (by omega)]
theorem rlen_lo' {x : Nat} (h : x ≤ 130) : rlen x = 0 := rlen_lo (by omega)
theorem rlen_hi {x : Nat} (h : 155 ≤ x) : rlen x = 0 := by
  unfold rlen
  rw [if_neg (by omega), if_neg (by omega), if_neg (by omega), if_neg (by omega), if_neg (by omega), if_neg (by omega), if_neg (by omega), if_neg (by omega), if_neg (by omega)]
theorem rl_140 (x : Nat) (h1 : 140 ≤ x) (h2 : x < 141) : rlen x = 0 := by
  have : x = 140 := by omega
  subst this
  rfl
theorem rl_146 (x : Nat) (h1 : 146 ≤ x) (h2 : x < 149) : rlen x = 0 := by
  have : x = 146 ∨ x = 147 ∨ x = 148 := by omega
  rcases this with rfl | rfl | rfl <;> rfl
theorem rl_152 (x : Nat) (h1 : 152 ≤ x) (h2 : x < 153) : rlen x = 0 := by
  have : x = 152 := by omega
  subst this
  rfl
def imW (u : ZW) : ZW := z_upI (z_upI (z_upI (z_upI (z_upI (z_upI u 157 446 (u.1 130 0)) 157 447 (u.1 130 2)) 157 448 (u.1 130 10)) 157 449 (u.1 130 16)) 157 450 (u.1 130 25)) 130 37 1
theorem img446 : z_in (nI 446) 520 = true ∧ z_in (nI 446 + (1 : Int32)) 520 = true ∧ z_in (nI 446 + (2 : Int32)) 520 = true ∧ z_in (nI 446 + (3 : Int32)) 520 = true ∧ z_in (nI 446 + (4 : Int32)) 520 = true := by decide
theorem img447 : (nI 446).toNatClampNeg = 446 ∧ (nI 446 + (1 : Int32)).toNatClampNeg = 447 ∧ (nI 446 + (2 : Int32)).toNatClampNeg = 448 ∧ (nI 446 + (3 : Int32)).toNatClampNeg = 449 ∧ (nI 446 + (4 : Int32)).toNatClampNeg = 450 := by decide
theorem image12 (w : ZW) : ∃ u, f_X12_image w = some (1, imW u) ∧ Sv 155 446 w u := by
  have s0 : Sv 131 0 w w := ⟨fun a j h1 h2 => by rw [rlen_lo h1] at h2; omega, fun a h1 h2 => absurd (rlen_lo h1) h2, fun b k _ => rfl, rfl⟩
  obtain ⟨w1, e1, s1⟩ := sv_step 131 18 18 s0 (fun x h1 h2 => by omega) rfl rfl rfl (by omega) (by omega)
  obtain ⟨w2, e2, s2⟩ := sv_step 132 14 32 s1 (fun x h1 h2 => by omega) rfl rfl rfl (by omega) (by omega)
  obtain ⟨w3, e3, s3⟩ := sv_step 133 14 46 s2 (fun x h1 h2 => by omega) rfl rfl rfl (by omega) (by omega)
  obtain ⟨w4, e4, s4⟩ := sv_step 134 14 60 s3 (fun x h1 h2 => by omega) rfl rfl rfl (by omega) (by omega)
  obtain ⟨w5, e5, s5⟩ := sv_step 135 14 74 s4 (fun x h1 h2 => by omega) rfl rfl rfl (by omega) (by omega)
  obtain ⟨w6, e6, s6⟩ := sv_step 136 14 88 s5 (fun x h1 h2 => by omega) rfl rfl rfl (by omega) (by omega)
  obtain ⟨w7, e7, s7⟩ := sv_step 137 14 102 s6 (fun x h1 h2 => by omega) rfl rfl rfl (by omega) (by omega)
  obtain ⟨w8, e8, s8⟩ := sv_step 138 14 116 s7 (fun x h1 h2 => by omega) rfl rfl rfl (by omega) (by omega)
  obtain ⟨w9, e9, s9⟩ := sv_step 139 36 152 s8 (fun x h1 h2 => by omega) rfl rfl rfl (by omega) (by omega)
  obtain ⟨w10, e10, s10⟩ := sv_step 141 48 200 s9 rl_140 rfl rfl rfl (by omega) (by omega)
  obtain ⟨w11, e11, s11⟩ := sv_step 142 8 208 s10 (fun x h1 h2 => by omega) rfl rfl rfl (by omega) (by omega)
  obtain ⟨w12, e12, s12⟩ := sv_step 143 168 376 s11 (fun x h1 h2 => by omega) rfl rfl rfl (by omega) (by omega)
  obtain ⟨w13, e13, s13⟩ := sv_step 144 14 390 s12 (fun x h1 h2 => by omega) rfl rfl rfl (by omega) (by omega)
  obtain ⟨w14, e14, s14⟩ := sv_step 145 14 404 s13 (fun x h1 h2 => by omega) rfl rfl rfl (by omega) (by omega)
  obtain ⟨w15, e15, s15⟩ := sv_step 149 6 410 s14 rl_146 rfl rfl rfl (by omega) (by omega)
  obtain ⟨w16, e16, s16⟩ := sv_step 150 6 416 s15 (fun x h1 h2 => by omega) rfl rfl rfl (by omega) (by omega)
  obtain ⟨w17, e17, s17⟩ := sv_step 151 6 422 s16 (fun x h1 h2 => by omega) rfl rfl rfl (by omega) (by omega)
  obtain ⟨w18, e18, s18⟩ := sv_step 153 12 434 s17 rl_152 rfl rfl rfl (by omega) (by omega)
  obtain ⟨w19, e19, s19⟩ := sv_step 154 12 446 s18 (fun x h1 h2 => by omega) rfl rfl rfl (by omega) (by omega)
  refine ⟨w19, ?_, s19⟩
  obtain ⟨t0, t1, t2, t3, t4⟩ := img446
  obtain ⟨n0, n1, n2, n3, n4⟩ := img447
  unfold f_X12_image
  rw [show f_X12_saves w 131 18 157 520 (0 : Int32) = some (nI 18, w1) from e1, Option.bind_some, e2, Option.bind_some, e3, Option.bind_some, e4, Option.bind_some, e5, Option.bind_some, e6, Option.bind_some, e7, Option.bind_some, e8, Option.bind_some, e9, Option.bind_some, e10, Option.bind_some, e11, Option.bind_some, e12, Option.bind_some, e13, Option.bind_some, e14, Option.bind_some, e15, Option.bind_some, e16, Option.bind_some, e17, Option.bind_some, e18, Option.bind_some, e19, Option.bind_some]
  dsimp only
  rw [if_pos t0, n0, zl, if_pos t1, n1, zl, if_pos t2, n2, zl, if_pos t3, n3, zl, if_pos t4, n4, zl, zl]
  unfold imW
  simp only [upc (show ¬ (130 = 157 ∧ 2 = 446) by omega), upc (show ¬ (130 = 157 ∧ 10 = 446) by omega), upc (show ¬ (130 = 157 ∧ 16 = 446) by omega), upc (show ¬ (130 = 157 ∧ 25 = 446) by omega), upc (show ¬ (130 = 157 ∧ 10 = 447) by omega), upc (show ¬ (130 = 157 ∧ 16 = 447) by omega), upc (show ¬ (130 = 157 ∧ 25 = 447) by omega), upc (show ¬ (130 = 157 ∧ 16 = 448) by omega), upc (show ¬ (130 = 157 ∧ 25 = 448) by omega), upc (show ¬ (130 = 157 ∧ 25 = 449) by omega)]
def reW (u : ZW) : ZW := z_upI (z_upI (z_upI (z_upI (z_upI u 130 0 (u.1 157 446)) 130 2 (u.1 157 447)) 130 10 (u.1 157 448)) 130 16 (u.1 157 449)) 130 25 (u.1 157 450)
theorem restore12 {w : ZW} (h : ¬ w.1 130 37 = 0) : ∃ u, f_X12_restore w = some (1, reW u) ∧ Gv 155 w u := by
  have s0 : Gv 131 w w := ⟨fun a j h1 h2 => by rw [rlen_lo h1] at h2; omega, fun b k _ => rfl, rfl⟩
  obtain ⟨w1, e1, s1⟩ := gv_step (N := 0) 131 18 18 s0 (by omega) (fun x h1 h2 => by omega) rfl rfl rfl (by omega) (by omega)
  obtain ⟨w2, e2, s2⟩ := gv_step (N := 18) 132 14 32 s1 (by omega) (fun x h1 h2 => by omega) rfl rfl rfl (by omega) (by omega)
  obtain ⟨w3, e3, s3⟩ := gv_step (N := 32) 133 14 46 s2 (by omega) (fun x h1 h2 => by omega) rfl rfl rfl (by omega) (by omega)
  obtain ⟨w4, e4, s4⟩ := gv_step (N := 46) 134 14 60 s3 (by omega) (fun x h1 h2 => by omega) rfl rfl rfl (by omega) (by omega)
  obtain ⟨w5, e5, s5⟩ := gv_step (N := 60) 135 14 74 s4 (by omega) (fun x h1 h2 => by omega) rfl rfl rfl (by omega) (by omega)
  obtain ⟨w6, e6, s6⟩ := gv_step (N := 74) 136 14 88 s5 (by omega) (fun x h1 h2 => by omega) rfl rfl rfl (by omega) (by omega)
  obtain ⟨w7, e7, s7⟩ := gv_step (N := 88) 137 14 102 s6 (by omega) (fun x h1 h2 => by omega) rfl rfl rfl (by omega) (by omega)
  obtain ⟨w8, e8, s8⟩ := gv_step (N := 102) 138 14 116 s7 (by omega) (fun x h1 h2 => by omega) rfl rfl rfl (by omega) (by omega)
  obtain ⟨w9, e9, s9⟩ := gv_step (N := 116) 139 36 152 s8 (by omega) (fun x h1 h2 => by omega) rfl rfl rfl (by omega) (by omega)
  obtain ⟨w10, e10, s10⟩ := gv_step (N := 152) 141 48 200 s9 (by omega) rl_140 rfl rfl rfl (by omega) (by omega)
  obtain ⟨w11, e11, s11⟩ := gv_step (N := 200) 142 8 208 s10 (by omega) (fun x h1 h2 => by omega) rfl rfl rfl (by omega) (by omega)
  obtain ⟨w12, e12, s12⟩ := gv_step (N := 208) 143 168 376 s11 (by omega) (fun x h1 h2 => by omega) rfl rfl rfl (by omega) (by omega)
  obtain ⟨w13, e13, s13⟩ := gv_step (N := 376) 144 14 390 s12 (by omega) (fun x h1 h2 => by omega) rfl rfl rfl (by omega) (by omega)
  obtain ⟨w14, e14, s14⟩ := gv_step (N := 390) 145 14 404 s13 (by omega) (fun x h1 h2 => by omega) rfl rfl rfl (by omega) (by omega)
  obtain ⟨w15, e15, s15⟩ := gv_step (N := 404) 149 6 410 s14 (by omega) rl_146 rfl rfl rfl (by omega) (by omega)
  obtain ⟨w16, e16, s16⟩ := gv_step (N := 410) 150 6 416 s15 (by omega) (fun x h1 h2 => by omega) rfl rfl rfl (by omega) (by omega)
  obtain ⟨w17, e17, s17⟩ := gv_step (N := 416) 151 6 422 s16 (by omega) (fun x h1 h2 => by omega) rfl rfl rfl (by omega) (by omega)
  obtain ⟨w18, e18, s18⟩ := gv_step (N := 422) 153 12 434 s17 (by omega) rl_152 rfl rfl rfl (by omega) (by omega)
  obtain ⟨w19, e19, s19⟩ := gv_step (N := 434) 154 12 446 s18 (by omega) (fun x h1 h2 => by omega) rfl rfl rfl (by omega) (by omega)
  refine ⟨w19, ?_, s19⟩
  obtain ⟨t0, t1, t2, t3, t4⟩ := img446
  obtain ⟨n0, n1, n2, n3, n4⟩ := img447
  unfold f_X12_restore
  rw [if_neg h]
  rw [show f_X12_gives w 157 520 (0 : Int32) 131 18 = some (nI 18, w1) from e1, Option.bind_some, e2, Option.bind_some, e3, Option.bind_some, e4, Option.bind_some, e5, Option.bind_some, e6, Option.bind_some, e7, Option.bind_some, e8, Option.bind_some, e9, Option.bind_some, e10, Option.bind_some, e11, Option.bind_some, e12, Option.bind_some, e13, Option.bind_some, e14, Option.bind_some, e15, Option.bind_some, e16, Option.bind_some, e17, Option.bind_some, e18, Option.bind_some, e19, Option.bind_some]
  dsimp only
  rw [if_pos t0, n0, zl, if_pos t1, n1, zl, if_pos t2, n2, zl, if_pos t3, n3, zl, if_pos t4, n4, zl]
  unfold reW
  simp only [upc (show ¬ (157 = 130 ∧ 447 = 0) by omega), upc (show ¬ (157 = 130 ∧ 448 = 0) by omega), upc (show ¬ (157 = 130 ∧ 448 = 2) by omega), upc (show ¬ (157 = 130 ∧ 449 = 0) by omega), upc (show ¬ (157 = 130 ∧ 449 = 2) by omega), upc (show ¬ (157 = 130 ∧ 449 = 10) by omega), upc (show ¬ (157 = 130 ∧ 450 = 0) by omega), upc (show ¬ (157 = 130 ∧ 450 = 2) by omega), upc (show ¬ (157 = 130 ∧ 450 = 10) by omega), upc (show ¬ (157 = 130 ∧ 450 = 16) by omega)]
theorem imW_157 {u : ZW} {k : Nat} (h : k < 446) : (imW u).1 157 k = u.1 157 k := by
  unfold imW
  rw [upc (by omega), upc (by omega), upc (by omega), upc (by omega), upc (by omega), upc (by omega)]
theorem imW_o {u : ZW} {b k : Nat} (h : b ≠ 157) (h2 : ¬ (b = 130 ∧ k = 37)) : (imW u).1 b k = u.1 b k := by
  unfold imW
  rw [upc (by omega), upc (by omega), upc (by omega), upc (by omega), upc (by omega), upc (by omega)]
theorem imW_s {u : ZW} : (imW u).1 157 446 = u.1 130 0 ∧ (imW u).1 157 447 = u.1 130 2 ∧ (imW u).1 157 448 = u.1 130 10 ∧ (imW u).1 157 449 = u.1 130 16 ∧ (imW u).1 157 450 = u.1 130 25 ∧ (imW u).1 130 37 = 1 := by
  unfold imW
  refine ⟨?_, ?_, ?_, ?_, ?_, upc_e⟩
  · rw [upc (by omega), upc (by omega), upc (by omega), upc (by omega), upc (by omega), upc_e]
  · rw [upc (by omega), upc (by omega), upc (by omega), upc (by omega), upc_e]
  · rw [upc (by omega), upc (by omega), upc (by omega), upc_e]
  · rw [upc (by omega), upc (by omega), upc_e]
  · rw [upc (by omega), upc_e]
theorem reW_o {u : ZW} {b k : Nat} (h : b ≠ 130 ∨ ¬ (k = 0 ∨ k = 2 ∨ k = 10 ∨ k = 16 ∨ k = 25)) : (reW u).1 b k = u.1 b k := by
  unfold reW
  rw [upc (by omega), upc (by omega), upc (by omega), upc (by omega), upc (by omega)]
theorem reW_s {u : ZW} : (reW u).1 130 0 = u.1 157 446 ∧ (reW u).1 130 2 = u.1 157 447 ∧ (reW u).1 130 10 = u.1 157 448 ∧ (reW u).1 130 16 = u.1 157 449 ∧ (reW u).1 130 25 = u.1 157 450 := by
  unfold reW
  refine ⟨?_, ?_, ?_, ?_, upc_e⟩
  · rw [upc (by omega), upc (by omega), upc (by omega), upc (by omega), upc_e]
  · rw [upc (by omega), upc (by omega), upc (by omega), upc_e]
  · rw [upc (by omega), upc (by omega), upc_e]
  · rw [upc (by omega), upc_e]
/-- cells of the model that an image leaves, as cells -/
theorem rlen_z {a j : Nat} (h : j < rlen a) : 131 ≤ a ∧ a < 155 ∧ rlen a ≠ 0 := by
  refine ⟨?_, ?_, by omega⟩
  · rcases Nat.lt_or_ge a 131 with q | q
    · rw [rlen_lo q] at h; omega
    · exact q
  · rcases Nat.lt_or_ge a 155 with q | q
    · exact q
    · rw [rlen_hi q] at h; omega
theorem img_bM {w u : ZW} (h : Sv 155 446 w u) : ∀ a j, bM a j → imgm ((imW u).1 157) a j = w.1 a j := by
  obtain ⟨h1, h2, h3, h4⟩ := h
  obtain ⟨i1, i2, i3, i4, i5, -⟩ := imW_s (u := u)
  intro a j hb
  rcases hb with ⟨rfl, hj⟩ | hj
  · rcases hj with rfl | rfl | rfl | rfl | rfl
    · exact i1.trans (h3 _ _ (by omega))
    · exact i2.trans (h3 _ _ (by omega))
    · exact i3.trans (h3 _ _ (by omega))
    · exact i4.trans (h3 _ _ (by omega))
    · exact i5.trans (h3 _ _ (by omega))
  · obtain ⟨z1, z2, z3⟩ := rlen_z hj
    have := h2 a z2 z3
    rw [imgm_arr _ z3, imW_157 (by omega)]
    exact h1 a j z2 hj
theorem rst_bM {w u : ZW} (h : Gv 155 w u) : ∀ a j, bM a j → (reW u).1 a j = imgm (w.1 157) a j := by
  obtain ⟨h1, h3, h4⟩ := h
  obtain ⟨i1, i2, i3, i4, i5⟩ := reW_s (u := u)
  intro a j hb
  rcases hb with ⟨rfl, hj⟩ | hj
  · rcases hj with rfl | rfl | rfl | rfl | rfl
    · exact i1.trans (h3 _ _ (Or.inl (by omega)))
    · exact i2.trans (h3 _ _ (Or.inl (by omega)))
    · exact i3.trans (h3 _ _ (Or.inl (by omega)))
    · exact i4.trans (h3 _ _ (Or.inl (by omega)))
    · exact i5.trans (h3 _ _ (Or.inl (by omega)))
  · obtain ⟨z1, z2, z3⟩ := rlen_z hj
    rw [reW_o (Or.inl (by omega)), imgm_arr _ z3]
    exact h1 a j z2 hj
theorem sim_image {w : ZW} (h : Rel w) : ∃ r w1 w2, f_X11_image w = some (r, w1) ∧ f_X12_image w1 = some (r, w2) ∧ Rel w2 := by
  obtain ⟨A, hI, hC, hM, hT, hS, hIm⟩ := h
  obtain ⟨r, e, c, l⟩ := takeS w
  obtain ⟨u, e2, s⟩ := image12 (z_upI r 0 2 1)
  have hb := img_bM s
  obtain ⟨i1, i2, i3, i4, i5, i6⟩ := imW_s (u := u)
  have co : ∀ b k, b < 57 → ¬ (b = 0 ∧ k = 2) → (imW u).1 b k = w.1 b k := fun b k h1 h2 => by
    rw [imW_o (by omega) (by omega), s.2.2.1 b k (by omega), upc h2]
    exact c.2 b k (fun q => by have := q.2; omega)
  have cm : ∀ b k, 111 ≤ b → b ≠ 157 → ¬ (b = 130 ∧ k = 37) → (imW u).1 b k = w.1 b k := fun b k h1 h2 h3 => by
    rw [imW_o h2 h3, s.2.2.1 b k h2, upc (by omega)]
    exact c.2 b k (fun q => by have := q.1; unfold bC at this; omega)
  have ll : (imW u).2 = r.2 := s.2.2.2
  have lo : ∀ b k, b < 57 ∨ 111 ≤ b → (imW u).2 b k = w.2 b k := fun b k h1 => by
    rw [ll]
    exact l.2 b k (fun q => by have h2 := q.1; have h3 := q.2; unfold bL at h2; omega)
  refine ⟨1, z_upI r 0 2 1, imW u, ?_, e2, A, hI, fr_StC (fun a j q => co a j ?_ ?_) (fun a j q => lo a j ?_) hC, fr_StM (fun a j q => cm a j ?_ ?_ ?_) hM, fr_T (fun a j q => cm a j ?_ ?_ ?_) hT, fr_Sh (fun a j q => cm a j ?_ ?_ ?_) hS, Or.inr ⟨?_, i6, A, hI, fb_StC hI (fun a j q => ?_) (fun a j q => ?_) hC, fb_StM hI (fun a j q => ?_) hM⟩⟩
  · unfold f_X11_image
    rw [e, Option.bind_some, zl]
  all_goals first
    | (unfold cRC cSC cNC cNiC cGC at q; omega)
    | (unfold cL at q; omega)
    | (unfold cRM cSM cNM cNiM cGM at q; omega)
    | (unfold cT at q; omega)
    | (unfold cSh at q; omega)
    | skip
  · rw [imW_o (by omega) (by omega), s.2.2.1 _ _ (by omega), upc_e]
  · show (imW u).1 (a + 55) j = w.1 a j
    have q2 : 2 ≤ a ∧ a ≤ 55 := by unfold bC at q; omega
    rw [imW_o (by omega) (by omega), s.2.2.1 _ _ (by omega), upc (by omega), c.1 (a + 55) j ⟨by rw [Nat.add_sub_cancel]; exact q, by omega⟩]
    unfold fS
    rw [Nat.add_sub_cancel]
  · show (imW u).2 (a + 55) j = w.2 a j
    have q2 : 2 ≤ a ∧ a ≤ 55 := by unfold bL at q; omega
    rw [ll, l.1 (a + 55) j ⟨by rw [Nat.add_sub_cancel]; exact q, by omega⟩]
    unfold fS
    rw [Nat.add_sub_cancel]
  · rw [hb a j q, upc (by rcases q with q | q; omega; have := rlen_z q; omega)]
    refine c.2 a j (fun q2 => ?_)
    have := q2.1
    unfold bC at this
    rcases q with q | q
    · omega
    · have := rlen_z q
      omega
theorem sim_restore {w : ZW} (h : Rel w) : ∃ r w1 w2, f_X11_restore w = some (r, w1) ∧ f_X12_restore w1 = some (r, w2) ∧ Rel w2 := by
  have h0 := h
  obtain ⟨B, hBI, hBC, hBM, hT, hS, hIm⟩ := h
  rcases hIm with ⟨k1, k2⟩ | ⟨k1, k2, A, hI, hC, hM⟩
  · refine ⟨-4, w, w, ?_, ?_, h0⟩
    · unfold f_X11_restore
      rw [if_pos k1]
    · unfold f_X12_restore
      rw [if_pos k2]
  · obtain ⟨r, e, c, l⟩ := takeR w
    have c130 : r.1 130 37 = w.1 130 37 := c.2 _ _ (fun q => by unfold tCR bC at q; omega)
    obtain ⟨u, e2, s⟩ := restore12 (w := r) (by rw [c130, k2]; exact i10)
    have hb := rst_bM s
    have co : ∀ b k, b ≤ 130 → ¬ (b = 130 ∧ (k = 0 ∨ k = 2 ∨ k = 10 ∨ k = 16 ∨ k = 25)) → (reW u).1 b k = r.1 b k := fun b k h1 h2 => by
      rw [reW_o (by omega)]
      exact s.2.1 b k (Or.inr (by rw [rlen_lo' h1]; omega))
    have cm : ∀ b k, b = 140 ∨ 155 ≤ b → (reW u).1 b k = w.1 b k := fun b k h1 => by
      rw [reW_o (Or.inl (by omega)), s.2.1 b k (by
        rcases h1 with h1 | h1
        · subst h1
          exact Or.inr (by rw [show rlen 140 = 0 from rfl]; omega)
        · exact Or.inl h1)]
      exact c.2 b k (fun q => by unfold tCR bC at q; omega)
    have cn : ∀ b k, b ≤ 130 → ¬ (b = 130 ∧ (k = 0 ∨ k = 2 ∨ k = 10 ∨ k = 16 ∨ k = 25)) → 56 ≤ b ∨ (b = 0) → (reW u).1 b k = w.1 b k := fun b k h1 h2 h3 => by
      rw [co b k h1 h2]
      exact c.2 b k (fun q => by unfold tCR bC at q; omega)
    have ll : (reW u).2 = r.2 := s.2.2
    refine ⟨1, r, reW u, ?_, e2, A, hI, fb_StC hI (fun a j q => ?_) (fun a j q => ?_) hC, fb_StM hI (fun a j q => ?_) hM, fr_T (fun a j q => ?_) hT, fr_Sh (fun a j q => ?_) hS, fr_Im (fun a j q => ?_) (fun a j q => ?_) (Or.inr ⟨k1, k2, A, hI, hC, hM⟩)⟩
    · unfold f_X11_restore
      rw [if_neg (by rw [k1]; exact i10), e, Option.bind_some]
    · have q2 : a ≤ 55 := by unfold bC at q; omega
      rw [co a j (by omega) (by omega), c.1 a j q]
      rfl
    · rw [ll, l.1 a j q]
      rfl
    · rw [hb a j q, show r.1 157 = w.1 157 from funext (fun k => c.2 157 k (fun q => by unfold tCR bC at q; omega))]
    · unfold cT at q
      by_cases z : a = 140
      · exact cm a j (Or.inl z)
      · exact cn a j (by omega) (by omega) (by omega)
    · unfold cSh at q
      by_cases z : 155 ≤ a
      · exact cm a j (Or.inr z)
      · exact cn a j (by omega) (by omega) (by omega)
    · unfold cIm at q
      by_cases z : 155 ≤ a
      · exact cm a j (Or.inr z)
      · exact cn a j (by omega) (by omega) (by omega)
    · unfold cLi at q
      rw [ll]
      exact l.2 a j (fun z => by unfold tLR bL at z; omega)
