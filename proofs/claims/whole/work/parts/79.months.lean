/-! months -/
def gsW (f g : Nat → Int32) (w : ZW) : Nat → ZW
  | 0 => w
  | k + 1 => grC (gsW f g w k) k (f k) (g k)
def gmW (f g : Nat → Int32) (w : ZW) : Nat → ZW
  | 0 => w
  | k + 1 => grM (gmW f g w k) k (f k) (g k)
def gsS (x y : Nat → Nat) (S : ST) : Nat → ST
  | 0 => S
  | k + 1 => grR (gsS x y S k) k (x k) (y k)
theorem gsW_o {f g : Nat → Int32} {w : ZW} {a j : Nat} (h : ¬ (a = 54 ∨ a = 55)) : ∀ k, (gsW f g w k).1 a j = w.1 a j
  | 0 => rfl
  | k + 1 => by
    show (grC (gsW f g w k) k (f k) (g k)).1 a j = _
    unfold grC
    rw [upc (by omega), upc (by omega)]
    exact gsW_o h k
theorem gsW_2 {f g : Nat → Int32} {w : ZW} : ∀ k, (gsW f g w k).2 = w.2
  | 0 => rfl
  | k + 1 => gsW_2 k
theorem gmW_o {f g : Nat → Int32} {w : ZW} {a j : Nat} (h : ¬ (a = 153 ∨ a = 154)) : ∀ k, (gmW f g w k).1 a j = w.1 a j
  | 0 => rfl
  | k + 1 => by
    show (grM (gmW f g w k) k (f k) (g k)).1 a j = _
    unfold grM
    rw [upc (by omega), upc (by omega)]
    exact gmW_o h k
theorem gmW_2 {f g : Nat → Int32} {w : ZW} : ∀ k, (gmW f g w k).2 = w.2
  | 0 => rfl
  | k + 1 => gmW_2 k
theorem gs_all {f g : Nat → Int32} {x y : Nat → Nat} {S : ST} {w w1 : ZW} (hI : GrowI S) (hC : GrowC S w.1) (hM : GrowM S w1.1) : ∀ m, (∀ k, k < m → f k = nI (x k) ∧ g k = nI (y k) ∧ x k ≤ y k ∧ y k ≤ 9999) → GrowI (gsS x y S m) ∧ GrowC (gsS x y S m) (gsW f g w m).1 ∧ GrowM (gsS x y S m) (gmW f g w1 m).1
  | 0, _ => ⟨hI, hC, hM⟩
  | m + 1, h => by
    obtain ⟨h1, h2, h3⟩ := gs_all hI hC hM m (fun k hk => h k (by omega))
    obtain ⟨e1, e2, e3, e4⟩ := h m (by omega)
    show GrowI (grR (gsS x y S m) m (x m) (y m)) ∧ GrowC (grR (gsS x y S m) m (x m) (y m)) (grC (gsW f g w m) m (f m) (g m)).1 ∧ GrowM (grR (gsS x y S m) m (x m) (y m)) (grM (gmW f g w1 m) m (f m) (g m)).1
    rw [e1, e2]
    exact ⟨grI h1 e3 e4, grCC h2, grMM h3⟩
theorem at7 {w : ZW} {s i : Nat} (hs : s < 4) (hi : i < 24) : f_X7_at w (nI s) (nI i) = some (w.1 (126 + s) i) := by
  unfold f_X7_at
  rw [z_in_t hs (by omega), z_in_t hi (by omega), if_pos rfl, if_pos rfl, nI_clamp (show s < 2 ^ 31 by omega), nI_clamp (show i < 2 ^ 31 by omega)]
theorem mul2 {k : Nat} : (2 : Int32) * nI k = nI (2 * k) := by rw [show (2 : Int32) = nI 2 from rfl, pk_mul]
def mF (w : ZW) (s i : Nat) : Nat → Int32 := fun k => w.1 160 (24 * s + i + 2 * k)
def mG (w : ZW) (s i : Nat) : Nat → Int32 := fun k => w.1 160 (24 * s + i + 2 * k + 1)
theorem months11 (w : ZW) (a b c d : Int32) : f_X11_months w a b c d = if (rg 0 3 a && rg 0 2 b && rg 1 12 d) = true then (f_X7_faultOf w a b c ((2 : Int32) * d)).bind (fun r4 : Int32 => if 0 ≤ r4 then (z_iter (f_X11_months_L54 d w a c) z_fuel (0 : Int32)).bind (Sum.elim (fun x : Int32 × ZW => some x) (fun q6 : Unit => (z_iter (f_X11_months_L109 d a c) z_fuel ((0 : Int32), w)).bind (fun q11 : ZW => some (d, q11)))) else some (r4, w)) else some (-1, w) := by
  unfold f_X11_months
  rw [isSheet11, isLane11, within_rg]
  simp only [Option.bind_some, if10]
  cases rg 0 3 a <;> cases rg 0 2 b <;> cases rg 1 12 d <;> rfl
theorem months12 (w : ZW) (a b c d : Int32) : f_X12_months w a b c d = if (rg 0 3 a && rg 0 2 b && rg 1 12 d) = true then (f_X12_finds w a b c ((2 : Int32) * d)).bind (fun r4 : Int32 => if 0 ≤ r4 then (z_iter (f_X12_months_L53 d a c w) z_fuel (0 : Int32)).bind (Sum.elim (fun x : Int32 × ZW => some x) (fun q6 : Unit => (z_iter (f_X12_months_L112 d a c) z_fuel ((0 : Int32), w)).bind (fun q9 : ZW => some (d, q9)))) else some (r4, w)) else some (-1, w) := by
  unfold f_X12_months
  rw [isSheet12, isLane12, in_rg _ _ _ (by decide) (by decide)]
  simp only [Option.bind_some, if10]
  cases rg 0 3 a <;> cases rg 0 2 b <;> cases rg 1 12 d <;> rfl
theorem chk11 {w : ZW} {s i m : Nat} (hs : s < 4) (hi : i + 2 * m ≤ 24) (h6 : ∀ k, k < 24 → w.1 (126 + s) k = w.1 160 (24 * s + k)) : z_iter (f_X11_months_L54 (nI m) w (nI s) (nI i)) z_fuel (0 : Int32) = some (fd (fun k => if cnt (mF w s i k) (mG w s i k) = true then .inr () else .inl (-2, w)) 0 m) := by
  refine it_fd _ m (fun k hk => ?_) ?_ (zf (by omega))
  · unfold f_X11_months_L54
    rw [if_neg (nnle hk), mul2, nI_add, nI_1, at7 hs (by omega), at7 hs (by omega), h6 _ (by omega), h6 _ (by omega), nI_1]
    simp only [Option.bind_some]
    rw [isCount_eq]
    simp only [Option.bind_some, if10]
    have e1 : w.1 160 (24 * s + (i + 2 * k)) = mF w s i k := congrArg (w.1 160) (by omega)
    have e2 : w.1 160 (24 * s + (i + 2 * k + 1)) = mG w s i k := congrArg (w.1 160) (by omega)
    rw [e1, e2]
    by_cases q : cnt (mF w s i k) (mG w s i k) = true
    · rw [if_pos q, if_pos q]; rfl
    · rw [if_neg q, if_neg q]; rfl
  · unfold f_X11_months_L54
    rw [if_pos (Int32.le_refl _)]
theorem chk12 {w : ZW} {s i m : Nat} (hs : s < 4) (hi : i + 2 * m ≤ 24) : z_iter (f_X12_months_L53 (nI m) (nI s) (nI i) w) z_fuel (0 : Int32) = some (fd (fun k => if cnt (mF w s i k) (mG w s i k) = true then .inr () else .inl (-2, w)) 0 m) := by
  refine it_fd _ m (fun k hk => ?_) ?_ (zf (by omega))
  · unfold f_X12_months_L53
    rw [if_neg (nnle hk), mul2, mul24, nI_add, nI_add, nI_1, nI_1, z_in_t (show 24 * s + i + 2 * k < 96 by omega) (by omega), z_in_t (show 24 * s + i + 2 * k + 1 < 96 by omega) (by omega), if_pos rfl, if_pos rfl, nI_clamp (show 24 * s + i + 2 * k < 2 ^ 31 by omega), nI_clamp (show 24 * s + i + 2 * k + 1 < 2 ^ 31 by omega), isMonth_eq]
    simp only [Option.bind_some, if10]
    show (if cnt (mF w s i k) (mG w s i k) = true then _ else _) = _
    by_cases q : cnt (mF w s i k) (mG w s i k) = true
    · rw [if_pos q, if_pos q]; rfl
    · rw [if_neg q, if_neg q]; rfl
  · unfold f_X12_months_L53
    rw [if_pos (Int32.le_refl _)]
theorem put11 {w : ZW} {s i m : Nat} (hs : s < 4) (hm : m ≤ 12) (hi : i + 2 * m ≤ 24) (h6 : ∀ k, k < 24 → w.1 (126 + s) k = w.1 160 (24 * s + k)) : z_iter (f_X11_months_L109 (nI m) (nI s) (nI i)) z_fuel ((0 : Int32), w) = some (gsW (mF w s i) (mG w s i) w m) := by
  rw [show ((0 : Int32), w) = (nI 0, gsW (mF w s i) (mG w s i) w 0) from rfl]
  refine it_count (fun k => (nI k, gsW (mF w s i) (mG w s i) w k)) m _ (fun k hk => ?_) ?_ (zf (by omega))
  · unfold f_X11_months_L109
    simp only []
    rw [if_neg (nnle hk), mul2, nI_add, nI_1, nI_1, at7 hs (by omega), at7 hs (by omega), gsW_o (by omega), gsW_o (by omega), h6 _ (by omega), h6 _ (by omega)]
    simp only [Option.bind_some]
    have e1 : w.1 160 (24 * s + (i + 2 * k)) = mF w s i k := congrArg (w.1 160) (by omega)
    have e2 : w.1 160 (24 * s + (i + 2 * k + 1)) = mG w s i k := congrArg (w.1 160) (by omega)
    rw [e1, e2, put0_eq (by omega)]
    rfl
  · unfold f_X11_months_L109
    simp only []
    rw [if_pos (Int32.le_refl _)]
theorem put12 {w : ZW} {s i m : Nat} (hs : s < 4) (hm : m ≤ 12) (hi : i + 2 * m ≤ 24) : z_iter (f_X12_months_L112 (nI m) (nI s) (nI i)) z_fuel ((0 : Int32), w) = some (gmW (mF w s i) (mG w s i) w m) := by
  rw [show ((0 : Int32), w) = (nI 0, gmW (mF w s i) (mG w s i) w 0) from rfl]
  refine it_count (fun k => (nI k, gmW (mF w s i) (mG w s i) w k)) m _ (fun k hk => ?_) ?_ (zf (by omega))
  · unfold f_X12_months_L112
    simp only []
    rw [if_neg (nnle hk), mul2, mul24, nI_add, nI_add, nI_1, nI_1, z_in_t (show 24 * s + i + 2 * k < 96 by omega) (by omega), z_in_t (show 24 * s + i + 2 * k + 1 < 96 by omega) (by omega), z_in_t (show k < 12 by omega) (by omega), if_pos rfl, if_pos rfl, nI_clamp (show k < 2 ^ 31 by omega), nI_clamp (show 24 * s + i + 2 * k < 2 ^ 31 by omega), nI_clamp (show 24 * s + i + 2 * k + 1 < 2 ^ 31 by omega)]
    simp only [z_let, if_true]
    rw [upc (by omega), gmW_o (by omega), gmW_o (by omega)]
    rfl
  · unfold f_X12_months_L112
    simp only []
    rw [if_pos (Int32.le_refl _)]
theorem sim_months {w : ZW} (h : Rel w) (a b c d : Int32) : ∃ r w1 w2, f_X11_months w a b c d = some (r, w1) ∧ f_X12_months w1 a b c d = some (r, w2) ∧ Rel w2 := by
  have h0 := h
  obtain ⟨A, hA⟩ := h
  obtain ⟨hI, hC, hM, hT, hS, hIm⟩ := id hA
  rw [months11]
  by_cases g : (rg 0 3 a && rg 0 2 b && rg 1 12 d) = true
  · rw [if_pos g]
    have g' := g
    simp only [Bool.and_eq_true] at g'
    obtain ⟨s, hs, rfl⟩ := rg_0 g'.1.1 (by decide)
    obtain ⟨m, m1, m2, rfl⟩ := rg_t g'.2 (by decide) (by decide)
    obtain ⟨a1, a2, ⟨z, a3, a4, a5⟩, a6⟩ := hS s (by omega)
    have ef := fault_eq2 (w := w) (s := s) (z := z) (m := 2 * m) (by omega) a3 (by omega) a4 b c
    have em : ∀ w' : ZW, w'.1 158 s = w.1 158 s → w'.1 159 s = w.1 159 s → f_X12_finds w' (nI s) b c (nI (2 * m)) = some (flt (w.1 123 s) z b c (2 * m)) := fun w' x1 x2 => by
      have := finds_eq2 (w := w') (m := 2 * m) (s := s) (z := z) (by omega) a3 (by omega) (by rw [x1]; exact a2) (by rw [x2]; exact a5) b c
      rw [x1, ← a1] at this
      exact this
    rw [mul2, ef]
    have mm := fun w' => (months12 w' (nI s) b c (nI m)).trans (if_pos g)
    rw [mul2] at mm
    simp only [Option.bind_some]
    rcases flt_cases (ln := w.1 123 s) (a := b) (b := c) (z := z) (m := 2 * m) with ⟨f1, f2, f3, i, rfl, f5⟩ | ⟨f1, -⟩
    · rw [f1, if_pos (show (0 : Int32) ≤ 0 by decide), chk11 (by omega) (by omega) a6, put11 (by omega) m2 (by omega) a6]
      simp only [Option.bind_some]
      rcases fd_all (ρ := Int32 × ZW) (r := (-2, w)) (ok := fun k => cnt (mF w s i k) (mG w s i k)) m 0 with ⟨e1, e2⟩ | e1
      · rw [e1]
        simp only [Sum.elim_inr]
        have ch : ∀ k, k < m → mF w s i k = nI (mF w s i k).toNatClampNeg ∧ mG w s i k = nI (mG w s i k).toNatClampNeg ∧ (mF w s i k).toNatClampNeg ≤ (mG w s i k).toNatClampNeg ∧ (mG w s i k).toNatClampNeg ≤ 9999 := by
          intro k hk
          obtain ⟨x, y, e3, e4, e5, e6⟩ := cnt_t (e2 k (by omega) (by omega))
          rw [e3, e4, nI_clamp (by omega), nI_clamp (by omega)]
          exact ⟨rfl, rfl, e5, e6⟩
        generalize hw1 : gsW (mF w s i) (mG w s i) w m = w1
        have o1 : ∀ x v, ¬ (x = 54 ∨ x = 55) → w1.1 x v = w.1 x v := fun x v h => by rw [← hw1]; exact gsW_o h m
        have l1 : w1.2 = w.2 := by rw [← hw1]; exact gsW_2 m
        have eF : mF w1 s i = mF w s i := funext fun k => o1 _ _ (by omega)
        have eG : mG w1 s i = mG w s i := funext fun k => o1 _ _ (by omega)
        have f1' : ∃ r : Unit, fd (fun k => if cnt (mF w1 s i k) (mG w1 s i k) = true then .inr () else .inl ((-2 : Int32), w1)) 0 m = .inr r := by
          rcases fd_all (ρ := Int32 × ZW) (r := (-2, w1)) (ok := fun k => cnt (mF w1 s i k) (mG w1 s i k)) m 0 with ⟨g1, g2⟩ | g1
          · exact ⟨(), g1⟩
          · obtain ⟨j, j1, j2, j3⟩ := fd_inl _ _ g1
            rw [eF, eG, e2 j j1 j2] at j3
            cases j3
        obtain ⟨u, f1'⟩ := f1'
        refine ⟨nI m, w1, gmW (mF w s i) (mG w s i) w1 m, rfl, ?_, ?_⟩
        · rw [mm, em w1 (o1 _ _ (by omega)) (o1 _ _ (by omega)), f1]
          simp only [Option.bind_some]
          rw [if_pos (show (0 : Int32) ≤ 0 by decide), chk12 (by omega) (by omega), f1', put12 (by omega) m2 (by omega), eF, eG]
          rfl
        · obtain ⟨r1, r2, r3⟩ := gs_all (f := mF w s i) (g := mG w s i) (w := w) (w1 := w1) hI.2.2.2.2 hC.2.2.2.2 (fr_GM (fun a j q => o1 a j (by unfold cGM at q; omega)) hM.2.2.2.2) m ch
          rw [hw1] at r2
          refine Rel_grow hA r1 (fr_GC (fun a j q => gmW_o (by unfold cGC at q; omega) m) r2) r3 (fun a j q => ?_) ((gmW_2 m).trans l1)
          rw [gmW_o (by omega), o1 _ _ (by omega)]
      · rw [e1]
        refine ⟨-2, w, w, rfl, ?_, h0⟩
        rw [mm, em w rfl rfl, f1]
        simp only [Option.bind_some]
        rw [if_pos (show (0 : Int32) ≤ 0 by decide), chk12 (by omega) (by omega), e1]
        rfl
    · rw [if_neg f1]
      refine ⟨_, w, w, rfl, ?_, h0⟩
      rw [mm, em w rfl rfl]
      exact if_neg f1
  · rw [if_neg g]
    exact ⟨_, w, w, rfl, (months12 w a b c d).trans (if_neg g), h0⟩
