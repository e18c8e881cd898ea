/-! order: the path of choices; the class's plan -/
def lfp (S : ST) (M all : Nat) : Nat → Nat
  | 0 => all
  | n + 1 => ndn (lfp S M all n) (och S M (11 - n) (lfp S M all n))
def chp (S : ST) (M all n : Nat) : Nat := och S M (11 - n) (lfp S M all n)
theorem lfp_s {S : ST} {M all n : Nat} : lfp S M all (n + 1) = ndn (lfp S M all n) (chp S M all n) := rfl
theorem lfp_ok {P : Nat} {S : ST} (hI : NightI P S) {M all : Nat} (hM : 100000 ≤ M) (ha : all < 64) : ∀ n, n ≤ 12 → lfp S M all n ≤ all ∧ ob S M (12 - n) (lfp S M all n) ≤ 14256
  | 0, _ => ⟨Nat.le_refl _, ob_feas hI hM 12 all ha (Nat.le_refl _) (fun h => by omega)⟩
  | n + 1, h => by
    obtain ⟨h1, h2⟩ := lfp_ok hI hM ha n (by omega)
    rw [show 12 - n = 11 - n + 1 by omega] at h2
    obtain ⟨c1, c2, c3, -⟩ := och_ok (S := S) (B := M) (k := 11 - n) (left := lfp S M all n) (by omega)
    rw [lfp_s]
    unfold chp
    have l := ndn_le (a := lfp S M all n) (b := och S M (11 - n) (lfp S M all n))
    rw [show 12 - (n + 1) = 11 - n by omega]
    exact ⟨by omega, by omega⟩
theorem chp_ok {P : Nat} {S : ST} (hI : NightI P S) {M all : Nat} (hM : 100000 ≤ M) (ha : all < 64) {n : Nat} (hn : n < 12) : chp S M all n < 64 ∧ (∀ p, (chp S M all n).testBit p = true → (lfp S M all n).testBit p = true) ∧ ob S M (11 - n + 1) (lfp S M all n) < M := by
  obtain ⟨h1, h2⟩ := lfp_ok hI hM ha n (by omega)
  rw [show 12 - n = 11 - n + 1 by omega] at h2
  obtain ⟨c1, c2, c3, -⟩ := och_ok (S := S) (B := M) (k := 11 - n) (left := lfp S M all n) (by omega)
  refine ⟨c1, ((okv_iff ?_).mp c2).1, by omega⟩
  omega
theorem lfp_bit {P : Nat} {S : ST} (hI : NightI P S) {M all : Nat} (hM : 100000 ≤ M) (ha : all < 64) (p : Nat) : ∀ n, n ≤ 12 → ((lfp S M all n).testBit p = true ↔ all.testBit p = true ∧ ∀ m, m < n → (chp S M all m).testBit p = false)
  | 0, _ => ⟨fun h => ⟨h, fun m hm => by omega⟩, fun h => h.1⟩
  | n + 1, h => by
    have ih := lfp_bit hI hM ha p n (by omega)
    have l := (lfp_ok hI hM ha n (by omega)).1
    rw [lfp_s, ndn_bit (by omega), Bool.and_eq_true, ih, Bool.not_eq_true']
    constructor
    · rintro ⟨⟨h1, h2⟩, h3⟩
      refine ⟨h1, fun m hm => ?_⟩
      by_cases z : m = n
      · subst z; exact h3
      · exact h2 m (by omega)
    · rintro ⟨h1, h2⟩
      exact ⟨⟨h1, fun m hm => h2 m (by omega)⟩, h2 n (by omega)⟩
theorem chp_all {P : Nat} {S : ST} (hI : NightI P S) {M all : Nat} (hM : 100000 ≤ M) (ha : all < 64) {p : Nat} (hp : all.testBit p = true) : ∃ m, m < 12 ∧ (chp S M all m).testBit p = true := by
  refine Classical.byContradiction (fun c => ?_)
  have h2 := (lfp_ok hI hM ha 12 (Nat.le_refl _)).2
  have z : lfp S M all 12 = 0 := Classical.byContradiction (fun y => by
    have e : ob S M (12 - 12) (lfp S M all 12) = M := if_neg y
    omega)
  have := (lfp_bit hI hM ha p 12 (Nat.le_refl _)).mpr ⟨hp, fun m hm => by
    cases q : (chp S M all m).testBit p
    · rfl
    · exact absurd ⟨m, hm, q⟩ c⟩
  rw [z, Nat.zero_testBit] at this
  cases this
theorem chp_one {P : Nat} {S : ST} (hI : NightI P S) {M all : Nat} (hM : 100000 ≤ M) (ha : all < 64) {p m n : Nat} (hn : n < 12) (hm : m < n) (h : (chp S M all n).testBit p = true) : (chp S M all m).testBit p = false :=
  ((lfp_bit hI hM ha p n (by omega)).mp ((chp_ok hI hM ha hn).2.1 p h)).2 m hm
theorem fc_in {w : ZW} {c n : Nat} (hc : c < 64) (s3 : Int32 × Int32 × ZW) (h3 : s3.2.1 = nI n) : ∃ r, z_iter (f_X3_followChoices_L35 (nI c) s3) z_fuel ((0 : Int32), w) = some r ∧ (∀ b j, b ≠ 52 → r.1 b j = w.1 b j) ∧ r.2 = w.2 ∧ ∀ p, r.1 52 p = if p < 6 ∧ c.testBit p = true then nI n else w.1 52 p := by
  refine it_inv (fun i (s : Int32 × ZW) => s.1 = nI i ∧ (∀ b j, b ≠ 52 → s.2.1 b j = w.1 b j) ∧ s.2.2 = w.2 ∧ ∀ p, s.2.1 52 p = if p < i ∧ c.testBit p = true then nI n else w.1 52 p) _ 6 (fun i s hi hQ => ?_) (fun s hQ => ?_) (zf (by omega)) ⟨rfl, fun b j _ => rfl, rfl, fun p => by rw [if_neg (by omega)]⟩
  · obtain ⟨p1, p2, p3, p4⟩ := hQ
    obtain ⟨x, u⟩ := s
    dsimp only at p1 p2 p3 p4
    subst p1
    left
    have e := nI_bit0 (b := c) (k := i) (by omega) (by omega)
    unfold f_X3_followChoices_L35
    dsimp only
    rw [show (6 : Int32) = nI 6 from rfl, if_neg (nnle hi), z_in_t hi (by omega), if_pos rfl, nI_clamp (show i < 2 ^ 31 by omega), h3, zl, nI_1]
    by_cases q : c.testBit i = true
    · rw [if_neg (fun h => by rw [e.mp h] at q; cases q)]
      refine ⟨_, rfl, rfl, fun b j h => by rw [upc (by omega)]; exact p2 b j h, p3, fun p => ?_⟩
      by_cases z : p = i
      · subst z
        rw [if_pos ⟨by omega, q⟩]
        exact upc_e
      · rw [upc (by omega), p4 p]
        by_cases y : p < i ∧ c.testBit p = true
        · rw [if_pos y, if_pos ⟨by omega, y.2⟩]
        · rw [if_neg y, if_neg (fun h => y ⟨by omega, h.2⟩)]
    · have qf : c.testBit i = false := by simpa using q
      rw [if_pos (e.mpr qf)]
      refine ⟨_, rfl, rfl, p2, p3, fun p => ?_⟩
      rw [p4 p]
      by_cases y : p < i ∧ c.testBit p = true
      · rw [if_pos y, if_pos ⟨by omega, y.2⟩]
      · rw [if_neg y, if_neg (fun h => y ⟨by
          by_cases z : p = i
          · subst z; exact absurd h.2 q
          · omega, h.2⟩)]
  · obtain ⟨p1, p2, p3, p4⟩ := hQ
    obtain ⟨x, u⟩ := s
    dsimp only at p1 p2 p3 p4
    subst p1
    refine ⟨u, ?_, p2, p3, p4⟩
    unfold f_X3_followChoices_L35
    dsimp only
    rw [show (6 : Int32) = nI 6 from rfl, if_pos (Int32.le_refl _)]
theorem fc_lp {P : Nat} {S : ST} {w : ZW} (hI : NightI P S) (hP : P ≤ 6) {M all : Nat} (hM : 100000 ≤ M) (ha : all + 1 = 2 ^ P) (hrow : ∀ m, m < 12 → ∀ x, x < 2 ^ P → w.1 (50 - m) x = nI (och S M m x)) : ∃ r, z_iter f_X3_followChoices_L16 z_fuel (nI all, (0 : Int32), w) = some r ∧ (∀ b j, b ≠ 52 → r.1 b j = w.1 b j) ∧ r.2 = w.2 ∧ ∀ m p, m < 12 → p < 6 → (chp S M all m).testBit p = true → r.1 52 p = nI m := by
  have h64 := p64 hP
  refine it_inv (fun n (s : Int32 × Int32 × ZW) => s.1 = nI (lfp S M all n) ∧ s.2.1 = nI n ∧ (∀ b j, b ≠ 52 → s.2.2.1 b j = w.1 b j) ∧ s.2.2.2 = w.2 ∧ ∀ m p, m < n → p < 6 → (chp S M all m).testBit p = true → s.2.2.1 52 p = nI m) _ 12 (fun n s hn hQ => ?_) (fun s hQ => ?_) (zf (by omega)) ⟨rfl, rfl, fun b j _ => rfl, rfl, fun m p hm => by omega⟩
  · obtain ⟨p1, p2, p3, p4, p5⟩ := hQ
    obtain ⟨x, y, u⟩ := s
    dsimp only at p1 p2 p3 p4 p5
    subst p1 p2
    left
    have l := (lfp_ok hI hM (show all < 64 by omega) n (by omega)).1
    obtain ⟨c1, c2, c3⟩ := chp_ok hI hM (show all < 64 by omega) hn
    have ec : u.1 (39 + n) (lfp S M all n) = nI (chp S M all n) := by
      rw [p3 _ _ (by omega), show 39 + n = 50 - (11 - n) by omega]
      exact hrow (11 - n) (by omega) _ (by omega)
    obtain ⟨r, e, r1, r2, r3⟩ := fc_in (w := u) c1 (nI (lfp S M all n), nI n, u) rfl
    refine ⟨(nI (lfp S M all (n + 1)), nI (n + 1), r), ?_, rfl, rfl, fun b j h => (r1 b j h).trans (p3 b j h), r2.trans p4, fun m p hm hp hb => ?_⟩
    · unfold f_X3_followChoices_L16
      dsimp only
      rw [show (12 : Int32) = nI 12 from rfl, if_neg (nnle hn), z_in_t hn (by omega), if_pos rfl, z_in_t (show lfp S M all n < 64 by omega) (by omega), if_pos rfl, nI_clamp (show n < 2 ^ 31 by omega), nI_clamp (show lfp S M all n < 2 ^ 31 by omega), ec, zl, e, Option.bind_some, zl, nI_ndn, nI_1, lfp_s]
    · rw [r3 p]
      by_cases z : m = n
      · subst z
        rw [if_pos ⟨hp, hb⟩]
      · rw [if_neg (fun h => by
          have := chp_one hI hM (show all < 64 by omega) hn (show m < n by omega) h.2
          rw [hb] at this
          cases this)]
        exact p5 m p (by omega) hp hb
  · obtain ⟨p1, p2, p3, p4, p5⟩ := hQ
    obtain ⟨x, y, u⟩ := s
    dsimp only at p1 p2 p3 p4 p5
    subst p1 p2
    refine ⟨u, ?_, p3, p4, p5⟩
    unfold f_X3_followChoices_L16
    dsimp only
    rw [show (12 : Int32) = nI 12 from rfl, if_pos (Int32.le_refl _)]
theorem fill_any {w : ZW} {b n : Nat} (a : Int32) (hn : n < 1000) : ∃ r, f_J7_fill_53178 w b n a = some r ∧ (∀ j, j < n → r.1 b j = a) ∧ (∀ c j, c ≠ b → r.1 c j = w.1 c j) ∧ r.2 = w.2 := by
  have key : ∃ r, z_iter (f_J7_fill_53178_L5 n b a) z_fuel ((0 : Int32), w) = some r ∧ (∀ j, j < n → r.1 b j = a) ∧ (∀ c j, c ≠ b → r.1 c j = w.1 c j) ∧ r.2 = w.2 := by
    refine it_inv (fun i (s : Int32 × ZW) => s.1 = nI i ∧ (∀ j, j < i → s.2.1 b j = a) ∧ (∀ c j, c ≠ b → s.2.1 c j = w.1 c j) ∧ s.2.2 = w.2) _ n (fun i s hi hQ => ?_) (fun s hQ => ?_) (zf (by omega)) ⟨rfl, fun j hj => by omega, fun c j _ => rfl, rfl⟩
    · obtain ⟨p1, p2, p3, p4⟩ := hQ
      obtain ⟨x, u⟩ := s
      dsimp only at p1 p2 p3 p4
      subst p1
      left
      refine ⟨(nI (i + 1), z_upI u b i a), ?_, rfl, fun j hj => ?_, fun c j h => by rw [upc (by omega)]; exact p3 c j h, p4⟩
      · unfold f_J7_fill_53178_L5
        dsimp only
        rw [show Int32.ofNat n = nI n from rfl, if_neg (nnle hi), z_in_t hi (by omega), if_pos rfl, nI_clamp (show i < 2 ^ 31 by omega), zl, nI_1]
      · by_cases z : j = i
        · subst z; exact upc_e
        · rw [upc (by omega)]
          exact p2 j (by omega)
    · obtain ⟨p1, p2, p3, p4⟩ := hQ
      obtain ⟨x, u⟩ := s
      dsimp only at p1 p2 p3 p4
      subst p1
      refine ⟨u, ?_, p2, p3, p4⟩
      unfold f_J7_fill_53178_L5
      dsimp only
      rw [show Int32.ofNat n = nI n from rfl, if_pos (Int32.le_refl _)]
  obtain ⟨r, e, h⟩ := key
  refine ⟨r, ?_, h⟩
  unfold f_J7_fill_53178
  rw [e]
  rfl
theorem r37 : 25 + (12 : Int32).toNatClampNeg = 37 := by decide
theorem r25 : 25 + (0 : Int32).toNatClampNeg = 25 := by decide
theorem in1213 : z_in (12 : Int32) 13 = true := by decide
theorem in064 : z_in (0 : Int32) 64 = true := by decide
theorem in013 : z_in (0 : Int32) 13 = true := by decide
theorem all1 {P all : Nat} (ha : all + 1 = 2 ^ P) : nI (2 ^ P) - (1 : Int32) = nI all := by
  rw [← ha, ← nI_1, Int32.add_sub_cancel]
theorem plan11 {P : Nat} {S : ST} {w : ZW} (hI : NightI P S) (hP : P ≤ 6) (hC : NightC S w.1) {M all : Nat} (hM : M = 1000000) (ha : all + 1 = 2 ^ P) : ∃ r, f_X3_plan w (nI P) = some r ∧ (∀ b j, ¬ ((b = 20 ∧ j = 8) ∨ (25 ≤ b ∧ b ≤ 52)) → r.1 b j = w.1 b j) ∧ r.2 = w.2 ∧ r.1 20 8 = nI (ob S M 12 all) ∧ ∀ m p, m < 12 → p < 6 → (chp S M all m).testBit p = true → r.1 52 p = nI m := by
  have h64 := p64 hP
  have eA := all1 ha
  obtain ⟨r1, e1, f1, f2, f3⟩ := fill_any (w := w) (b := 37) (n := 64) (1000000 : Int32) (by omega)
  have hC1 : NightC S (z_upI r1 37 0 0).1 := fr_NiC (fun a j z => by rw [upc (by unfold cNiC at z; omega), f2 a j (by unfold cNiC at z; omega)]) hC
  obtain ⟨r2, e2, g1, g2, g3, g4⟩ := plan_lp (w := z_upI r1 37 0 0) hI hP hC1 hM (fun x hx => by
    by_cases z : x = 0
    · subst z
      rw [upc_e]
      rfl
    · rw [upc (by omega), f1 x (by omega), show ob S M 0 x = M from if_neg z, hM]
      rfl)
  obtain ⟨r3, e3, i1, i2, i3⟩ := fc_lp (w := z_upI r2 20 8 (r2.1 25 all)) hI hP (show 100000 ≤ M by omega) ha (fun m hm x hx => by
    rw [upc (by omega)]
    exact g4 m hm x hx)
  refine ⟨r3, ?_, fun b j h => ?_, ?_, ?_, i3⟩
  · unfold f_X3_plan
    rw [nI_shl1 (by omega), zl, if_pos in1213, r37, e1, Option.bind_some, if_pos in1213, if_pos in064, tn0, zl, e2, Option.bind_some, eA]
    unfold f_X3_followChoices
    rw [if_pos in013, z_in_t (show all < 64 by omega) (by omega), if_pos rfl, tn0, nI_clamp (show all < 2 ^ 31 by omega), zl, e3]
    rfl
  · rw [i1 b j (by omega), upc (by omega), g1 b j (by omega), upc (by omega)]
    exact f2 b j (by omega)
  · exact i2.trans (g2.trans f3)
  · rw [i1 20 8 (by omega), upc_e]
    have := g3 12 (Nat.le_refl _) all (by omega)
    rw [show 37 - 12 = 25 from rfl] at this
    exact this
