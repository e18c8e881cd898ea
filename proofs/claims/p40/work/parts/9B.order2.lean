/-! order: class -/
theorem mI {a b : Nat} : nI a * nI b = nI (a * b) := by rw [pk_mul]
theorem cow11 {P : Nat} {S : ST} {w : ZW} (hC : NightC S w.1) {b n : Nat} (hb : b < 64) : f_X3_costOfWaiting w (nI b) (nI n) = some (nI (wt S n b)) := by
  unfold f_X3_costOfWaiting
  rw [show ((0 : Int32), (0 : Int32)) = (nI (wtn S n b 0), nI 0) from rfl, it_count (fun p => (nI (wtn S n b p), nI p)) 6 (nI (wt S n b)) ?_ ?_ (zf (by omega))]
  · rfl
  · intro p hp
    obtain ⟨h1, h2, h3⟩ := hC.2 p hp
    unfold f_X3_costOfWaiting_L5
    dsimp only
    rw [show (6 : Int32) = nI 6 from rfl, if_neg (nnle hp), z_in_t hp (by omega), if_pos rfl, if_pos rfl, nI_clamp (show p < 2 ^ 31 by omega), h1, h2, mI, nI_add, nI_add, zl, nI_1, wtn_s]
    have e := nI_bit0 (b := b) (k := p) (by omega) (by omega)
    cases q : b.testBit p
    · rw [if_pos (e.mpr q), if_neg (by simp)]
      rfl
    · rw [if_neg (fun h => by rw [e.mp h] at q; cases q), if_pos rfl]
  · unfold f_X3_costOfWaiting_L5
    dsimp only
    rw [show (6 : Int32) = nI 6 from rfl, if_pos (Int32.le_refl _)]
    rfl
def opn (S : ST) (n : Nat) : Nat → Nat
  | 0 => 0
  | p + 1 => if S 3 p ≤ n then opn S n p ||| 2 ^ p else opn S n p
theorem opn_s {S : ST} {n p : Nat} : opn S n (p + 1) = if S 3 p ≤ n then opn S n p ||| 2 ^ p else opn S n p := rfl
theorem opn_bit {S : ST} {n i : Nat} : ∀ p, (opn S n p).testBit i = true ↔ i < p ∧ S 3 i ≤ n
  | 0 => ⟨(fun h => by rw [show opn S n 0 = 0 from rfl, Nat.zero_testBit] at h; cases h), (fun h => by omega)⟩
  | p + 1 => by
    have ih := opn_bit (S := S) (n := n) (i := i) p
    rw [opn_s]
    by_cases q : S 3 p ≤ n
    · rw [if_pos q, Nat.testBit_or, Nat.testBit_two_pow, Bool.or_eq_true, ih, decide_eq_true_eq]
      constructor
      · rintro (⟨h1, h2⟩ | h)
        · exact ⟨by omega, h2⟩
        · subst h; exact ⟨by omega, q⟩
      · rintro ⟨h1, h2⟩
        by_cases z : p = i
        · exact Or.inr z
        · exact Or.inl ⟨by omega, h2⟩
    · rw [if_neg q, ih]
      constructor
      · rintro ⟨h1, h2⟩
        exact ⟨by omega, h2⟩
      · rintro ⟨h1, h2⟩
        refine ⟨?_, h2⟩
        by_cases z : i = p
        · subst z; exact absurd h2 q
        · omega
theorem opn_lt {S : ST} {n p : Nat} (hp : p ≤ 6) : opn S n p < 64 := by
  refine Nat.lt_pow_two_of_testBit (n := 6) _ (fun i hi => ?_)
  cases q : (opn S n p).testBit i
  · rfl
  · have := ((opn_bit p).mp q).1
    omega
theorem opn11 {P : Nat} {S : ST} (hI : NightI P S) (hP : P ≤ 6) {n : Nat} (hn : n ≤ 11) (s6 : Int32 × ZW) (h6 : s6.1 = nI n) (hC : NightC S s6.2.1) : z_iter (f_X3_plan_L39 (nI P) s6) z_fuel ((0 : Int32), (0 : Int32)) = some (nI (opn S n P)) := by
  refine it_count (fun p => (nI (opn S n p), nI p)) P _ (fun p hp => ?_) ?_ (zf (by omega))
  · obtain ⟨h1, h2, h3⟩ := hC.2 p (by omega)
    have ht := (hI.2 p (by omega)).2.2.1
    unfold f_X3_plan_L39
    dsimp only
    rw [if_neg (nnle hp), z_in_t (show p < 6 by omega) (by omega), if_pos rfl, nI_clamp (show p < 2 ^ 31 by omega), h3, h6, ilt (by omega) (by omega), nI_shl1 (by omega), nI_or, zl, show (0 : Int32) = nI 0 from rfl, nI_or, Nat.or_zero, nI_1, opn_s]
    by_cases q : S 3 p ≤ n
    · rw [if_neg (by omega), if_pos q]
    · rw [if_pos (by omega), if_neg q]
  · unfold f_X3_plan_L39
    dsimp only
    rw [if_pos (Int32.le_refl _)]
theorem okc_iff {P : Nat} {S : ST} (hP : P ≤ 6) {n left s : Nat} (hl : left < 2 ^ P) (hs : s < 64) : (ndn s (left &&& opn S n P) = 0 ∧ pc14 s ≤ S 0 0) ↔ okv S n left s = true := by
  rw [okv_iff (by omega), sbq_iff (by omega)]
  constructor
  · rintro ⟨h1, h2⟩
    refine ⟨fun i hi => ?_, h2, fun i _ hi => ?_⟩
    · have := h1 i hi
      rw [Nat.testBit_and, Bool.and_eq_true] at this
      exact this.1
    · have := h1 i hi
      rw [Nat.testBit_and, Bool.and_eq_true] at this
      exact ((opn_bit P).mp this.2).2
  · rintro ⟨h1, h2, h3⟩
    refine ⟨fun i hi => ?_, h2⟩
    have a := h1 i hi
    have b := bit_lt hl a
    rw [Nat.testBit_and, Bool.and_eq_true]
    exact ⟨a, (opn_bit P).mpr ⟨b, h3 i (by omega) hi⟩⟩
theorem okv_le {S : ST} {n left s : Nat} (hs : s < 2 ^ 14) (h : okv S n left s = true) : s ≤ left := Nat.le_of_testBit ((okv_iff hs).mp h).1
theorem okv_big {S : ST} {n left s : Nat} (hs : s < 2 ^ 14) (h : left < s) : okv S n left s = false := by
  cases q : okv S n left s
  · rfl
  · have := okv_le hs q
    omega
theorem foldm_out2 {ok : Nat → Bool} {v : Nat → Nat} {B a : Nat} : ∀ d, (∀ s, a ≤ s → s < a + d → ok s = false) → foldm ok v B (a + d) = foldm ok v B a ∧ argm ok v B (a + d) = argm ok v B a
  | 0, _ => ⟨rfl, rfl⟩
  | d + 1, h => by
    obtain ⟨h1, h2⟩ := foldm_out2 (ok := ok) (v := v) (B := B) (a := a) d (fun s h1 h2 => h s h1 (by omega))
    rw [← Nat.add_assoc, foldm_s, argm_s, if_neg (by rw [h (a + d) (by omega) (by omega)]; simp), if_neg (by rw [h (a + d) (by omega) (by omega)]; simp)]
    exact ⟨h1, h2⟩
theorem p64 {P : Nat} (hP : P ≤ 6) : 2 ^ P ≤ 64 := Nat.pow_le_pow_right (n := 2) (by omega) hP
theorem cb_lp {P : Nat} {S : ST} {w : ZW} (hI : NightI P S) (hP : P ≤ 6) (hc : w.1 20 0 = nI (S 0 0)) {k left M : Nat} (hM : M = 1000000) (hk : k ≤ 11) (hl : left < 2 ^ P) (h51 : ∀ x, x < 2 ^ P → w.1 51 x = nI (wt S (11 - k) x)) (hrow : ∀ x, x < 2 ^ P → w.1 (37 - k) x = nI (ob S M k x)) : z_iter (f_X3_chooseBest_L10 (nI left) (nI (opn S (11 - k) P)) w (nI (11 - k))) z_fuel (nI M, (0 : Int32), (0 : Int32)) = some (nI (ob S M (k + 1) left), nI (och S M k left)) := by
  have h64 := p64 hP
  have hC := hI.1
  have e := foldm_out2 (ok := okv S (11 - k) left) (v := fun s => wt S (11 - k) (ndn left s) + ob S M k (ndn left s)) (B := M) (a := left + 1) (63 - left) (fun s h1 h2 => okv_big (by omega) (by omega))
  rw [show left + 1 + (63 - left) = 64 by omega] at e
  have hok : ∀ i, i ≤ left → ((ndn i (left &&& opn S (11 - k) P) = 0 ∧ pc14 i ≤ S 0 0) ↔ okv S (11 - k) left i = true) := fun i hi => okc_iff hP hl (by omega)
  have hv : ∀ i, i ≤ left → w.1 51 (ndn left i) + w.1 (37 - k) (ndn left i) = nI (wt S (11 - k) (ndn left i) + ob S M k (ndn left i)) ∧ wt S (11 - k) (ndn left i) + ob S M k (ndn left i) ≤ 1188 + M := fun i hi => by
    have l : ndn left i < 2 ^ P := Nat.lt_of_le_of_lt ndn_le hl
    have b1 := wt_le hI (n := 11 - k) (ndn left i) (by omega)
    have b2 := ob_B (S := S) (B := M) k (ndn left i)
    rw [h51 _ l, hrow _ l, nI_add]
    exact ⟨rfl, by omega⟩
  unfold och
  rw [ob_s, e.1, e.2]
  clear e h51 hrow
  generalize okv S (11 - k) left = ok at hok ⊢
  have hv' : ∀ i, i ≤ left → w.1 51 (ndn left i) + w.1 (37 - k) (ndn left i) = nI ((fun s => wt S (11 - k) (ndn left s) + ob S M k (ndn left s)) i) ∧ (fun s => wt S (11 - k) (ndn left s) + ob S M k (ndn left s)) i ≤ 1188 + M := hv
  generalize (fun s => wt S (11 - k) (ndn left s) + ob S M k (ndn left s)) = v at hv' ⊢
  clear hv
  refine it_count (fun i => (nI (foldm ok v M i), nI (argm ok v M i), nI i)) (left + 1) _ (fun i hi => ?_) ?_ (zf (by omega))
  · have fB := foldm_B (ok := ok) (v := v) (B := M) i
    obtain ⟨v1, v2⟩ := hv' i (by omega)
    have ho := hok i (by omega)
    have l : ndn left i < 2 ^ P := Nat.lt_of_le_of_lt ndn_le hl
    have pl := pc_le (b := i)
    have z0 : nI (ndn i (left &&& opn S (11 - k) P)) = 0 ↔ ndn i (left &&& opn S (11 - k) P) = 0 := nI_inj (by have := ndn_le (a := i) (b := left &&& opn S (11 - k) P); omega) (show 0 < 2 ^ 31 by omega)
    unfold f_X3_chooseBest_L10
    dsimp only
    rw [ilt (by omega) (by omega), if_neg (by omega), nI_and, nI_ndn, nI_ndn, bitCount_eq (show i < 2 ^ 14 by omega), Option.bind_some, hc, ilt (by omega) (by omega), zl, z_in_t (show ndn left i < 64 by omega) (by omega), nI_1, nI_1, z_in_t (show 11 - k + 1 < 13 by omega) (by omega), if_pos rfl, if_pos rfl, if_pos rfl, nI_clamp (show ndn left i < 2 ^ 31 by omega), nI_clamp (show 11 - k + 1 < 2 ^ 31 by omega), show 25 + (11 - k + 1) = 37 - k by omega, v1, zl, ile (by omega) (by omega), foldm_s, argm_s]
    by_cases q1 : ndn i (left &&& opn S (11 - k) P) = 0
    · rw [if_pos (z0.mpr q1)]
      by_cases q2 : pc14 i ≤ S 0 0
      · have o := ho.mp ⟨q1, q2⟩
        rw [if_neg (by omega)]
        by_cases q3 : v i < foldm ok v M i
        · rw [if_neg (by omega), if_pos ⟨o, q3⟩, if_pos ⟨o, q3⟩]
        · rw [if_pos (by omega), if_neg (fun h => q3 h.2), if_neg (fun h => q3 h.2)]
      · rw [if_pos (by omega), if_neg (fun h => q2 (ho.mpr h.1).2), if_neg (fun h => q2 (ho.mpr h.1).2)]
    · rw [if_neg (fun h => q1 (z0.mp h)), if_neg (fun h => q1 (ho.mpr h.1).1), if_neg (fun h => q1 (ho.mpr h.1).1)]
  · unfold f_X3_chooseBest_L10
    dsimp only
    rw [ilt (by omega) (by omega), if_pos (by omega)]
theorem cb11 {P : Nat} {S : ST} {w : ZW} (hI : NightI P S) (hP : P ≤ 6) (hc : w.1 20 0 = nI (S 0 0)) {k left M : Nat} (hM : M = 1000000) (hk : k ≤ 11) (hl : left < 2 ^ P) (h51 : ∀ x, x < 2 ^ P → w.1 51 x = nI (wt S (11 - k) x)) (hrow : ∀ x, x < 2 ^ P → w.1 (37 - k) x = nI (ob S M k x)) : f_X3_chooseBest w (nI (11 - k)) (nI left) (nI (opn S (11 - k) P)) = some (z_upI (z_upI w (36 - k) left (nI (ob S M (k + 1) left))) (50 - k) left (nI (och S M k left))) := by
  have h64 := p64 hP
  have lp := cb_lp hI hP hc hM hk hl h51 hrow
  rw [show nI M = (1000000 : Int32) by rw [hM]; rfl] at lp
  unfold f_X3_chooseBest
  rw [lp, Option.bind_some, z_in_t (show 11 - k < 13 by omega) (by omega), if_pos rfl, z_in_t (show left < 64 by omega) (by omega), if_pos rfl, nI_clamp (show left < 2 ^ 31 by omega), nI_clamp (show 11 - k < 2 ^ 31 by omega), zl, z_in_t (show 11 - k < 12 by omega) (by omega), if_pos rfl, if_pos rfl, zl, show 25 + (11 - k) = 36 - k by omega, show 39 + (11 - k) = 50 - k by omega]
/-- what waits, for all sets -/
theorem wait_lp {P : Nat} {S : ST} {w : ZW} (hP : P ≤ 6) (hC : NightC S w.1) {n : Nat} (s6 : Int32 × ZW) (h6 : s6.1 = nI n) : ∃ r, z_iter (f_X3_plan_L78 (nI (2 ^ P)) s6) z_fuel ((0 : Int32), w) = some r ∧ (∀ b j, b ≠ 51 → r.1 b j = w.1 b j) ∧ r.2 = w.2 ∧ ∀ x, x < 2 ^ P → r.1 51 x = nI (wt S n x) := by
  have h64 := p64 hP
  refine it_inv (fun i (s : Int32 × ZW) => s.1 = nI i ∧ (∀ b j, b ≠ 51 → s.2.1 b j = w.1 b j) ∧ s.2.2 = w.2 ∧ ∀ x, x < i → s.2.1 51 x = nI (wt S n x)) _ (2 ^ P) (fun i s hi hQ => ?_) (fun s hQ => ?_) (zf (by omega)) ⟨rfl, fun b j _ => rfl, rfl, fun x hx => by omega⟩
  · obtain ⟨p1, p2, p3, p4⟩ := hQ
    obtain ⟨x, u⟩ := s
    dsimp only at p1 p2 p3 p4
    subst p1
    left
    have hC' : NightC S u.1 := fr_NiC (fun a j z => p2 a j (by unfold cNiC at z; omega)) hC
    refine ⟨(nI (i + 1), z_upI u 51 i (nI (wt S n i))), ?_, rfl, fun b j h => by rw [upc (by omega)]; exact p2 b j h, p3, fun x hx => ?_⟩
    · unfold f_X3_plan_L78
      dsimp only
      rw [if_neg (nnle hi), h6, cow11 (P := P) hC' (by omega), Option.bind_some, z_in_t (show i < 64 by omega) (by omega), if_pos rfl, nI_clamp (show i < 2 ^ 31 by omega), zl, nI_1]
    · by_cases z : x = i
      · subst z; exact upc_e
      · rw [upc (by omega)]
        exact p4 x (by omega)
  · obtain ⟨p1, p2, p3, p4⟩ := hQ
    obtain ⟨x, u⟩ := s
    dsimp only at p1 p2 p3 p4
    subst p1
    refine ⟨u, ?_, p2, p3, p4⟩
    unfold f_X3_plan_L78
    dsimp only
    rw [if_pos (Int32.le_refl _)]
theorem best_lp {P : Nat} {S : ST} {w : ZW} (hI : NightI P S) (hP : P ≤ 6) (hc : w.1 20 0 = nI (S 0 0)) {k M : Nat} (hM : M = 1000000) (hk : k ≤ 11) (s6 : Int32 × ZW) (h6 : s6.1 = nI (11 - k)) (h51 : ∀ x, x < 2 ^ P → w.1 51 x = nI (wt S (11 - k) x)) (hrow : ∀ x, x < 2 ^ P → w.1 (37 - k) x = nI (ob S M k x)) : ∃ r, z_iter (f_X3_plan_L107 (nI (2 ^ P)) s6 (nI (opn S (11 - k) P))) z_fuel ((0 : Int32), w) = some r ∧ (∀ b j, ¬ (b = 36 - k ∨ b = 50 - k) → r.1 b j = w.1 b j) ∧ r.2 = w.2 ∧ ∀ x, x < 2 ^ P → r.1 (36 - k) x = nI (ob S M (k + 1) x) ∧ r.1 (50 - k) x = nI (och S M k x) := by
  have h64 := p64 hP
  refine it_inv (fun i (s : Int32 × ZW) => s.1 = nI i ∧ (∀ b j, ¬ (b = 36 - k ∨ b = 50 - k) → s.2.1 b j = w.1 b j) ∧ s.2.2 = w.2 ∧ ∀ x, x < i → s.2.1 (36 - k) x = nI (ob S M (k + 1) x) ∧ s.2.1 (50 - k) x = nI (och S M k x)) _ (2 ^ P) (fun i s hi hQ => ?_) (fun s hQ => ?_) (zf (by omega)) ⟨rfl, fun b j _ => rfl, rfl, fun x hx => by omega⟩
  · obtain ⟨p1, p2, p3, p4⟩ := hQ
    obtain ⟨x, u⟩ := s
    dsimp only at p1 p2 p3 p4
    subst p1
    left
    have cb := cb11 (w := u) hI hP (by rw [p2 20 0 (by omega)]; exact hc) hM hk hi (fun x hx => by rw [p2 51 x (by omega)]; exact h51 x hx) (fun x hx => by rw [p2 (37 - k) x (by omega)]; exact hrow x hx)
    refine ⟨(nI (i + 1), z_upI (z_upI u (36 - k) i (nI (ob S M (k + 1) i))) (50 - k) i (nI (och S M k i))), ?_, rfl, fun b j h => by rw [upc (by omega), upc (by omega)]; exact p2 b j h, p3, fun x hx => ?_⟩
    · unfold f_X3_plan_L107
      dsimp only
      rw [if_neg (nnle hi), h6, cb, Option.bind_some, nI_1]
    · by_cases z : x = i
      · subst z
        refine ⟨?_, upc_e⟩
        rw [upc (by omega), upc_e]
      · rw [upc (by omega), upc (by omega), upc (by omega), upc (by omega)]
        exact p4 x (by omega)
  · obtain ⟨p1, p2, p3, p4⟩ := hQ
    obtain ⟨x, u⟩ := s
    dsimp only at p1 p2 p3 p4
    subst p1
    refine ⟨u, ?_, p2, p3, p4⟩
    unfold f_X3_plan_L107
    dsimp only
    rw [if_pos (Int32.le_refl _)]
/-- all nights, from the last back -/
theorem plan_lp {P : Nat} {S : ST} {w : ZW} (hI : NightI P S) (hP : P ≤ 6) (hC : NightC S w.1) {M : Nat} (hM : M = 1000000) (h0 : ∀ x, x < 2 ^ P → w.1 37 x = nI (ob S M 0 x)) : ∃ r, z_iter (f_X3_plan_L29 (nI P) (nI (2 ^ P))) z_fuel ((11 : Int32), w) = some r ∧ (∀ b j, ¬ (25 ≤ b ∧ b ≤ 51) → r.1 b j = w.1 b j) ∧ r.2 = w.2 ∧ (∀ m, m ≤ 12 → ∀ x, x < 2 ^ P → r.1 (37 - m) x = nI (ob S M m x)) ∧ (∀ m, m < 12 → ∀ x, x < 2 ^ P → r.1 (50 - m) x = nI (och S M m x)) := by
  refine it_inv (fun i (s : Int32 × ZW) => s.1 = cd 12 i ∧ (∀ b j, ¬ (25 ≤ b ∧ b ≤ 51) → s.2.1 b j = w.1 b j) ∧ s.2.2 = w.2 ∧ (∀ m, m ≤ i → ∀ x, x < 2 ^ P → s.2.1 (37 - m) x = nI (ob S M m x)) ∧ (∀ m, m < i → ∀ x, x < 2 ^ P → s.2.1 (50 - m) x = nI (och S M m x))) _ 12 (fun i s hi hQ => ?_) (fun s hQ => ?_) (zf (by omega)) ⟨(show (11 : Int32) = cd 12 0 by decide), fun b j _ => rfl, rfl, fun m hm x hx => ?_, fun m hm => by omega⟩
  · obtain ⟨p1, p2, p3, p4, p5⟩ := hQ
    obtain ⟨x, u⟩ := s
    dsimp only at p1 p2 p3 p4 p5
    left
    rw [cd_i hi, show 12 - 1 - i = 11 - i by omega] at p1
    subst p1
    have hC' : NightC S u.1 := fr_NiC (fun a j z => p2 a j (by unfold cNiC at z; omega)) hC
    obtain ⟨r1, e1, f1, f2, f3⟩ := wait_lp (w := u) hP hC' (n := 11 - i) (nI (11 - i), u) rfl
    obtain ⟨r2, e2, g1, g2, g3⟩ := best_lp (w := r1) hI hP (by rw [f1 20 0 (by omega)]; exact hC'.1) hM (show i ≤ 11 by omega) (nI (11 - i), u) rfl f3 (fun x hx => by rw [f1 (37 - i) x (by omega)]; exact p4 i (Nat.le_refl _) x hx)
    have ec : nI (11 - i) + (-1 : Int32) = cd 12 (i + 1) := by
      have := cd_s hi
      rw [cd_i hi, show 12 - 1 - i = 11 - i by omega] at this
      exact this
    refine ⟨(cd 12 (i + 1), r2), ?_, rfl, fun b j h => ?_, ?_, fun m hm x hx => ?_, fun m hm x hx => ?_⟩
    · unfold f_X3_plan_L29
      dsimp only
      rw [if_neg (nI_pos (by omega)), opn11 hI hP (show 11 - i ≤ 11 by omega) (nI (11 - i), u) rfl hC', Option.bind_some, e1, Option.bind_some, e2, Option.bind_some, ec]
    · rw [g1 b j (by omega), f1 b j (by omega)]
      exact p2 b j h
    · exact (g2.trans f2).trans p3
    · by_cases z : m = i + 1
      · subst z
        rw [show 37 - (i + 1) = 36 - i by omega]
        exact (g3 x hx).1
      · rw [g1 _ _ (by omega), f1 _ _ (by omega)]
        exact p4 m (by omega) x hx
    · by_cases z : m = i
      · subst z
        exact (g3 x hx).2
      · rw [g1 _ _ (by omega), f1 _ _ (by omega)]
        exact p5 m (by omega) x hx
  · obtain ⟨p1, p2, p3, p4, p5⟩ := hQ
    obtain ⟨x, u⟩ := s
    dsimp only at p1 p2 p3 p4 p5
    refine ⟨u, ?_, p2, p3, p4, p5⟩
    unfold f_X3_plan_L29
    dsimp only
    rw [p1, cd_n, if_pos (by decide)]
  · have : m = 0 := by omega
    subst this
    exact h0 x hx
