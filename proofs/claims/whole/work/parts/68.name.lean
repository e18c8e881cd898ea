/-! model: a name from the tape -/
def tM (n : Nat) (t : Nat → Nat) (w : ZW) : Prop := w.1 130 13 = nI n ∧ ∀ i, i < n → w.1 140 i = nI (t i)
def sk (t : Nat → Nat) : Nat → Nat → Nat
  | 0, i => i
  | d + 1, i => if t i = 32 then sk t d (i + 1) else i
theorem sk_b {t : Nat → Nat} : ∀ d i, i ≤ sk t d i ∧ sk t d i ≤ i + d ∧ (sk t d i < i + d → t (sk t d i) ≠ 32)
  | 0, i => ⟨Nat.le_refl _, Nat.le_refl _, fun h => by unfold sk at h; omega⟩
  | d + 1, i => by
    unfold sk
    by_cases e : t i = 32
    · rw [if_pos e]
      obtain ⟨h1, h2, h3⟩ := sk_b (t := t) d (i + 1)
      exact ⟨by omega, by omega, fun h => h3 (by omega)⟩
    · rw [if_neg e]
      exact ⟨Nat.le_refl _, by omega, fun _ => e⟩
theorem nm_sk {q : Bool} {t : Nat → Nat} : ∀ d i k f, nm q t d i k f = nm q t (i + d - sk t d i) (sk t d i) k f
  | 0, i, k, f => by
    unfold sk
    rw [show i + 0 - i = 0 by omega]
  | d + 1, i, k, f => by
    by_cases e : t i = 32
    · have e1 : nm q t (d + 1) i k f = nm q t d (i + 1) k f := if_pos e
      have e2 : sk t (d + 1) i = sk t d (i + 1) := if_pos e
      rw [e1, e2, nm_sk d (i + 1) k f, show i + 1 + d - sk t d (i + 1) = i + (d + 1) - sk t d (i + 1) by omega]
    · have e2 : sk t (d + 1) i = i := if_neg e
      rw [e2, show i + (d + 1) - i = d + 1 by omega]
/-- where the reading stands -/
def atW (w : ZW) (i : Nat) : ZW := z_upI w 130 14 (nI i)
theorem atW_at {w : ZW} {i j : Nat} : atW (atW w i) j = atW w j := by
  unfold atW z_upI
  refine Prod.ext (funext fun c => funext fun m => ?_) rfl
  show (if c = 130 ∧ m = 14 then nI j else if c = 130 ∧ m = 14 then nI i else w.1 c m) = (if c = 130 ∧ m = 14 then nI j else w.1 c m)
  by_cases q : c = 130 ∧ m = 14
  · rw [if_pos q, if_pos q]
  · rw [if_neg q, if_neg q, if_neg q]
theorem atW_self {w : ZW} {i : Nat} (h : w.1 130 14 = nI i) : atW w i = w := by
  unfold atW z_upI
  refine Prod.ext (funext fun c => funext fun m => ?_) rfl
  show (if c = 130 ∧ m = 14 then nI i else w.1 c m) = _
  by_cases q : c = 130 ∧ m = 14
  · rw [if_pos q, q.1, q.2, h]
  · rw [if_neg q]
theorem atW_1 {w : ZW} {i : Nat} : (atW w i).1 130 14 = nI i := upc_e
theorem atW_o {w : ZW} {i c m : Nat} (h : ¬ (c = 130 ∧ m = 14)) : (atW w i).1 c m = w.1 c m := upc h
theorem tM_at {n : Nat} {t : Nat → Nat} {w : ZW} {i : Nat} (h : tM n t w) : tM n t (atW w i) := ⟨(atW_o (by omega)).trans h.1, fun j hj => (atW_o (by omega)).trans (h.2 j hj)⟩
theorem here_loop {n : Nat} {t : Nat → Nat} (hn : n ≤ 40) (ht : ∀ i, i < n → 32 ≤ t i ∧ t i ≤ 126) {w : ZW} (hT : tM n t w) : ∀ (d i N : Nat), i + d = n → d < N → z_iter f_X12_here_L0 N (atW w i) = some (atW w (sk t d i)) := by
  intro d
  induction d with
  | zero =>
    intro i N h1 h2
    obtain ⟨N, rfl⟩ : ∃ M, N = M + 1 := ⟨N - 1, by omega⟩
    have e : f_X12_here_L0 (atW w i) = some (.inr (atW w i)) := by
      unfold f_X12_here_L0
      rw [atW_1, (tM_at hT).1, if_pos (nle (by omega))]
    simp [z_iter, e, sk]
  | succ d ih =>
    intro i N h1 h2
    obtain ⟨N, rfl⟩ : ∃ M, N = M + 1 := ⟨N - 1, by omega⟩
    obtain ⟨t1, t2⟩ := ht i (by omega)
    by_cases e : t i = 32
    · have e1 : f_X12_here_L0 (atW w i) = some (.inl (atW w (i + 1))) := by
        unfold f_X12_here_L0
        rw [atW_1, (tM_at hT).1, if_neg (nnle (by omega)), z_in_t (show i < 40 by omega) (by omega), if_pos rfl, nI_clamp (show i < 2 ^ 31 by omega), (tM_at hT).2 i (by omega), if_pos (by rw [e]; rfl), nI_1]
        show some (Sum.inl (atW (atW w i) (i + 1))) = _
        rw [atW_at]
      have e2 : sk t (d + 1) i = sk t d (i + 1) := if_pos e
      rw [e2, ← ih (i + 1) N (by omega) (by omega)]
      simp [z_iter, e1]
    · have e1 : f_X12_here_L0 (atW w i) = some (.inr (atW w i)) := by
        unfold f_X12_here_L0
        rw [atW_1, (tM_at hT).1, if_neg (nnle (by omega)), z_in_t (show i < 40 by omega) (by omega), if_pos rfl, nI_clamp (show i < 2 ^ 31 by omega), (tM_at hT).2 i (by omega), show (32 : Int32) = nI 32 from rfl, ieq (by omega) (by omega), if_neg e]
      have e2 : sk t (d + 1) i = i := if_neg e
      rw [e2]
      simp [z_iter, e1]
def chr (n : Nat) (t : Nat → Nat) (j : Nat) : Nat := if j < n then t j else 0
theorem here_eq {n : Nat} {t : Nat → Nat} (hn : n ≤ 40) (ht : ∀ i, i < n → 32 ≤ t i ∧ t i ≤ 126) {w : ZW} (hT : tM n t w) {i : Nat} (hi : i ≤ n) : f_X12_here (atW w i) = some (nI (chr n t (sk t (n - i) i)), atW w (sk t (n - i) i)) := by
  unfold f_X12_here
  rw [here_loop hn ht hT (n - i) i z_fuel (by omega) (zf (by omega))]
  obtain ⟨h1, h2, h3⟩ := sk_b (t := t) (n - i) i
  simp only [Option.bind_some]
  unfold f_X12_here_J38 chr
  rw [atW_1, (tM_at hT).1, ile (by omega) (by omega)]
  by_cases e : sk t (n - i) i < n
  · rw [if_neg (by omega), if_pos e, z_in_t (show sk t (n - i) i < 40 by omega) (by omega), if_pos rfl, nI_clamp (show sk t (n - i) i < 2 ^ 31 by omega), (tM_at hT).2 _ e]
  · rw [if_pos (by omega), if_neg e]
    rfl
/-- the three ways from a character on -/
def wrW (w : ZW) (x : Int32) : ZW := z_upI w 130 15 x
theorem J58_end {a1 x5 : Int32} {k : Nat} (hk : k ≤ 6) {w : ZW} : f_X12_name_J57 a1 (nI k) x5 w = some (.inl (nI k, 0, wrW w (if k = 0 then 1 else 0))) := by
  have e : ∀ b : Bool, f_X12_name_J89 a1 (nI k) x5 0 (bI b) w = some (.inl (nI k, 0, wrW w (bI b))) := by
    intro b
    unfold f_X12_name_J89
    rw [show z_bo (bI b) = true from bo_if b, if_pos rfl]
    simp only [z_let, if_true]
    rfl
  unfold f_X12_name_J57 f_X12_name_J58
  rw [if_pos rfl, show (0 : Int32) = nI 0 from rfl, ieq (by omega) (by omega)]
  by_cases z : k = 0
  · rw [if_pos z, if_pos z]
    exact e true
  · rw [if_neg z, if_neg z]
    exact e false
theorem J58_over {a1 x5 : Int32} {w : ZW} : f_X12_name_J53 a1 (nI 6) x5 w = some (.inl (nI 6, 0, wrW w 1)) := by
  unfold f_X12_name_J53 f_X12_name_J58
  rw [if_neg i10, if_pos (show nI 6 = 6 from rfl)]
  unfold f_X12_name_J89
  rw [show z_bo 1 = true from rfl, if_pos rfl]
  simp only [z_let]
  rw [if_neg i10, upc_e, if_neg i10]
  rfl
theorem J58_add {a k : Nat} (ha : a ≤ 6) (hk : k < 6) {x5 : Int32} {w : ZW} {i : Nat} (hi : w.1 130 14 = nI i) : f_X12_name_J53 (nI a) (nI k) x5 w = some (.inl (nI (k + 1), 1, atW (z_upI (wrW w 0) 146 (a + k) x5) (i + 1))) := by
  unfold f_X12_name_J53 f_X12_name_J58
  rw [if_neg i10, show (6 : Int32) = nI 6 from rfl, ieq (by omega) (by omega), if_neg (by omega)]
  unfold f_X12_name_J89
  rw [show z_bo 0 = true from rfl, if_pos rfl]
  simp only [z_let]
  rw [if_neg i10, upc_e, if_pos rfl]
  unfold f_X12_name_J109
  rw [if_neg i10, nI_add, z_in_t (show a + k < 12 by omega) (by omega), if_pos rfl, nI_clamp (show a + k < 2 ^ 31 by omega)]
  simp only [z_let]
  rw [upc (by omega), upc (by omega), hi, nI_1, nI_1]
  rfl
theorem in6590 {c : Nat} (hc : c ≤ 126) : f_X12_in (nI c).toInt64 (65 : Int64) (90 : Int64) = some (if isL false c = true then 1 else 0) := by
  rw [in_rg _ 65 90 (by decide) (by decide), rg_nI (by decide) (by decide) (by omega)]
  unfold isL
  simp
/-- the loop at place i -/
theorem L16_at {n : Nat} {t : Nat → Nat} (hn : n ≤ 40) (ht : ∀ i, i < n → 32 ≤ t i ∧ t i ≤ 126) {w : ZW} (hT : tM n t w) {i a k : Nat} (hi : i ≤ n) (ha : a ≤ 6) (b : Bool) : f_X12_name_L16 (bI b) (nI a) (nI k, 1, atW w i) = if isL b (chr n t (sk t (n - i) i)) = true then f_X12_name_J53 (nI a) (nI k) (nI (chr n t (sk t (n - i) i))) (atW w (sk t (n - i) i)) else f_X12_name_J57 (nI a) (nI k) (nI (chr n t (sk t (n - i) i))) (atW w (sk t (n - i) i)) := by
  have hc : chr n t (sk t (n - i) i) ≤ 126 := by
    unfold chr
    split
    · exact (ht _ (by assumption)).2
    · omega
  unfold f_X12_name_L16
  simp only []
  rw [if_neg i10, here_eq hn ht hT hi]
  simp only [Option.bind_some]
  rw [in6590 hc]
  simp only [Option.bind_some, if10]
  generalize chr n t (sk t (n - i) i) = c at hc ⊢
  by_cases q : isL false c = true
  · rw [if_pos q, if_pos]
    unfold isL at q ⊢
    simp only [Bool.or_eq_true] at q ⊢
    rcases q with q | q
    · exact Or.inl q
    · simp at q
  · rw [if_neg q]
    have e : isL b c = (b && decide (c = 63)) := by
      unfold isL at q ⊢
      simp only [Bool.false_and, Bool.or_false, Bool.not_eq_true] at q
      rw [q, Bool.false_or]
    rw [e, show (63 : Int32) = nI 63 from rfl, ieq (by omega) (by omega)]
    cases b
    · rfl
    · rw [if_pos rfl]
      by_cases z : c = 63
      · rw [if_pos z, if_pos (by simp [z])]
      · rw [if_neg z, if_neg (by simp [z])]
def nfr (a : Nat) (w w' : ZW) : Prop := (∀ c j, ¬ (c = 130 ∧ (j = 14 ∨ j = 15)) → ¬ (c = 146 ∧ a ≤ j ∧ j < a + 6) → w'.1 c j = w.1 c j) ∧ w'.2 = w.2
theorem M_name {n : Nat} {t : Nat → Nat} (hn : n ≤ 40) (ht : ∀ i, i < n → 32 ≤ t i ∧ t i ≤ 126) (b : Bool) {a : Nat} (ha : a ≤ 6) : ∀ (d i k : Nat) (f : Nat → Nat) (w : ZW) (N : Nat), n - i < d → i ≤ n → k ≤ 6 → tM n t w → w.1 130 14 = nI i → (∀ m, m < k → w.1 146 (a + m) = nI (f m)) → d < N →
    (∀ e, nm b t (n - i) i k f = .inl e → ∃ x w', z_iter (f_X12_name_L16 (bI b) (nI a)) N (nI k, 1, w) = some (x, w') ∧ w'.1 130 15 = 1 ∧ w'.1 130 14 = nI e ∧ nfr a w w') ∧
    (∀ k' f' j, nm b t (n - i) i k f = .inr (k', f', j) → ∃ w', z_iter (f_X12_name_L16 (bI b) (nI a)) N (nI k, 1, w) = some (nI k', w') ∧ w'.1 130 15 = 0 ∧ w'.1 130 14 = nI j ∧ (∀ m, m < k' → w'.1 146 (a + m) = nI (f' m)) ∧ nfr a w w') := by
  intro d
  induction d with
  | zero =>
    intro i k f w N h1
    omega
  | succ d ih =>
    intro i k f w N h1 hi hk hT hat hr hN
    obtain ⟨N, rfl⟩ : ∃ M, N = M + 1 := ⟨N - 1, by omega⟩
    have hL := L16_at hn ht hT hi ha b (k := k)
    rw [atW_self hat] at hL
    obtain ⟨s1, s2, s3⟩ := sk_b (t := t) (n - i) i
    have en := nm_sk (q := b) (t := t) (n - i) i k f
    rw [show i + (n - i) - sk t (n - i) i = n - sk t (n - i) i by omega] at en
    rw [en]
    generalize sk t (n - i) i = j at s1 s2 s3 hL ⊢
    -- it ends here
    have stop : ∀ (x : Int32) (y : Nat), f_X12_name_L16 (bI b) (nI a) (nI k, 1, w) = some (.inl (nI y, 0, wrW (atW w j) x)) → z_iter (f_X12_name_L16 (bI b) (nI a)) (N + 1) (nI k, 1, w) = some (nI y, wrW (atW w j) x) := by
      intro x y e
      obtain ⟨N, rfl⟩ : ∃ M, N = M + 1 := ⟨N - 1, by omega⟩
      have e2 : f_X12_name_L16 (bI b) (nI a) (nI y, 0, wrW (atW w j) x) = some (.inr (nI y, wrW (atW w j) x)) := by
        unfold f_X12_name_L16
        simp only [if_true]
      simp [z_iter, e, e2]
    have fr0 : ∀ x : Int32, nfr a w (wrW (atW w j) x) := fun x => ⟨fun c m q1 q2 => by unfold wrW; rw [upc (by omega), atW_o (by omega)], rfl⟩
    have v15 : ∀ x : Int32, (wrW (atW w j) x).1 130 15 = x := fun x => upc_e
    have v14 : ∀ x : Int32, (wrW (atW w j) x).1 130 14 = nI j := fun x => by unfold wrW; rw [upc (by omega), atW_1]
    have v6 : ∀ (x : Int32) m, m < k → (wrW (atW w j) x).1 146 (a + m) = nI (f m) := fun x m hm => by unfold wrW; rw [upc (by omega), atW_o (by omega)]; exact hr m hm
    have ending : isL b (chr n t j) = false → (if k = 0 then nm b t (n - j) j k f = .inl j else nm b t (n - j) j k f = .inr (k, f, j)) → (∀ e, nm b t (n - j) j k f = .inl e → ∃ x w', z_iter (f_X12_name_L16 (bI b) (nI a)) (N + 1) (nI k, 1, w) = some (x, w') ∧ w'.1 130 15 = 1 ∧ w'.1 130 14 = nI e ∧ nfr a w w') ∧
      (∀ k' f' j', nm b t (n - j) j k f = .inr (k', f', j') → ∃ w', z_iter (f_X12_name_L16 (bI b) (nI a)) (N + 1) (nI k, 1, w) = some (nI k', w') ∧ w'.1 130 15 = 0 ∧ w'.1 130 14 = nI j' ∧ (∀ m, m < k' → w'.1 146 (a + m) = nI (f' m)) ∧ nfr a w w') := by
      intro q hz
      rw [q, if_neg (by simp), J58_end hk] at hL
      have st := stop _ _ hL
      by_cases z : k = 0
      · rw [if_pos z] at hz st
        refine ⟨fun e he => ?_, fun k' f' j' he => (by rw [hz] at he; cases he)⟩
        rw [hz] at he
        cases he
        exact ⟨_, _, st, v15 _, v14 _, fr0 _⟩
      · rw [if_neg z] at hz st
        refine ⟨fun e he => (by rw [hz] at he; cases he), fun k' f' j' he => ?_⟩
        rw [hz] at he
        cases he
        exact ⟨_, st, v15 _, v14 _, v6 _, fr0 _⟩
    by_cases hj : j < n
    · have hc : chr n t j = t j := if_pos hj
      have t32 := s3 (by omega)
      obtain ⟨m, hm⟩ : ∃ m, n - j = m + 1 := ⟨n - j - 1, by omega⟩
      by_cases e2 : isL b (t j) = true
      · rw [hc, if_pos e2] at hL
        by_cases e3 : k = 6
        · subst e3
          have en2 : nm b t (n - j) j 6 f = .inl j := by
            rw [hm]
            show (if t j = 32 then _ else if isL b (t j) = true then (if 6 = 6 then _ else _) else _) = _
            rw [if_neg t32, if_pos e2, if_pos rfl]
          rw [J58_over] at hL
          have st := stop _ _ hL
          refine ⟨fun e he => ?_, fun k' f' j' he => (by rw [en2] at he; cases he)⟩
          rw [en2] at he
          cases he
          exact ⟨_, _, st, v15 _, v14 _, fr0 _⟩
        · have en2 : nm b t (n - j) j k f = nm b t (n - (j + 1)) (j + 1) (k + 1) (fset f k (t j)) := by
            rw [hm, show n - (j + 1) = m by omega]
            show (if t j = 32 then _ else if isL b (t j) = true then (if k = 6 then _ else _) else _) = _
            rw [if_neg t32, if_pos e2, if_neg e3]
          rw [J58_add ha (show k < 6 by omega) atW_1] at hL
          have fr1 : nfr a w (atW (z_upI (wrW (atW w j) 0) 146 (a + k) (nI (t j))) (j + 1)) := ⟨fun c m q1 q2 => by
            rw [atW_o (by omega), upc (by omega)]
            exact (fr0 0).1 c m q1 q2, rfl⟩
          obtain ⟨g1, g2⟩ := ih (j + 1) (k + 1) (fset f k (t j)) (atW (z_upI (wrW (atW w j) 0) 146 (a + k) (nI (t j))) (j + 1)) N (by omega) (by omega) (by omega) ⟨(fr1.1 130 13 (by omega) (by omega)).trans hT.1, fun i hi => (fr1.1 140 i (by omega) (by omega)).trans (hT.2 i hi)⟩ atW_1 (fun m hm => by
            rw [atW_o (by omega)]
            unfold fset
            by_cases e : m = k
            · subst e
              rw [if_pos rfl, upc_e]
            · rw [if_neg e, upc (by omega)]
              exact v6 0 m (by omega)) (by omega)
          have st : z_iter (f_X12_name_L16 (bI b) (nI a)) (N + 1) (nI k, 1, w) = z_iter (f_X12_name_L16 (bI b) (nI a)) N (nI (k + 1), 1, atW (z_upI (wrW (atW w j) 0) 146 (a + k) (nI (t j))) (j + 1)) := by
            simp [z_iter, hL]
          rw [en2, st]
          refine ⟨fun e he => ?_, fun k' f' j' he => ?_⟩
          · obtain ⟨x, w', p1, p2, p3, p4, p5⟩ := g1 e he
            exact ⟨x, w', p1, p2, p3, fun c m q1 q2 => (p4 c m q1 q2).trans (fr1.1 c m q1 q2), p5.trans fr1.2⟩
          · obtain ⟨w', p1, p2, p3, p4, p5, p6⟩ := g2 k' f' j' he
            exact ⟨w', p1, p2, p3, p4, fun c m q1 q2 => (p5 c m q1 q2).trans (fr1.1 c m q1 q2), p6.trans fr1.2⟩
      · simp only [Bool.not_eq_true] at e2
        refine ending (by rw [hc]; exact e2) ?_
        by_cases z : k = 0
        · rw [if_pos z, hm]
          show (if t j = 32 then _ else if isL b (t j) = true then _ else (if k = 0 then _ else _)) = _
          rw [if_neg t32, e2, if_neg (by simp), if_pos z]
        · rw [if_neg z, hm]
          show (if t j = 32 then _ else if isL b (t j) = true then _ else (if k = 0 then _ else _)) = _
          rw [if_neg t32, e2, if_neg (by simp), if_neg z]
    · have hc : chr n t j = 0 := if_neg hj
      refine ending (by rw [hc]; cases b <;> rfl) ?_
      rw [show n - j = 0 by omega]
      by_cases z : k = 0
      · rw [if_pos z]
        exact if_pos z
      · rw [if_neg z]
        exact if_neg z
theorem name_eq {w : ZW} {a1 a2 : Int32} : f_X12_name w a1 a2 = z_iter (f_X12_name_L16 a2 a1) z_fuel (0, (if w.1 130 15 = 0 then 1 else 0), w) := by
  unfold f_X12_name f_X12_name_J14
  have e : ∀ o : Option (Int32 × ZW), (o.bind fun q5 : Int32 × ZW => some (q5.1, q5.2)) = o := bind_eta
  rw [e, e]
  split <;> rfl
