/-! names on the tape -/
def isL (q : Bool) (c : Nat) : Bool := (decide (65 ≤ c) && decide (c ≤ 90)) || (q && decide (c = 63))
def fset (f : Nat → Nat) (k c : Nat) : Nat → Nat := fun m => if m = k then c else f m
/-- a name from place i on, k letters read: where it fails, or its letters and where it ends -/
def nm (q : Bool) (t : Nat → Nat) : Nat → Nat → Nat → (Nat → Nat) → Nat ⊕ (Nat × (Nat → Nat) × Nat)
  | 0, i, k, f => if k = 0 then .inl i else .inr (k, f, i)
  | d + 1, i, k, f => if t i = 32 then nm q t d (i + 1) k f else if isL q (t i) = true then (if k = 6 then .inl i else nm q t d (i + 1) (k + 1) (fset f k (t i))) else if k = 0 then .inl i else .inr (k, f, i)
theorem nm_inr {q : Bool} {t : Nat → Nat} : ∀ (d i k : Nat) (f : Nat → Nat) {k' : Nat} {f' : Nat → Nat} {j : Nat}, k ≤ 6 → (∀ m, m < k → isL q (f m) = true) → nm q t d i k f = .inr (k', f', j) → 1 ≤ k' ∧ k' ≤ 6 ∧ k ≤ k' ∧ i ≤ j ∧ j ≤ i + d ∧ (j < i + d → t j ≠ 32 ∧ isL q (t j) = false) ∧ ∀ m, m < k' → isL q (f' m) = true
  | 0, i, k, f, k', f', j, hk, hf, h => by
    unfold nm at h
    by_cases e : k = 0
    · rw [if_pos e] at h; cases h
    · rw [if_neg e] at h
      cases h
      exact ⟨by omega, hk, Nat.le_refl _, Nat.le_refl _, by omega, fun h => by omega, hf⟩
  | d + 1, i, k, f, k', f', j, hk, hf, h => by
    unfold nm at h
    by_cases e1 : t i = 32
    · rw [if_pos e1] at h
      obtain ⟨a1, a2, a3, a4, a5, a6, a7⟩ := nm_inr d (i + 1) k f hk hf h
      exact ⟨a1, a2, a3, by omega, by omega, fun h => a6 (by omega), a7⟩
    · rw [if_neg e1] at h
      by_cases e2 : isL q (t i) = true
      · rw [if_pos e2] at h
        by_cases e3 : k = 6
        · rw [if_pos e3] at h; cases h
        · rw [if_neg e3] at h
          obtain ⟨a1, a2, a3, a4, a5, a6, a7⟩ := nm_inr d (i + 1) (k + 1) (fset f k (t i)) (by omega) (fun m hm => by
            unfold fset
            by_cases e : m = k
            · rw [if_pos e]; exact e2
            · rw [if_neg e]; exact hf m (by omega)) h
          exact ⟨a1, a2, by omega, by omega, by omega, fun h => a6 (by omega), a7⟩
      · rw [if_neg e2] at h
        by_cases e : k = 0
        · rw [if_pos e] at h; cases h
        · rw [if_neg e] at h
          cases h
          exact ⟨by omega, hk, Nat.le_refl _, Nat.le_refl _, by omega, fun _ => ⟨e1, by simpa using e2⟩, hf⟩
theorem nm_inl {q : Bool} {t : Nat → Nat} : ∀ (d i k : Nat) (f : Nat → Nat) {e : Nat}, nm q t d i k f = .inl e → i ≤ e ∧ e ≤ i + d
  | 0, i, k, f, e, h => by
    unfold nm at h
    by_cases z : k = 0
    · rw [if_pos z] at h; cases h; omega
    · rw [if_neg z] at h; cases h
  | d + 1, i, k, f, e, h => by
    unfold nm at h
    by_cases e1 : t i = 32
    · rw [if_pos e1] at h
      have := nm_inl d _ _ _ h
      omega
    · rw [if_neg e1] at h
      by_cases e2 : isL q (t i) = true
      · rw [if_pos e2] at h
        by_cases e3 : k = 6
        · rw [if_pos e3] at h; cases h; omega
        · rw [if_neg e3] at h
          have := nm_inl d _ _ _ h
          omega
      · rw [if_neg e2] at h
        by_cases z : k = 0
        · rw [if_pos z] at h; cases h; omega
        · rw [if_neg z] at h; cases h
theorem pack_lt {f : Nat → Nat} : ∀ k, (∀ m, m < k → f m < 256) → pack f k < 256 ^ k
  | 0, _ => by unfold pack; omega
  | k + 1, h => by
    have h1 := pack_lt k (fun m hm => h m (by omega))
    have h2 := h k (by omega)
    unfold pack
    rw [Nat.pow_succ]
    omega
theorem pack_cong {f g : Nat → Nat} : ∀ k, (∀ m, m < k → f m = g m) → pack f k = pack g k
  | 0, _ => rfl
  | k + 1, h => by
    unfold pack
    rw [pack_cong k (fun m hm => h m (by omega)), h k (by omega)]
theorem pack_set {f : Nat → Nat} {k c : Nat} : pack (fset f k c) (k + 1) = pack f k * 256 + c := by
  show pack (fset f k c) k * 256 + fset f k c k = _
  rw [pack_cong k (fun m hm => show fset f k c m = f m by unfold fset; rw [if_neg (by omega)])]
  unfold fset
  rw [if_pos rfl]
theorem isL_lt {q : Bool} {c : Nat} (h : isL q c = true) : c ≤ 90 ∧ 63 ≤ c := by
  unfold isL at h
  simp only [Bool.or_eq_true, Bool.and_eq_true, decide_eq_true_eq] at h
  omega
theorem shl8 {a c : Nat} (ha : a < 2 ^ 40) (hc : c < 256) : (lN a <<< ((8 : Int32).toInt64 &&& 63)) ||| (nI c).toInt64 = lN (a * 256 + c) := by
  rw [nI_l (by omega)]
  apply Int64.toBitVec_inj.mp
  apply BitVec.eq_of_toNat_eq
  rw [Int64.toBitVec_or, BitVec.toNat_or, Int64.toBitVec_shiftLeft]
  have e8 : (((8 : Int32).toInt64 &&& 63) : Int64).toBitVec.smod 64 = 8#64 := by decide
  rw [e8]
  show ((BitVec.ofNat 64 a) <<< (8#64)).toNat ||| (BitVec.ofNat 64 c).toNat = (BitVec.ofNat 64 (a * 256 + c)).toNat
  rw [BitVec.shiftLeft_eq', BitVec.toNat_shiftLeft]
  simp only [BitVec.toNat_ofNat]
  rw [Nat.mod_eq_of_lt (show a < 2 ^ 64 by omega), Nat.mod_eq_of_lt (show c < 2 ^ 64 by omega), Nat.mod_eq_of_lt (show a * 256 + c < 2 ^ 64 by omega), Nat.mod_eq_of_lt (show 8 < 2 ^ 64 by omega), Nat.shiftLeft_eq, Nat.mod_eq_of_lt (show a * 2 ^ 8 < 2 ^ 64 by omega), Nat.mul_comm a (2 ^ 8), ← Nat.two_pow_add_eq_or_of_lt (show c < 2 ^ 8 by omega) a]
/-! class: the loop -/
def tC (n : Nat) (t : Nat → Nat) (w : ZW) : Prop := w.1 120 0 = nI n ∧ ∀ i, i < n → w.1 121 i = nI (t i)
def F10 (a1 : Int32) (N : Nat) (s : Int32 × Int32 × Int32 × Int32 × ZW) : Option (Int32 × ZW) := (z_iter (f_X10_read_L20 a1) N s).bind (Sum.elim (fun x : Int32 × ZW => some x) (fun q4 : Int32 × Int32 × Int32 × ZW => f_X10_read_J144 a1 q4.1 q4.2.1 q4.2.2.1 q4.2.2.2))
theorem F10_s {a1 : Int32} {N : Nat} {s s' : Int32 × Int32 × Int32 × Int32 × ZW} (h : f_X10_read_L20 a1 s = some (.inl s')) : F10 a1 (N + 1) s = F10 a1 N s' := by
  unfold F10
  simp [z_iter, h]
theorem F10_r {a1 : Int32} {N : Nat} {s : Int32 × Int32 × Int32 × Int32 × ZW} {r : (Int32 × ZW) ⊕ (Int32 × Int32 × Int32 × ZW)} (h : f_X10_read_L20 a1 s = some (.inr r)) : F10 a1 (N + 1) s = r.elim (fun x => some x) (fun q4 => f_X10_read_J144 a1 q4.1 q4.2.1 q4.2.2.1 q4.2.2.2) := by
  unfold F10
  simp [z_iter, h]
theorem isLetter_eq {c : Nat} (hc : c ≤ 126) (b : Bool) : f_X10_isLetter (nI c) (if b = true then 1 else 0) = some (if isL b c = true then 1 else 0) := by
  have e : ∀ c, c < 127 → ∀ b : Bool, f_X10_isLetter (nI c) (if b = true then 1 else 0) = some (if isL b c = true then 1 else 0) := by decide +kernel
  exact e c (by omega) b
abbrev bI (b : Bool) : Int32 := if b = true then 1 else 0
/-- what the loop does at place i -/
theorem L20_end {n : Nat} {t : Nat → Nat} {w : ZW} (hn : n ≤ 40) (hT : tC n t w) {b : Bool} {x2 x3 x4 : Int32} : f_X10_read_L20 (bI b) (x2, x3, x4, nI n, w) = some (.inr (.inr (x2, x3, x4, w))) := by
  unfold f_X10_read_L20
  simp only [hT.1]
  rw [if_pos (Int32.le_refl _)]
theorem L20_at {n : Nat} {t : Nat → Nat} {w : ZW} (hn : n ≤ 40) (ht : ∀ i, i < n → 32 ≤ t i ∧ t i ≤ 126) (hT : tC n t w) {b : Bool} {x2 x4 : Int32} {k i : Nat} (hk : k ≤ 6) (hi : i < n) : f_X10_read_L20 (bI b) (x2, nI k, x4, nI i, w) = if isL b (t i) = true ∧ k < 6 then some (.inl (x2 + 1, nI (k + 1), x4, nI (i + 1), z_upJ w 120 2 (((w.2 120 2) <<< ((8 : Int32).toInt64 &&& 63)) ||| (nI (t i)).toInt64))) else f_X10_read_J84 (bI b) x2 (nI k) x4 (nI i) (nI (t i)) w := by
  obtain ⟨t1, t2⟩ := ht i hi
  unfold f_X10_read_L20
  simp only [hT.1]
  rw [if_neg (nnle hi), if_neg (show ¬ (40 : Int32) ≤ nI i from nnle (a := 40) (by omega)), z_in_t (show i < 40 by omega) (by omega), nI_clamp (show i < 2 ^ 31 by omega), hT.2 i hi]
  simp only [z_let, if_true]
  rw [show f_X10_isLetter (nI (t i)) (bI b) = _ from isLetter_eq t2 b]
  simp only [Option.bind_some, if10]
  by_cases q : isL b (t i) = true
  · simp only [q, if_true, true_and]
    rw [show (6 : Int32) = nI 6 from rfl, ile (by omega) (by omega), nI_1, nI_1]
    by_cases q2 : k < 6
    · rw [if_neg (by omega), if_pos q2]
    · rw [if_pos (by omega), if_neg q2]
  · simp only [q, if_false, false_and]
    rfl
theorem J125_eq {x2 x3 x4 : Int32} {i c : Nat} (hc : c ≤ 126) {w : ZW} : f_X10_read_J125 x2 x3 x4 (nI i) (nI c) w = if c = 32 then some (.inl (x2, x3, x4, nI (i + 1), w)) else some (.inr (.inl ((-20 : Int32) - nI i, w))) := by
  unfold f_X10_read_J125
  rw [show (32 : Int32) = nI 32 from rfl, ieq (by omega) (by omega), nI_1]
theorem J84_eq {b : Bool} {x2 : Int32} {k i c : Nat} (x4 : Bool) (hk : k ≤ 6) (hc : c ≤ 126) {w : ZW} : f_X10_read_J84 (bI b) x2 (nI k) (bI x4) (nI i) (nI c) w = if b = true ∧ x4 = false ∧ k ≠ 0 ∧ c = 43 then some (.inl (x2, 0, 1, nI (i + 1), z_upJ (z_upJ w 120 1 (w.2 120 2)) 120 2 0)) else f_X10_read_J125 x2 (nI k) (bI x4) (nI i) (nI c) w := by
  unfold f_X10_read_J84
  cases b
  · rfl
  · cases x4
    · rw [if_neg (show ¬ bI true = 0 by decide), if_pos (show bI false = 0 from rfl)]
      rw [show (43 : Int32) = nI 43 from rfl, show (0 : Int32) = nI 0 from rfl, ile (by omega) (by omega), ieq (by omega) (by omega), nI_1]
      by_cases q : k = 0
      · rw [if_pos (by omega), if_neg (by omega)]
      · rw [if_neg (by omega)]
        by_cases q2 : c = 43
        · rw [if_pos q2, if_pos ⟨rfl, rfl, q, q2⟩]
          rfl
        · rw [if_neg q2, if_neg (by omega)]
    · rw [if_neg (show ¬ bI true = 0 by decide), if_neg (show ¬ bI true = 0 by decide), if_neg (by simp)]
theorem C_name {n : Nat} {t : Nat → Nat} (hn : n ≤ 40) (ht : ∀ i, i < n → 32 ≤ t i ∧ t i ≤ 126) (b x4 : Bool) : ∀ (d i k x2 : Nat) (f : Nat → Nat) (w : ZW) (N : Nat), i + d = n → k ≤ 6 → (∀ m, m < k → isL b (f m) = true) → tC n t w → w.2 120 2 = lN (pack f k) → d < N →
    (∀ e, nm b t d i k f = .inl e → ∃ w', F10 (bI b) N (nI x2, nI k, bI x4, nI i, w) = some (-20 - nI e, w') ∧ w'.1 = w.1 ∧ ∀ a, a ≠ 120 → w'.2 a = w.2 a) ∧
    (∀ k' f' j, nm b t d i k f = .inr (k', f', j) → ∃ N' w', F10 (bI b) N (nI x2, nI k, bI x4, nI i, w) = F10 (bI b) (N' + 1) (nI (x2 + (k' - k)), nI k', bI x4, nI j, w') ∧ n - j ≤ N' ∧ w'.1 = w.1 ∧ w'.2 120 2 = lN (pack f' k') ∧ w'.2 120 1 = w.2 120 1 ∧ ∀ a, a ≠ 120 → w'.2 a = w.2 a) := by
  intro d
  induction d with
  | zero =>
    intro i k x2 f w N h1 hk hf hT hp hN
    obtain ⟨N, rfl⟩ : ∃ M, N = M + 1 := ⟨N - 1, by omega⟩
    have hi : i = n := by omega
    subst hi
    refine ⟨fun e he => ?_, fun k' f' j he => ?_⟩
    · unfold nm at he
      by_cases z : k = 0
      · rw [if_pos z] at he
        cases he
        refine ⟨w, ?_, rfl, fun _ _ => rfl⟩
        rw [F10_r (L20_end hn hT)]
        subst z
        show f_X10_read_J144 (bI b) (nI x2) 0 (bI x4) w = _
        unfold f_X10_read_J144
        rw [if_pos rfl, hT.1]
      · rw [if_neg z] at he; cases he
    · unfold nm at he
      by_cases z : k = 0
      · rw [if_pos z] at he; cases he
      · rw [if_neg z] at he
        cases he
        exact ⟨N, w, by rw [Nat.sub_self]; rfl, by omega, rfl, hp, rfl, fun _ _ => rfl⟩
  | succ d ih =>
    intro i k x2 f w N h1 hk hf hT hp hN
    obtain ⟨N, rfl⟩ : ∃ M, N = M + 1 := ⟨N - 1, by omega⟩
    have hi : i < n := by omega
    obtain ⟨t1, t2⟩ := ht i hi
    have hat := L20_at hn ht hT (b := b) (x2 := nI x2) (x4 := bI x4) hk hi
    by_cases e1 : t i = 32
    · have nl : isL b (t i) = false := by rw [e1]; cases b <;> rfl
      have hs : f_X10_read_L20 (bI b) (nI x2, nI k, bI x4, nI i, w) = some (.inl (nI x2, nI k, bI x4, nI (i + 1), w)) := by
        rw [hat, nl, if_neg (by simp), J84_eq x4 hk t2, if_neg (by omega), J125_eq t2, if_pos e1]
      have := ih (i + 1) k x2 f w N (by omega) hk hf hT hp (by omega)
      rw [F10_s hs]
      have en : nm b t (d + 1) i k f = nm b t d (i + 1) k f := by
        show (if t i = 32 then _ else _) = _
        rw [if_pos e1]
      rw [en]
      exact this
    · by_cases e2 : isL b (t i) = true
      · obtain ⟨l1, l2⟩ := isL_lt e2
        by_cases e3 : k = 6
        · have en : nm b t (d + 1) i k f = .inl i := by
            show (if t i = 32 then _ else if isL b (t i) = true then (if k = 6 then _ else _) else _) = _
            rw [if_neg e1, if_pos e2, if_pos e3]
          rw [en]
          refine ⟨fun e he => ?_, fun k' f' j he => (by cases he)⟩
          cases he
          refine ⟨w, ?_, rfl, fun _ _ => rfl⟩
          have hs : f_X10_read_L20 (bI b) (nI x2, nI k, bI x4, nI i, w) = some (.inr (.inl ((-20 : Int32) - nI i, w))) := by
            rw [hat, if_neg (by omega), J84_eq x4 hk t2, if_neg (by omega), J125_eq t2, if_neg e1]
          rw [F10_r hs]
          rfl
        · have en : nm b t (d + 1) i k f = nm b t d (i + 1) (k + 1) (fset f k (t i)) := by
            show (if t i = 32 then _ else if isL b (t i) = true then (if k = 6 then _ else _) else _) = _
            rw [if_neg e1, if_pos e2, if_neg e3]
          have pl : pack f k < 2 ^ 40 := by
            have h := pack_lt k (fun m hm => show f m < 256 by have := isL_lt (hf m hm); omega)
            exact Nat.lt_of_lt_of_le h (Nat.le_trans (Nat.pow_le_pow_right (by omega) (show k ≤ 5 by omega)) (by decide))
          have hs : f_X10_read_L20 (bI b) (nI x2, nI k, bI x4, nI i, w) = some (.inl (nI (x2 + 1), nI (k + 1), bI x4, nI (i + 1), z_upJ w 120 2 (lN (pack (fset f k (t i)) (k + 1))))) := by
            rw [hat, if_pos ⟨e2, by omega⟩, hp, shl8 pl (by omega), pack_set, nI_1]
          have := ih (i + 1) (k + 1) (x2 + 1) (fset f k (t i)) (z_upJ w 120 2 (lN (pack (fset f k (t i)) (k + 1)))) N (by omega) (by omega) (fun m hm => by
            unfold fset
            by_cases e : m = k
            · rw [if_pos e]; exact e2
            · rw [if_neg e]; exact hf m (by omega)) hT (by simp [z_upJ]) (by omega)
          rw [F10_s hs, en]
          obtain ⟨g1, g2⟩ := this
          refine ⟨fun e he => ?_, fun k' f' j he => ?_⟩
          · obtain ⟨w', p1, p2, p3⟩ := g1 e he
            exact ⟨w', p1, p2, fun a ha => (p3 a ha).trans (upJ_ne ha)⟩
          · obtain ⟨N', w', p1, p2, p3, p4, p5, p6⟩ := g2 k' f' j he
            have hkk := (nm_inr d (i + 1) (k + 1) (fset f k (t i)) (by omega) (fun m hm => by
              unfold fset
              by_cases e : m = k
              · rw [if_pos e]; exact e2
              · rw [if_neg e]; exact hf m (by omega)) he).2.2.1
            refine ⟨N', w', ?_, p2, p3, p4, p5.trans (by simp [z_upJ]), fun a ha => (p6 a ha).trans (upJ_ne ha)⟩
            rw [p1, show x2 + 1 + (k' - (k + 1)) = x2 + (k' - k) by omega]
      · simp only [Bool.not_eq_true] at e2
        by_cases z : k = 0
        · have en : nm b t (d + 1) i k f = .inl i := by
            show (if t i = 32 then _ else if isL b (t i) = true then _ else (if k = 0 then _ else _)) = _
            rw [if_neg e1, e2, if_neg (by simp), if_pos z]
          rw [en]
          refine ⟨fun e he => ?_, fun k' f' j he => (by cases he)⟩
          cases he
          refine ⟨w, ?_, rfl, fun _ _ => rfl⟩
          have hs : f_X10_read_L20 (bI b) (nI x2, nI k, bI x4, nI i, w) = some (.inr (.inl ((-20 : Int32) - nI i, w))) := by
            rw [hat, e2, if_neg (by simp), J84_eq x4 hk t2, if_neg (by omega), J125_eq t2, if_neg e1]
          rw [F10_r hs]
          rfl
        · have en : nm b t (d + 1) i k f = .inr (k, f, i) := by
            show (if t i = 32 then _ else if isL b (t i) = true then _ else (if k = 0 then _ else _)) = _
            rw [if_neg e1, e2, if_neg (by simp), if_neg z]
          rw [en]
          refine ⟨fun e he => (by cases he), fun k' f' j he => ?_⟩
          cases he
          exact ⟨N, w, by rw [Nat.sub_self]; rfl, by omega, rfl, hp, rfl, fun _ _ => rfl⟩
