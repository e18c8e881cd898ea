/-! the class alone: the tape, names, ways, images -/
theorem K_type {w : ZW} {a : Int64} {n L0 : Nat} (t3 : w.1 120 0 = nI L0) (n1 : 1 ≤ n) (n2 : n ≤ 8) (f2 : ∀ j, j < n → sgn (ch a j) = true) (s : L0 + n ≤ 40) : f_X11_type w a (nI n) = some (nI (L0 + n), tpW w 120 0 121 L0 n (fun i => nI (ch a (n - 1 - i)))) := by
  unfold f_X11_type
  rw [bind_eta]
  unfold f_X10_add
  have k1 : z_iter (f_X10_add_L16 (nI n) a w) z_fuel (0 : Int32) = some (fd (fun s => if sgn (ch a s) = true then .inr () else .inl (-1, w)) 0 n) := by
    refine it_fd _ n (fun i hi => ?_) ?_ (zf (by omega))
    · unfold f_X10_add_L16
      rw [if_neg (nnle hi), ch_eq, isSign_eq ch_lt]
      simp only [Option.bind_some, if10, nI_1]
      by_cases t : sgn (ch a i) = true
      · simp [t]
      · simp [t]
    · unfold f_X10_add_L16
      rw [if_pos (Int32.le_refl _)]
  have fa : fd (fun s => if sgn (ch a s) = true then .inr () else .inl ((-1 : Int32), w)) 0 n = .inr () := by
    rcases fd_all (ρ := Int32 × ZW) (r := (-1, w)) (ok := fun s => sgn (ch a s)) n 0 with ⟨g1, g2⟩ | g1
    · exact g1
    · obtain ⟨j, j1, j2, j3⟩ := fd_inl _ _ g1
      rw [f2 j (by omega)] at j3
      cases j3
  have fc : ∀ i, i < n → 32 ≤ ch a (n - 1 - i) ∧ ch a (n - 1 - i) ≤ 126 := by
    intro i hi
    have := f2 (n - 1 - i) (by omega)
    unfold sgn at this
    simpa using this
  have c2 : z_iter (f_X10_add_L66 a) z_fuel (nI n - 1, w) = some (tpW w 120 0 121 L0 n (fun i => nI (ch a (n - 1 - i)))) := by
    rw [show (nI n - 1, w) = (cd n 0, tpW w 120 0 121 L0 0 (fun i => nI (ch a (n - 1 - i)))) by
      rw [tpW_0 t3, cd_i (by omega), show (1 : Int32) = nI 1 from rfl, pk_sub (by omega)]; rfl]
    refine it_count (fun i => (cd n i, tpW w 120 0 121 L0 i (fun i => nI (ch a (n - 1 - i))))) n _ (fun i hi => ?_) ?_ (zf (by omega))
    · obtain ⟨r1, r2⟩ := fc i hi
      unfold f_X10_add_L66
      simp only []
      rw [cd_s hi, cd_i hi, if_neg (nI_pos (by omega)), ch_eq, lN_i, tpW_c, nI_1, z_in_t (show L0 + i < 40 by omega) (by omega), nI_clamp (show L0 + i < 2 ^ 31 by omega), nar_b _ (by omega)]
      simp only [z_let, if_true]
      have := tpW_s (w := w) (ca := 120) (cj := 0) (b := 121) (L0 := L0) (i := i) (f := fun i => nI (ch a (n - 1 - i))) (by omega)
      rw [this]
    · unfold f_X10_add_L66
      simp only []
      rw [cd_n, if_pos (by decide)]
  rw [if_neg (show ¬ nI n < 1 from fun h => by have := (nI_ltI (a := n) (b := 1) (by omega) (by omega)).mp h; omega), if_pos (show nI n ≤ 8 from nle (b := 8) n2), k1, fa]
  simp only [Option.bind_some, Sum.elim_inr]
  rw [t3, show (40 : Int32) = nI 40 from rfl, pk_sub (by omega), if_pos (nle (by omega)), c2, Option.bind_some, tpW_c]
theorem K_person1 {A : AST} {w : ZW} {n : Nat} {t : Nat → Nat} {k : Nat} {f : Nat → Nat} (hI : StI A) (hC : StC A w.1 w.2) (hn : n ≤ 40) (ht : ∀ i, i < n → 32 ≤ t i ∧ t i ≤ 126) (hT : tC n t w) (hz : nm false t n 0 0 f0 = .inr (k, f, n)) (q : A 2 0 0 < 8) : ∃ w', f_X11_person w = some (nI (A 2 0 0), w') ∧ (StI (aup A 2 (psR (A 2) (A 2 0 0) k f)) ∧ StC (aup A 2 (psR (A 2) (A 2 0 0) k f)) w'.1 w'.2) ∧ w'.1 120 0 = 0 ∧ (∀ a j, a ≠ 16 → a ≠ 120 → w'.1 a j = w.1 a j) ∧ ∀ a j, a ≠ 17 → a ≠ 120 → w'.2 a j = w.2 a j := by
  have hq := hI.2.2.1.1
  obtain ⟨w0, h1, h2, h3, h4⟩ := (read0_eq hn ht hT).2 k f n hz
  obtain ⟨a1, a2, a3, a4, a5, a6, a7⟩ := nm_inr n 0 0 f0 (by omega) (fun m hm => by omega) hz
  rw [if_pos rfl] at h1
  have h3 := h3 rfl
  have hc : ∀ a j, ¬ (a = 120 ∧ j = 0) → (z_upI w0 120 0 0).1 a j = w.1 a j := fun a j q => by rw [upc q, h2]
  have hC0 : StC A (z_upI w0 120 0 0).1 (z_upI w0 120 0 0).2 := fr_K (fun a j q => hc a j (by unfold kC at q; omega)) (fun a j q => by show w0.2 a j = w.2 a j; rw [h4 a (by unfold cL at q; omega)]) hC
  have hp : (z_upI w0 120 0 0).1 16 0 = nI (A 2 0 0) := hC0.2.2.1.1
  refine ⟨z_upI (z_upJ (z_upI w0 120 0 0) 17 (A 2 0 0) (lN (pack f k))) 16 0 (nI (A 2 0 0 + 1)), ?_, K_person (k := k) (f := f) hI hC0 q ⟨a1, a2⟩ (fun m hm => ?_) (fun a j h => ?_) (fun a j h => ?_) upc_e ?_, ?_, fun a j h1 h2' => ?_, fun a j h1' h2' => ?_⟩
  · rw [person_cls, h1]
    simp only [Option.bind_some]
    rw [if_pos (show (0 : Int32) ≤ nI k from nle (a := 0) (by omega)), addPerson_eq hp hq, h3, if_pos q]
  · have := a7 m hm
    unfold isL at this
    simpa using this
  · rw [upc h, upJ_1]
  · show (z_upJ (z_upI w0 120 0 0) 17 (A 2 0 0) (lN (pack f k))).2 a j = _
    exact if_neg h
  · show (z_upJ (z_upI w0 120 0 0) 17 (A 2 0 0) (lN (pack f k))).2 17 (A 2 0 0) = _
    exact if_pos ⟨rfl, rfl⟩
  · rw [upc (by omega), upJ_1, upc_e]
  · rw [upc (by omega), upJ_1, hc a j (by omega)]
  · show (z_upJ (z_upI w0 120 0 0) 17 (A 2 0 0) (lN (pack f k))).2 a j = _
    refine (if_neg (by omega)).trans ?_
    show w0.2 a j = w.2 a j
    rw [h4 a h2']
theorem K_letters1 {A : AST} {w : ZW} {n : Nat} {t : Nat → Nat} {l k1 k2 : Nat} {f1 f2 : Nat → Nat} (hI : StI A) (hC : StC A w.1 w.2) (hn : n ≤ 40) (ht : ∀ i, i < n → 32 ≤ t i ∧ t i ≤ 126) (hT : tC n t w) (hz : pr n t = .inr ((k1, f1), (k2, f2))) (hl : l < A 0 0 1) (hpc : pc14 (A 2 0 1 ||| 2 ^ l) ≤ 12) : ∃ w', f_X11_letters w (nI l) = some (nI (k1 + k2), w') ∧ (StI (aup A 2 (ltR (A 2) l k1 k2 f1 f2)) ∧ StC (aup A 2 (ltR (A 2) l k1 k2 f1 f2)) w'.1 w'.2) ∧ w'.1 120 0 = 0 ∧ (∀ a j, a ≠ 16 → a ≠ 120 → w'.1 a j = w.1 a j) ∧ ∀ a j, a ≠ 18 → a ≠ 19 → a ≠ 120 → w'.2 a j = w.2 a j := by
  have hL := hI.1.2.1
  have hl0 : f_X4_hasLock w (nI l) = some 1 := by rw [X4_hasLock_eq hC.1.2.1, if_pos (ix_y hl (by omega))]
  obtain ⟨w0, h1, h2, h3, h4, h5⟩ := (read1_eq hn ht hT).2 k1 f1 k2 f2 hz
  obtain ⟨b1, b2, b3, b4⟩ := (pr_ok (n := n) (t := t)).2 k1 f1 k2 f2 hz
  have hB := le14 hL hI.2.2.1.2.1
  have hcl := pc_clr hB (show l < 14 by omega)
  have hst := pc_set (b := A 2 0 1) (show l < 14 by omega)
  have hc : ∀ c j, ¬ (c = 120 ∧ j = 0) → (z_upI w0 120 0 0).1 c j = w.1 c j := fun c j q => by rw [upc q, h2]
  have hC0 : StC A (z_upI w0 120 0 0).1 (z_upI w0 120 0 0).2 := fr_K (fun a j q => hc a j (by unfold kC at q; omega)) (fun a j q => by show w0.2 a j = w.2 a j; rw [h5 a (by unfold cL at q; omega)]) hC
  have hp : (z_upI w0 120 0 0).1 16 1 = nI (A 2 0 1) := hC0.2.2.1.2.1
  have q : pc14 (clrb (A 2 0 1) l) < 12 := by
    cases z : (A 2 0 1).testBit l <;> rw [z] at hcl hst <;> simp at hcl hst
    · omega
    · omega
  refine ⟨z_upJ (z_upJ (z_upI (z_upI w0 120 0 0) 16 1 (nI (A 2 0 1 ||| 2 ^ l))) 18 l (lN (pack f1 k1))) 19 l (lN (pack f2 k2)), ?_, K_letters (l := l) (k1 := k1) (k2 := k2) (f1 := f1) (f2 := f2) hI hC0 hl hpc b1 b2 b3 b4 (fun c j h => ?_) (fun c j h => ?_) ?_ ?_ ?_, ?_, fun a j h1' h2' => ?_, fun a j h1' h2' h3' => ?_⟩
  · rw [letters_cls w _ hl0, h1]
    simp only [Option.bind_some]
    rw [if_pos (show (0 : Int32) ≤ nI (k1 + k2) from nle (a := 0) (by omega)), put_eq hp hB (by omega), h3, h4, if_pos q]
    rfl
  · rw [upJ_1, upJ_1, upc h]
  · show (if c = 19 ∧ j = l then _ else if c = 18 ∧ j = l then _ else (z_upI w0 120 0 0).2 c j) = _
    rw [if_neg (by omega), if_neg (by omega)]
  · rw [upJ_1, upJ_1, upc_e]
  · simp [z_upJ]
  · simp [z_upJ]
  · rw [upJ_1, upJ_1, upc (by omega), upc_e]
  · rw [upJ_1, upJ_1, upc (by omega), hc a j (by omega)]
  · show (if a = 19 ∧ j = l then _ else if a = 18 ∧ j = l then _ else w0.2 a j) = _
    rw [if_neg (by omega), if_neg (by omega), h5 a h3']
theorem K_readings {A : AST} {w : ZW} (hI : StI A) (hC : StC A w.1 w.2) {l : Nat} (hl : l < A 0 0 1) (tb : (A 2 0 1).testBit l = true) : f_X11_readings w (nI l) = some (nI (rdn (cb (A 2) l) (A 2 0 0) (A 2 0 0))) := by
  have hL := hI.1.2.1
  unfold f_X11_readings
  rw [X4_hasLock_eq hC.1.2.1, Option.bind_some, if10, if_pos (ix_y hl (by omega)), hasLetters_eq hC.2.2.1 hI.2.2.1 hL (by omega), Option.bind_some, if10, if_pos tb, readingsOf_eq hI.2.2.1 hC.2.2.1 (by omega) tb]
  rfl
theorem K_ways {A : AST} {w : ZW} (hI : StI A) (hC : StC A w.1 w.2) : ∃ w', f_X11_ways w = some (lN (Tw (A 0) (A 2)), w') ∧ (∀ b j, ¬ (111 ≤ b ∧ b ≤ 116) → w'.1 b j = w.1 b j) ∧ (∀ b j, b ≠ 111 → w'.2 b j = w.2 b j) := by
  obtain ⟨w1, e1, a1, a2, a3, -⟩ := find11w hI.1 hI.2.2.1 hC.1 hC.2.2.1
  refine ⟨w1, ?_, a1, a2⟩
  unfold f_X11_ways
  rw [e1, Option.bind_some, a3]
  rfl
theorem K_where {A : AST} {w : ZW} (hI : StI A) (hC : StC A w.1 w.2) (hT : Tw (A 0) (A 2) ≠ 0) {p m : Nat} (hp : p < A 2 0 0) (hm : m ≤ 1) : ∃ w', f_X11_where w (nI p) (nI m) = some (nI (bst (whf (A 0) (A 2) m p) 14), w') ∧ (∀ b j, ¬ (111 ≤ b ∧ b ≤ 116) → w'.1 b j = w.1 b j) ∧ (∀ b j, b ≠ 111 → w'.2 b j = w.2 b j) := by
  have hN8 := hI.2.2.1.1
  obtain ⟨w1, e1, a1, a2, a3, a4, a5⟩ := find11w hI.1 hI.2.2.1 hC.1 hC.2.2.1
  have lt := Tw_lt hI.1 hI.2.2.1
  refine ⟨w1, ?_, a1, a2⟩
  have wi : f_X11_within (nI p) (0 : Int32) (nI (A 2 0 0) - (1 : Int32)) = some 1 := by
    rw [within_eq, show (1 : Int32) = nI 1 from rfl, pk_sub (by omega), if_pos ⟨nle (a := 0) (by omega), nle (by omega)⟩]
  unfold f_X11_where
  rw [hC.2.2.1.1, wi, Option.bind_some, if_neg i10, within_rg, Option.bind_some, if10, if_pos (rg_y (Nat.zero_le _) hm (by decide)), e1, Option.bind_some, show w1.2 111 0 = lN (Tw (A 0) (A 2)) from a3, if_neg (fun h => hT ((lc0 lt).mp h)), locks11 (w := w1) hI.1 hI.2.2.1 hT a4 a5 (show p < 8 by omega) hm]
  rfl
theorem K_image {A : AST} {w : ZW} (hI : StI A) (hC : StC A w.1 w.2) : ∃ w', f_X11_image w = some (1, w') ∧ StC A w'.1 w'.2 ∧ StC A (fun a j => w'.1 (a + 55) j) (fun a j => w'.2 (a + 55) j) ∧ w'.1 0 2 = 1 ∧ (∀ b j, 111 ≤ b → w'.1 b j = w.1 b j) := by
  obtain ⟨r, e, c, l⟩ := takeS w
  have co : ∀ b k, ¬ (b = 0 ∧ k = 2) → (b < 57 ∨ 111 ≤ b) → (z_upI r 0 2 1).1 b k = w.1 b k := fun b k h1 h2 => by
    rw [upc h1]
    exact c.2 b k (fun q => by have h3 := q.1; have := q.2; unfold bC at h3; omega)
  refine ⟨z_upI r 0 2 1, ?_, fr_K (fun a j q => co a j (by unfold kC at q; omega) (by unfold kC at q; omega)) (fun a j q => ?_) hC, fb_StC hI (fun a j q => ?_) (fun a j q => ?_) hC, upc_e, fun b j h => co b j (by omega) (by omega)⟩
  · unfold f_X11_image
    rw [e, Option.bind_some, zl]
  · exact l.2 a j (fun z => by have h2 := z.1; have h3 := z.2; unfold bL at h2; unfold cL at q; omega)
  · show (z_upI r 0 2 1).1 (a + 55) j = w.1 a j
    rw [upc (by omega), c.1 (a + 55) j ⟨by rw [Nat.add_sub_cancel]; exact q, by unfold bC at q; omega⟩]
    unfold fS
    rw [Nat.add_sub_cancel]
  · show r.2 (a + 55) j = w.2 a j
    rw [l.1 (a + 55) j ⟨by rw [Nat.add_sub_cancel]; exact q, by unfold bL at q; omega⟩]
    unfold fS
    rw [Nat.add_sub_cancel]
theorem K_restore {A : AST} {w : ZW} (hI : StI A) (hC : StC A (fun a j => w.1 (a + 55) j) (fun a j => w.2 (a + 55) j)) (h0 : w.1 0 2 = 1) : ∃ w', f_X11_restore w = some (1, w') ∧ StC A w'.1 w'.2 ∧ (∀ b j, 111 ≤ b → w'.1 b j = w.1 b j) := by
  obtain ⟨r, e, c, l⟩ := takeR w
  refine ⟨r, ?_, fb_StC hI (fun a j q => ?_) (fun a j q => ?_) hC, fun b j h => c.2 b j (fun q => by unfold tCR bC at q; omega)⟩
  · unfold f_X11_restore
    rw [if_neg (by rw [h0]; exact i10), e, Option.bind_some]
  · exact c.1 a j q
  · exact l.1 a j q
theorem K_nightly {A : AST} {w : ZW} {n : Nat} (hI : StI A) (hC : StC A w.1 w.2) (n1 : 1 ≤ n) (n2 : n ≤ 3) : f_X11_nightly w (nI n) = some (nI (A 3 0 0), z_upI w 20 0 (nI n)) ∧ StI (aup A 3 (sup (A 3) 0 0 n)) ∧ StC (aup A 3 (sup (A 3) 0 0 n)) (z_upI w 20 0 (nI n)).1 (z_upI w 20 0 (nI n)).2 := by
  have c1 : f_X11_nightly w (nI n) = if rg 1 3 (nI n) = true then some (w.1 20 0, z_upI w 20 0 (nI n)) else some (-1, w) := by
    unfold f_X11_nightly
    rw [bind_eta]
    exact rg_if 1 3 (nI n) _ _
  refine ⟨?_, ⟨hI.1, hI.2.1, hI.2.2.1, ⟨⟨n1, n2⟩, fun p hp => ?_⟩, hI.2.2.2.2⟩, fr_RC (fun a j q => upc (by unfold cRC at q; omega)) hC.1, fr_SC (fun a j q => upc (by unfold cSC at q; omega)) hC.2.1, fr_NC (fun a j q => upc (by unfold cNC at q; omega)) (fun a j _ => rfl) hC.2.2.1, ⟨upc_e, fun p hp => ?_⟩, fr_GC (fun a j q => upc (by unfold cGC at q; omega)) hC.2.2.2.2⟩
  · rw [c1, if_pos (rg_y n1 n2 (by decide)), hC.2.2.2.1.1]
  · show sup (A 3) 0 0 n 1 p ≤ 99 ∧ sup (A 3) 0 0 n 2 p ≤ 9 ∧ sup (A 3) 0 0 n 3 p ≤ 5 ∧ (A 0 0 0 ≤ p → sup (A 3) 0 0 n 1 p = 0 ∧ sup (A 3) 0 0 n 2 p = 0 ∧ sup (A 3) 0 0 n 3 p = 0)
    rw [sup_n (by omega), sup_n (by omega), sup_n (by omega)]
    exact hI.2.2.2.1.2 p hp
  · show (z_upI w 20 0 (nI n)).1 21 p = nI (sup (A 3) 0 0 n 1 p) ∧ (z_upI w 20 0 (nI n)).1 22 p = nI (sup (A 3) 0 0 n 2 p) ∧ (z_upI w 20 0 (nI n)).1 23 p = nI (sup (A 3) 0 0 n 3 p)
    rw [sup_n (by omega), sup_n (by omega), sup_n (by omega), upc (by omega), upc (by omega), upc (by omega)]
    exact hC.2.2.2.1.2 p hp
theorem K_risk {A : AST} {w : ZW} {p k v : Nat} (hI : StI A) (hC : StC A w.1 w.2) (hp : p < A 0 0 0) (hk : k ≤ 1) (hv : v ≤ trm k) : f_X11_risk w (nI p) (nI k) (nI v) = some (nI (A 3 (k + 1) p), z_upI w (21 + k) p (nI v)) ∧ StI (aup A 3 (sup (A 3) (k + 1) p v)) ∧ StC (aup A 3 (sup (A 3) (k + 1) p v)) (z_upI w (21 + k) p (nI v)).1 (z_upI w (21 + k) p (nI v)).2 := by
  have hP := hI.1.1
  have ht := trm_lt k
  have c0 : f_X11_risk w (nI p) (nI k) (nI v) = f_X3_setTerm w (nI p) (nI k) (nI v) := by
    unfold f_X11_risk
    rw [X4_hasPanel_eq hC.1.1, if_pos (ix_y hp (by omega))]
    simp only [Option.bind_some]
    rw [if_neg i10, bind_eta]
  have n4 : ∀ i, sup (A 3) (k + 1) p v 3 i = A 3 3 i := fun i => sup_n (by omega)
  have n0 : sup (A 3) (k + 1) p v 0 0 = A 3 0 0 := sup_n (by omega)
  refine ⟨?_, ⟨hI.1, hI.2.1, hI.2.2.1, ⟨?_, fun i hi => ?_⟩, hI.2.2.2.2⟩, fr_RC (fun a j q => upc (by unfold cRC at q; omega)) hC.1, fr_SC (fun a j q => upc (by unfold cSC at q; omega)) hC.2.1, fr_NC (fun a j q => upc (by unfold cNC at q; omega)) (fun a j _ => rfl) hC.2.2.1, ⟨?_, fun i hi => ?_⟩, fr_GC (fun a j q => upc (by unfold cGC at q; omega)) hC.2.2.2.2⟩
  · rw [c0]
    unfold f_X3_setTerm
    rcases (show k = 0 ∨ k = 1 by omega) with rfl | rfl
    · rw [if_pos (show nI 0 = (0 : Int32) from rfl), show (99 : Int32) = nI 99 from rfl, change_eq (by omega), if_pos (rg_y (Nat.zero_le _) (show v ≤ 99 from hv) (by decide)), Option.bind_some, (hC.2.2.2.1.2 p (by omega)).1]
    · rw [if_neg (show ¬ nI 1 = (0 : Int32) by decide), if_pos (show nI 1 = (1 : Int32) from rfl), show (9 : Int32) = nI 9 from rfl, change_eq (by omega), if_pos (rg_y (Nat.zero_le _) (show v ≤ 9 from hv) (by decide)), Option.bind_some, (hC.2.2.2.1.2 p (by omega)).2.1]
  · show 1 ≤ sup (A 3) (k + 1) p v 0 0 ∧ sup (A 3) (k + 1) p v 0 0 ≤ 3
    rw [n0]
    exact hI.2.2.2.1.1
  · show sup (A 3) (k + 1) p v 1 i ≤ 99 ∧ sup (A 3) (k + 1) p v 2 i ≤ 9 ∧ sup (A 3) (k + 1) p v 3 i ≤ 5 ∧ (A 0 0 0 ≤ i → sup (A 3) (k + 1) p v 1 i = 0 ∧ sup (A 3) (k + 1) p v 2 i = 0 ∧ sup (A 3) (k + 1) p v 3 i = 0)
    obtain ⟨b1, b2, b3, b4⟩ := hI.2.2.2.1.2 i hi
    rw [n4]
    by_cases e : i = p
    · subst e
      rcases (show k = 0 ∨ k = 1 by omega) with rfl | rfl
      · rw [show sup (A 3) (0 + 1) i v 1 i = v from sup_e, sup_n (by omega)]
        exact ⟨hv, b2, b3, fun h => by omega⟩
      · rw [show sup (A 3) (1 + 1) i v 2 i = v from sup_e, sup_n (by omega)]
        exact ⟨b1, hv, b3, fun h => by omega⟩
    · rw [sup_n (by omega), sup_n (by omega)]
      exact ⟨b1, b2, b3, b4⟩
  · show (z_upI w (21 + k) p (nI v)).1 20 0 = nI (sup (A 3) (k + 1) p v 0 0)
    rw [n0, upc (by omega)]
    exact hC.2.2.2.1.1
  · show (z_upI w (21 + k) p (nI v)).1 21 i = nI (sup (A 3) (k + 1) p v 1 i) ∧ (z_upI w (21 + k) p (nI v)).1 22 i = nI (sup (A 3) (k + 1) p v 2 i) ∧ (z_upI w (21 + k) p (nI v)).1 23 i = nI (sup (A 3) (k + 1) p v 3 i)
    obtain ⟨b1, b2, b3⟩ := hC.2.2.2.1.2 i hi
    rw [n4]
    by_cases e : i = p
    · subst e
      rcases (show k = 0 ∨ k = 1 by omega) with rfl | rfl
      · rw [show sup (A 3) (0 + 1) i v 1 i = v from sup_e, sup_n (by omega), show (z_upI w (21 + 0) i (nI v)).1 21 i = nI v from upc_e, upc (by omega), upc (by omega)]
        exact ⟨rfl, b2, b3⟩
      · rw [show sup (A 3) (1 + 1) i v 2 i = v from sup_e, sup_n (by omega), show (z_upI w (21 + 1) i (nI v)).1 22 i = nI v from upc_e, upc (by omega), upc (by omega)]
        exact ⟨b1, rfl, b3⟩
    · rw [sup_n (by omega), sup_n (by omega), upc (by omega), upc (by omega), upc (by omega)]
      exact ⟨b1, b2, b3⟩
theorem K_order {A : AST} {w : ZW} {M all : Nat} (hI : StI A) (hC : StC A w.1 w.2) (h0 : A 0 0 0 ≠ 0) (hm : M = 1000000) (ha : all + 1 = 2 ^ A 0 0 0) : ∃ w', f_X11_order w (-1) = some (nI (ob (A 3) M 12 all), w') ∧ (∀ b j, ¬ ((b = 20 ∧ j = 8) ∨ (25 ≤ b ∧ b ≤ 52)) → w'.1 b j = w.1 b j) ∧ w'.2 = w.2 := by
  have hP := hI.1.1
  obtain ⟨w1, e1, f1, f2, f3, f4⟩ := plan11 hI.2.2.2.1 hP hC.2.2.2.1 hm ha
  have z0 : nI (A 0 0 0) = 0 ↔ A 0 0 0 = 0 := nI_inj (by omega) (show 0 < 2 ^ 31 by omega)
  refine ⟨w1, ?_, f1, f2⟩
  unfold f_X11_order
  rw [if_pos rfl]
  unfold f_X11_order_J21
  rw [hC.1.1, if_neg (fun h => h0 (z0.mp h)), e1, Option.bind_some]
  unfold f_X3_costInAll
  rw [f3, Option.bind_some, if_pos rfl]
theorem K_needed {A : AST} {w : ZW} {n : Nat} (hI : StI A) (hC : StC A w.1 w.2) (n1 : n ≠ 0) (n2 : n < 2 ^ 14) (n3 : ∀ i, n.testBit i = true → i < A 0 0 1 ∧ (A 0 0 2).testBit i = false) : ∃ w', f_X11_needed w (nI n) = some (if nv (A 0) n = 1000000000 then -4 else nI (nv (A 0) n), w') := by
  have hg : sgA (A 0) (nI n) = true := by
    unfold sgA
    rw [nI_clamp (by omega), (sgt_iff hI.1.2.1 (by omega)).mpr ⟨n1, n3⟩, Bool.and_true]
    have : ¬ nI n ≤ 0 := nnle (b := 0) (by omega)
    simp [this]
  obtain ⟨w1, e1, f1, f2, f3⟩ := learn11 hI.1 hC.1
  refine ⟨w1, ?_⟩
  unfold f_X11_needed
  rw [sought11 hI.1 hC.1, Option.bind_some, if10, if_pos hg, e1, Option.bind_some, need11 hI.1.2.1 f3 n2, Option.bind_some]
