/-! person -/
theorem m20 : ∀ e, e < 41 → ¬ (0 : Int32) ≤ -20 - nI e := by decide +kernel
def f0 : Nat → Nat := fun _ => 0
/-- what reading one name gives -/
theorem read0_eq {n : Nat} {t : Nat → Nat} (hn : n ≤ 40) (ht : ∀ i, i < n → 32 ≤ t i ∧ t i ≤ 126) {w : ZW} (hT : tC n t w) :
    (∀ e, nm false t n 0 0 f0 = .inl e → ∃ w', f_X10_readName w = some (-20 - nI e, w') ∧ w'.1 = w.1 ∧ ∀ a, a ≠ 120 → w'.2 a = w.2 a) ∧
    (∀ k f j, nm false t n 0 0 f0 = .inr (k, f, j) → ∃ w', f_X10_readName w = some (if j = n then nI k else -20 - nI j, w') ∧ w'.1 = w.1 ∧ (j = n → w'.2 120 1 = lN (pack f k)) ∧ ∀ a, a ≠ 120 → w'.2 a = w.2 a) := by
  have hr : f_X10_readName w = F10 (bI false) z_fuel (nI 0, nI 0, bI false, nI 0, z_upJ (z_upJ w 120 1 0) 120 2 0) := by
    unfold f_X10_readName
    rw [bind_eta]
    rfl
  obtain ⟨g1, g2⟩ := C_name hn ht false false n 0 0 0 f0 (z_upJ (z_upJ w 120 1 0) 120 2 0) z_fuel (by omega) (by omega) (fun m hm => by omega) hT (by simp [z_upJ]; rfl) (zf (by omega))
  rw [hr]
  refine ⟨fun e he => ?_, fun k f j he => ?_⟩
  · obtain ⟨w', p1, p2, p3⟩ := g1 e he
    exact ⟨w', p1, p2, fun a ha => (p3 a ha).trans ((upJ_ne ha).trans (upJ_ne ha))⟩
  · obtain ⟨N', w', p1, p2, p3, p4, p5, p6⟩ := g2 k f j he
    obtain ⟨a1, a2, a3, a4, a5, a6, a7⟩ := nm_inr n 0 0 f0 (by omega) (fun m hm => by omega) he
    have hT' : tC n t w' := by unfold tC; rw [p3]; exact hT
    have p6' : ∀ a, a ≠ 120 → w'.2 a = w.2 a := fun a ha => (p6 a ha).trans ((upJ_ne ha).trans (upJ_ne ha))
    rw [p1]
    by_cases e : j = n
    · subst e
      rw [if_pos rfl, F10_r (L20_end hn hT')]
      refine ⟨z_upJ w' 120 1 (w'.2 120 2), ?_, p3, fun _ => ?_, fun a ha => (upJ_ne ha).trans (p6' a ha)⟩
      · show f_X10_read_J144 (bI false) (nI (0 + (k - 0))) (nI k) (bI false) w' = _
        unfold f_X10_read_J144
        rw [show (0 : Int32) = nI 0 from rfl, ieq (by omega) (by omega), if_neg (by omega), if_pos rfl, if_pos (show bI false = nI 0 from rfl), Nat.zero_add, Nat.sub_zero]
        rfl
      · rw [p4.symm]
        simp [z_upJ]
    · rw [if_neg e]
      obtain ⟨t1, t2⟩ := a6 (by omega)
      have hc := (ht j (by omega)).2
      have hs : f_X10_read_L20 (bI false) (nI (0 + (k - 0)), nI k, bI false, nI j, w') = some (.inr (.inl ((-20 : Int32) - nI j, w'))) := by
        rw [L20_at hn ht hT' a2 (by omega), t2, if_neg (by simp), J84_eq false a2 hc, if_neg (by simp), J125_eq hc, if_neg t1]
      refine ⟨w', ?_, p3, fun h => absurd h e, p6'⟩
      rw [F10_r hs]
      rfl
theorem Rel_tape {A : AST} {w w' : ZW} (hA : RelA A w) (fr : ∀ a j, ¬ ((a = 120 ∧ j = 0) ∨ (a = 130 ∧ (j = 13 ∨ j = 14 ∨ j = 15)) ∨ a = 146) → w'.1 a j = w.1 a j) (fl : ∀ a, a ≠ 120 → w'.2 a = w.2 a) (c0 : w'.1 120 0 = 0) (m0 : w'.1 130 13 = 0) : RelA A w' := by
  obtain ⟨hI, hC, hM, hT, hS, hIm⟩ := hA
  exact ⟨hI, fr_StC (fun c j q => fr c j (by unfold cRC cSC cNC cNiC cGC at q; omega)) (fun c j q => by rw [fl c (by unfold cL at q; omega)]) hC, fr_StM (fun c j q => fr c j (by unfold cRM cSM cNM cNiM cGM at q; omega)) hM, ⟨0, fun _ => 0, by omega, fun i hi => by omega, c0, m0, fun i hi => by omega⟩, fr_Sh (fun c j q => fr c j (by unfold cSh at q; omega)) hS, fr_Im (fun c j q => fr c j (by unfold cIm at q; omega)) (fun c j q => by rw [fl c (by unfold cLi at q; omega)]) hIm⟩
def psR (S : ST) (q k : Nat) (f : Nat → Nat) : ST := fun a j => if a = 0 ∧ j = 0 then q + 1 else if a = 1 ∧ j = q then k else if a = 2 ∧ 6 * q ≤ j ∧ j < 6 * q + k then f (j - 6 * q) else S a j
theorem psR_o {S : ST} {q k a j : Nat} {f : Nat → Nat} (h : ¬ ((a = 0 ∧ j = 0) ∨ (a = 1 ∧ j = q) ∨ (a = 2 ∧ 6 * q ≤ j ∧ j < 6 * q + k))) : psR S q k f a j = S a j := by
  unfold psR
  rw [if_neg (by omega), if_neg (by omega), if_neg (by omega)]
theorem Rel_person {A : AST} {w w' : ZW} {k : Nat} {f : Nat → Nat} (hA : RelA A w) (hq : A 2 0 0 < 8) (hk : 1 ≤ k ∧ k ≤ 6) (hf : ∀ m, m < k → 65 ≤ f m ∧ f m ≤ 90) (fr : ∀ a j, ¬ ((a = 16 ∧ j = 0) ∨ (a = 141 ∧ 6 * A 2 0 0 ≤ j ∧ j < 6 * A 2 0 0 + k) ∨ (a = 142 ∧ j = A 2 0 0) ∨ (a = 130 ∧ j = 16)) → w'.1 a j = w.1 a j) (fl : ∀ a j, ¬ (a = 17 ∧ j = A 2 0 0) → w'.2 a j = w.2 a j)
    (c1 : w'.1 16 0 = nI (A 2 0 0 + 1)) (c2 : w'.2 17 (A 2 0 0) = lN (pack f k)) (m1 : w'.1 130 16 = nI (A 2 0 0 + 1)) (m2 : w'.1 142 (A 2 0 0) = nI k) (m3 : ∀ m, m < k → w'.1 141 (6 * A 2 0 0 + m) = nI (f m)) : Rel w' := by
  obtain ⟨hI, hC, hM, hT, hS, hIm⟩ := hA
  obtain ⟨i1, i2, i3, i4, i5⟩ := hI.2.2.1
  obtain ⟨d1, d2, d3, d4⟩ := hC.2.2.1
  obtain ⟨e1, e2, e3, e4⟩ := hM.2.2.1
  generalize hS' : psR (A 2) (A 2 0 0) k f = S'
  have o : ∀ a j, ¬ ((a = 0 ∧ j = 0) ∨ (a = 1 ∧ j = A 2 0 0) ∨ (a = 2 ∧ 6 * A 2 0 0 ≤ j ∧ j < 6 * A 2 0 0 + k)) → S' a j = A 2 a j := fun a j h => by rw [← hS']; exact psR_o h
  have s0 : S' 0 0 = A 2 0 0 + 1 := by rw [← hS']; rfl
  have s1 : S' 1 (A 2 0 0) = k := by rw [← hS']; unfold psR; simp
  have s2 : ∀ m, m < k → S' 2 (6 * A 2 0 0 + m) = f m := fun m hm => by
    rw [← hS']
    unfold psR
    rw [if_neg (by omega), if_neg (by omega), if_pos ⟨rfl, by omega, by omega⟩]
    congr 1
    omega
  clear hS'
  refine ⟨aup A 2 S', ⟨hI.1, hI.2.1, ?_, hI.2.2.2.1, hI.2.2.2.2⟩, ⟨fr_RC (fun a j q => fr a j (by unfold cRC at q; omega)) hC.1, fr_SC (fun a j q => fr a j (by unfold cSC at q; omega)) hC.2.1, ?_, fr_NiC (fun a j q => fr a j (by unfold cNiC at q; omega)) hC.2.2.2.1, fr_GC (fun a j q => fr a j (by unfold cGC at q; omega)) hC.2.2.2.2⟩, ⟨fr_RM (fun a j q => fr a j (by unfold cRM at q; omega)) hM.1, fr_SM (fun a j q => fr a j (by unfold cSM at q; omega)) hM.2.1, ?_, fr_NiM (fun a j q => fr a j (by unfold cNiM at q; omega)) hM.2.2.2.1, fr_GM (fun a j q => fr a j (by unfold cGM at q; omega)) hM.2.2.2.2⟩, fr_T (fun a j q => fr a j (by unfold cT at q; omega)) hT, fr_Sh (fun a j q => fr a j (by unfold cSh at q; omega)) hS, fr_Im (fun a j q => fr a j (by unfold cIm at q; omega)) (fun a j q => fl a j (by unfold cLi at q; omega)) hIm⟩
  · show NamesI (A 0 0 1) S'
    refine ⟨by rw [s0]; omega, ?_, ?_, fun p hp => ?_, fun l hl => ?_⟩
    · rw [o 0 1 (by omega)]; exact i2
    · rw [o 0 1 (by omega)]; exact i3
    · rw [s0] at hp
      by_cases e : p = A 2 0 0
      · subst e
        rw [s1]
        exact ⟨hk.1, hk.2, fun m hm => by rw [s2 m hm]; exact hf m hm⟩
      · obtain ⟨b1, b2, b3⟩ := i4 p (by omega)
        rw [o 1 p (by omega)]
        refine ⟨b1, b2, fun m hm => ?_⟩
        rw [o 2 _ (by omega)]
        exact b3 m hm
    · rw [o 0 1 (by omega)] at hl
      rw [o 3 _ (by omega), o 4 _ (by omega)]
      obtain ⟨b1, b2, b3, b4⟩ := i5 l hl
      refine ⟨b1, b2, fun m hm => ?_, fun m hm => ?_⟩
      · rw [o 5 _ (by omega)]; exact b3 m hm
      · rw [o 5 _ (by omega)]; exact b4 m hm
  · show NamesC S' _ _
    refine ⟨by rw [s0]; exact c1, ?_, fun p hp => ?_, fun l hl => ?_⟩
    · rw [o 0 1 (by omega), fr _ _ (by omega)]; exact d2
    · rw [s0] at hp
      by_cases e : p = A 2 0 0
      · subst e
        rw [s1, c2]
        congr 1
        exact pack_cong k (fun m hm => (s2 m hm).symm)
      · have hb := (i4 p (by omega)).2.1
        rw [o 1 p (by omega), fl _ _ (by omega), d3 p (by omega)]
        congr 1
        exact pack_cong _ (fun m hm => by rw [o 2 _ (by omega)])
    · rw [o 0 1 (by omega)] at hl
      obtain ⟨b1, b2⟩ := d4 l hl
      rw [fl 18 _ (by omega), fl 19 _ (by omega), o 3 _ (by omega), o 4 _ (by omega), b1, b2]
      constructor
      · congr 1
        exact pack_cong _ (fun m hm => by rw [o 5 _ (by omega)])
      · congr 1
        exact pack_cong _ (fun m hm => by rw [o 5 _ (by omega)])
  · show NamesM (A 0 0 1) S' _
    refine ⟨by rw [s0]; exact m1, fun p hp => ?_, fun l hl => ?_, fun l hl => ?_⟩
    · rw [s0] at hp
      by_cases e : p = A 2 0 0
      · subst e
        rw [s1]
        exact ⟨m2, fun m hm => by rw [s2 m hm]; exact m3 m hm⟩
      · have hb := (i4 p (by omega)).2.1
        rw [o 1 p (by omega), fr _ _ (by omega)]
        refine ⟨(e2 p (by omega)).1, fun m hm => ?_⟩
        rw [o 2 _ (by omega), fr _ _ (by omega)]
        exact (e2 p (by omega)).2 m hm
    · rw [o 0 1 (by omega), o 3 _ (by omega), fr _ _ (by omega)]
      exact e3 l hl
    · rw [o 0 1 (by omega)] at hl
      rw [o 3 _ (by omega), o 4 _ (by omega), fr _ _ (by omega)]
      refine ⟨(e4 l hl).1, fun m hm => ?_, fun m hm => ?_⟩
      · rw [o 5 _ (by omega), fr _ _ (by omega)]; exact (e4 l hl).2.1 m hm
      · rw [o 5 _ (by omega), fr _ _ (by omega)]; exact (e4 l hl).2.2 m hm
theorem sk_self {q : Bool} {n : Nat} {t : Nat → Nat} {j : Nat} (h : j < n → t j ≠ 32 ∧ isL q (t j) = false) (hj : j ≤ n) : sk t (n - j) j = j := by
  by_cases e : j < n
  · obtain ⟨m, hm⟩ : ∃ m, n - j = m + 1 := ⟨n - j - 1, by omega⟩
    rw [hm]
    exact if_neg (h e).1
  · rw [show n - j = 0 by omega]
    rfl
/-- the model's ends -/
theorem p37_bad {x : Int32} {w : ZW} {e : Nat} (h : w.1 130 14 = nI e) : f_X12_person_J32 x w = some (-20 - nI e, z_upI (wrW w 1) 130 13 0) := by
  unfold f_X12_person_J32 f_X12_person_J37
  rw [show z_bo 1 = true from rfl, if_pos rfl]
  simp only [z_let]
  rw [upc (by omega), upc_e, if_neg i10, upc (by omega), upc (by omega), h]
  rfl
def cpW (w : ZW) (b o k : Nat) (f : Nat → Int32) : ZW := fillo w b o k f
theorem p37_ok {w : ZW} {q k : Nat} {f : Nat → Nat} (hq : q ≤ 8) (hk : k ≤ 6) (h16 : w.1 130 16 = nI q) (h6 : ∀ m, m < k → w.1 146 m = nI (f m)) : f_X12_person_J37 (nI k) 0 w = if q = 8 then some (-3, z_upI (wrW w 0) 130 13 0) else some (nI q, z_upI (z_upI (fillo (z_upI (wrW w 0) 130 13 0) 141 (6 * q) k (fun m => nI (f m))) 142 q (nI k)) 130 16 (nI (q + 1))) := by
  unfold f_X12_person_J37
  rw [show z_bo 0 = true from rfl, if_pos rfl]
  simp only [z_let]
  rw [upc (by omega), upc_e, if_pos rfl, upc (by omega), upc (by omega), h16, show (8 : Int32) = nI 8 from rfl, ieq (by omega) (by omega)]
  by_cases e : q = 8
  · rw [if_pos e, if_pos e]
    rfl
  · rw [if_neg e, if_neg e]
    have lp : z_iter (f_X12_person_L74 (nI k)) z_fuel ((0 : Int32), z_upI (wrW w 0) 130 13 0) = some (fillo (z_upI (wrW w 0) 130 13 0) 141 (6 * q) k (fun m => nI (f m))) := by
      rw [show ((0 : Int32), z_upI (wrW w 0) 130 13 0) = (nI 0, fillo (z_upI (wrW w 0) 130 13 0) 141 (6 * q) 0 (fun m => nI (f m))) by rw [fillo_0]; rfl]
      refine it_count (fun i => (nI i, fillo (z_upI (wrW w 0) 130 13 0) 141 (6 * q) i (fun m => nI (f m)))) k _ (fun i hi => ?_) ?_ (zf (by omega))
      · have e1 : (fillo (z_upI (wrW w 0) 130 13 0) 141 (6 * q) i (fun m => nI (f m))).1 130 16 = nI q := by
          rw [fillo_out (by omega), upc (by omega)]
          unfold wrW
          rw [upc (by omega), h16]
        have e2 : (fillo (z_upI (wrW w 0) 130 13 0) 141 (6 * q) i (fun m => nI (f m))).1 146 i = nI (f i) := by
          rw [fillo_out (by omega), upc (by omega)]
          unfold wrW
          rw [upc (by omega), h6 i hi]
        unfold f_X12_person_L74
        simp only []
        rw [if_neg (nnle hi), z_in_t (show i < 12 by omega) (by omega), if_pos rfl, e1, show (6 : Int32) = nI 6 from rfl, pk_mul, nI_add, z_in_t (show 6 * q + i < 48 by omega) (by omega), if_pos rfl, nI_clamp (show i < 2 ^ 31 by omega), nI_clamp (show 6 * q + i < 2 ^ 31 by omega), e2, nI_1]
        simp only [z_let]
        have := fillo_s (z_upI (wrW w 0) 130 13 0) 141 (6 * q) i (fun m => nI (f m))
        rw [this]
      · unfold f_X12_person_L74
        simp only []
        rw [if_pos (Int32.le_refl _)]
    have lp' : z_iter (f_X12_person_L74 (nI k)) z_fuel ((0 : Int32), z_upI (z_upI w 130 15 0) 130 13 0) = some (fillo (z_upI (wrW w 0) 130 13 0) 141 (6 * q) k (fun m => nI (f m))) := lp
    rw [lp']
    have e1 : (fillo (z_upI (wrW w 0) 130 13 0) 141 (6 * q) k (fun m => nI (f m))).1 130 16 = nI q := by
      rw [fillo_out (by omega), upc (by omega)]
      unfold wrW
      rw [upc (by omega), h16]
    simp only [Option.bind_some]
    rw [e1, z_in_t (show q < 8 by omega) (by omega), if_pos rfl, nI_clamp (show q < 2 ^ 31 by omega)]
    have e2 : (z_upI (fillo (z_upI (wrW w 0) 130 13 0) 141 (6 * q) k (fun m => nI (f m))) 142 q (nI k)).1 130 16 = nI q := by
      rw [upc (by omega), e1]
    rw [e2, upc_e, nI_1, show (1 : Int32) = nI 1 from rfl, pk_sub (by omega), Nat.add_sub_cancel]
theorem person_mdl {n : Nat} {t : Nat → Nat} (hn : n ≤ 40) (ht : ∀ i, i < n → 32 ≤ t i ∧ t i ≤ 126) {w1 : ZW} (hT : tM n t w1) :
    (∀ e, nm false t n 0 0 f0 = .inl e → ∃ x w3, f_X12_person w1 = f_X12_person_J32 x w3 ∧ w3.1 130 14 = nI e ∧ nfr 0 w1 w3) ∧
    (∀ k f j, nm false t n 0 0 f0 = .inr (k, f, j) → ∃ w3, f_X12_person w1 = (if j = n then f_X12_person_J37 (nI k) 0 w3 else f_X12_person_J32 (nI k) w3) ∧ w3.1 130 14 = nI j ∧ (∀ m, m < k → w3.1 146 m = nI (f m)) ∧ nfr 0 w1 w3) := by
  have nf2 : nfr 0 w1 (wrW (atW w1 0) 0) := ⟨fun c m q1 q2 => by unfold wrW; rw [upc (by omega), atW_o (by omega)], rfl⟩
  have hT2 : tM n t (wrW (atW w1 0) 0) := ⟨(nf2.1 _ _ (by omega) (by omega)).trans hT.1, fun i hi => (nf2.1 _ _ (by omega) (by omega)).trans (hT.2 i hi)⟩
  have en : f_X12_name (wrW (atW w1 0) 0) 0 0 = z_iter (f_X12_name_L16 (bI false) (nI 0)) z_fuel (nI 0, 1, wrW (atW w1 0) 0) := by
    rw [name_eq, if_pos (show (wrW (atW w1 0) 0).1 130 15 = 0 from upc_e)]
    rfl
  obtain ⟨m1, m2⟩ := M_name hn ht false (a := 0) (by omega) (n + 1) 0 0 f0 (wrW (atW w1 0) 0) z_fuel (by omega) (by omega) (by omega) hT2 (by unfold wrW; rw [upc (by omega), atW_1]) (fun m hm => by omega) (zf (by omega))
  rw [Nat.sub_zero] at m1 m2
  have e0 : z_upI (z_upI w1 130 14 (0 : Int32)) 130 15 (0 : Int32) = wrW (atW w1 0) 0 := rfl
  unfold f_X12_person
  simp only [z_let]
  rw [e0, en]
  refine ⟨fun e he => ?_, fun k f j he => ?_⟩
  · obtain ⟨x, w3, p1, p2, p3, p4⟩ := m1 e he
    refine ⟨x, w3, ?_, p3, ⟨fun c m q1 q2 => (p4.1 c m q1 q2).trans (nf2.1 c m q1 q2), p4.2.trans nf2.2⟩⟩
    rw [p1]
    simp only [Option.bind_some]
    rw [p2, if_neg i10]
  · obtain ⟨w3, p1, p2, p3, p4, p5⟩ := m2 k f j he
    obtain ⟨a1, a2, a3, a4, a5, a6, a7⟩ := nm_inr n 0 0 f0 (by omega) (fun m hm => by omega) he
    rw [Nat.zero_add] at a5 a6
    refine ⟨w3, ?_, p3, fun m hm => by have := p4 m hm; rw [Nat.zero_add] at this; exact this, ⟨fun c m q1 q2 => (p5.1 c m q1 q2).trans (nf2.1 c m q1 q2), p5.2.trans nf2.2⟩⟩
    have hT3 : tM n t w3 := ⟨(p5.1 130 13 (by omega) (by omega)).trans hT2.1, fun i hi => (p5.1 140 i (by omega) (by omega)).trans (hT2.2 i hi)⟩
    have hh := here_eq hn ht hT3 a5
    rw [atW_self p3, sk_self a6 a5, atW_self p3] at hh
    rw [p1]
    simp only [Option.bind_some]
    rw [p2, if_pos rfl, hh]
    simp only [Option.bind_some]
    by_cases e : j = n
    · have : chr n t j = 0 := if_neg (by omega)
      rw [this, if_pos (show nI 0 = 0 from rfl), if_pos e]
    · have h1 := (ht j (by omega)).1
      have h2 := (ht j (by omega)).2
      have : chr n t j = t j := if_pos (by omega)
      rw [this, if_neg e, show (0 : Int32) = nI 0 from rfl, ieq (by omega) (by omega), if_neg (by omega)]
theorem person_cls (w : ZW) : f_X11_person w = (f_X10_readName w).bind fun r1 : Int32 × ZW => if 0 ≤ r1.1 then f_X2_addPerson (z_upI r1.2 120 0 0) (r1.2.2 120 1) else some (r1.1, z_upI r1.2 120 0 0) := by
  unfold f_X11_person
  simp only [z_let, bind_eta]
  rfl
theorem person_badA {w w0 : ZW} {x : Int32} (hn : ¬ (0 : Int32) ≤ x) (h1 : f_X10_readName w = some (x, w0)) : f_X11_person w = some (x, z_upI w0 120 0 0) := by
  rw [person_cls, h1]
  exact if_neg hn
theorem person_badB {A : AST} {w w0 w3 : ZW} (hA : RelA A w) (h2 : w0.1 = w.1) (h3 : ∀ a, a ≠ 120 → w0.2 a = w.2 a) (p3 : nfr 0 (z_upI w0 120 0 0) w3) (x : Int32) : RelA A (z_upI (wrW w3 x) 130 13 0) := by
  have hc : ∀ a j, ¬ (a = 120 ∧ j = 0) → (z_upI w0 120 0 0).1 a j = w.1 a j := fun a j q => by rw [upc q, h2]
  refine Rel_tape hA (fun a j q => ?_) (fun a ha => ?_) ?_ upc_e
  · unfold wrW
    rw [upc (by omega), upc (by omega), p3.1 a j (by omega) (by omega), hc a j (by omega)]
  · show w3.2 a = w.2 a
    rw [p3.2]
    exact h3 a ha
  · unfold wrW
    rw [upc (by omega), upc (by omega), p3.1 _ _ (by omega) (by omega), upc_e]
theorem person_bad {A : AST} {w w0 : ZW} {e : Nat} (hA : RelA A w) (he : e ≤ 40) (h1 : f_X10_readName w = some (-20 - nI e, w0)) (h2 : w0.1 = w.1) (h3 : ∀ a, a ≠ 120 → w0.2 a = w.2 a) (h4 : ∃ x w3, f_X12_person (z_upI w0 120 0 0) = f_X12_person_J32 x w3 ∧ w3.1 130 14 = nI e ∧ nfr 0 (z_upI w0 120 0 0) w3) : ∃ r w1 w2, f_X11_person w = some (r, w1) ∧ f_X12_person w1 = some (r, w2) ∧ Rel w2 := by
  obtain ⟨x, w3, p1, p2, p3⟩ := h4
  exact ⟨-20 - nI e, z_upI w0 120 0 0, z_upI (wrW w3 1) 130 13 0, person_badA (m20 e (by omega)) h1, p1.trans (p37_bad p2), A, person_badB hA h2 h3 p3 1⟩
theorem addPerson_eq {w : ZW} {q : Nat} (h : w.1 16 0 = nI q) (hq : q ≤ 8) (x : Int64) : f_X2_addPerson w x = if q < 8 then some (nI q, z_upI (z_upJ w 17 q x) 16 0 (nI (q + 1))) else some (-3, w) := by
  unfold f_X2_addPerson
  rw [h, show (8 : Int32) = nI 8 from rfl, ilt (by omega) (by omega)]
  by_cases e : q < 8
  · rw [if_pos e, if_pos e, z_in_t e (by omega), if_pos rfl, nI_clamp (show q < 2 ^ 31 by omega)]
    simp only [z_let, upJ_1]
    rw [h, nI_1]
  · rw [if_neg e, if_neg e]
theorem sim_person {w : ZW} (h : Rel w) : ∃ r w1 w2, f_X11_person w = some (r, w1) ∧ f_X12_person w1 = some (r, w2) ∧ Rel w2 := by
  obtain ⟨A, hA⟩ := h
  obtain ⟨hI, hC, hM, ⟨n, t, hn, ht, t3, t4, t5⟩, hS, hIm⟩ := id hA
  have hq := hI.2.2.1.1
  obtain ⟨g1, g2⟩ := read0_eq hn ht (w := w) ⟨t3, fun i hi => (t5 i hi).1⟩
  have mdl : ∀ w1 : ZW, (∀ a j, ¬ ((a = 120 ∧ j = 0) ∨ (a = 16 ∧ j = 0)) → w1.1 a j = w.1 a j) → tM n t w1 := fun w1 hf => ⟨(hf _ _ (by omega)).trans t4, fun i hi => (hf _ _ (by omega)).trans (t5 i hi).2⟩
  cases hz : nm false t n 0 0 f0 with
  | inl e =>
    obtain ⟨w0, h1, h2, h3⟩ := g1 e hz
    have := nm_inl _ _ _ _ hz
    exact person_bad hA (by omega) h1 h2 h3 ((person_mdl hn ht (mdl _ (fun a j q => by rw [upc (by omega), h2]))).1 e hz)
  | inr v =>
    obtain ⟨k, f, j⟩ := v
    obtain ⟨w0, h1, h2, h3, h4⟩ := g2 k f j hz
    obtain ⟨a1, a2, a3, a4, a5, a6, a7⟩ := nm_inr n 0 0 f0 (by omega) (fun m hm => by omega) hz
    rw [Nat.zero_add] at a5
    by_cases e : j = n
    · rw [if_pos e] at h1
      have h3 := h3 e
      have hc : ∀ a j, ¬ (a = 120 ∧ j = 0) → (z_upI w0 120 0 0).1 a j = w.1 a j := fun a j q => by rw [upc q, h2]
      have hp : (z_upI w0 120 0 0).1 16 0 = nI (A 2 0 0) := by rw [hc _ _ (by omega)]; exact hC.2.2.1.1
      have eC : f_X11_person w = if A 2 0 0 < 8 then some (nI (A 2 0 0), z_upI (z_upJ (z_upI w0 120 0 0) 17 (A 2 0 0) (lN (pack f k))) 16 0 (nI (A 2 0 0 + 1))) else some (-3, z_upI w0 120 0 0) := by
        rw [person_cls, h1]
        simp only [Option.bind_some]
        rw [if_pos (show (0 : Int32) ≤ nI k from nle (a := 0) (by omega)), addPerson_eq hp hq, h3]
      by_cases q : A 2 0 0 < 8
      · rw [if_pos q] at eC
        generalize hw1 : z_upI (z_upJ (z_upI w0 120 0 0) 17 (A 2 0 0) (lN (pack f k))) 16 0 (nI (A 2 0 0 + 1)) = w1 at eC
        have f1 : ∀ a j, ¬ ((a = 120 ∧ j = 0) ∨ (a = 16 ∧ j = 0)) → w1.1 a j = w.1 a j := fun a j h => by
          rw [← hw1, upc (by omega), upJ_1, hc a j (by omega)]
        have v1 : w1.1 16 0 = nI (A 2 0 0 + 1) ∧ w1.1 120 0 = 0 ∧ w1.2 17 (A 2 0 0) = lN (pack f k) := by
          rw [← hw1]
          refine ⟨upc_e, ?_, ?_⟩
          · rw [upc (by omega), upJ_1, upc_e]
          · simp [z_upI, z_upJ]
        have l1 : ∀ a j, ¬ (a = 17 ∧ j = A 2 0 0) → a ≠ 120 → w1.2 a j = w.2 a j := fun a j h h' => by
          rw [← hw1, ← h4 a h']
          simp [z_upI, z_upJ, h]
        clear hw1
        obtain ⟨w3, p1, p2, p3, p4⟩ := (person_mdl hn ht (mdl w1 f1)).2 k f j hz
        rw [if_pos e, p37_ok (q := A 2 0 0) hq a2 (by rw [p4.1 _ _ (by omega) (by omega), f1 _ _ (by omega)]; exact hM.2.2.1.1) p3, if_neg (by omega)] at p1
        refine ⟨_, _, _, eC, p1, ?_⟩
        have fz : ∀ a j, ¬ ((a = 120 ∧ j = 0) ∨ (a = 16 ∧ j = 0) ∨ (a = 130 ∧ (j = 13 ∨ j = 14 ∨ j = 15)) ∨ a = 146) → (z_upI (wrW w3 0) 130 13 0).1 a j = w.1 a j := fun a j h => by
          unfold wrW
          rw [upc (by omega), upc (by omega), p4.1 a j (by omega) (by omega), f1 a j (by omega)]
        generalize hB : z_upI (wrW w3 0) 130 13 0 = wB at fz
        have vB : wB.1 120 0 = 0 ∧ wB.1 130 13 = 0 ∧ wB.1 16 0 = nI (A 2 0 0 + 1) ∧ wB.2 = w1.2 := by
          rw [← hB]
          refine ⟨?_, upc_e, ?_, p4.2⟩
          · unfold wrW
            rw [upc (by omega), upc (by omega), p4.1 _ _ (by omega) (by omega)]
            exact v1.2.1
          · unfold wrW
            rw [upc (by omega), upc (by omega), p4.1 _ _ (by omega) (by omega)]
            exact v1.1
        clear hB
        have hA2 : RelA A (fun a j => if a = 16 ∧ j = 0 then nI (A 2 0 0) else wB.1 a j, fun a j => if a = 17 ∧ j = A 2 0 0 then w.2 a j else wB.2 a j) := Rel_tape hA (fun a j h => by
          show (if a = 16 ∧ j = 0 then nI (A 2 0 0) else wB.1 a j) = _
          by_cases z : a = 16 ∧ j = 0
          · rw [if_pos z, z.1, z.2]
            exact hC.2.2.1.1.symm
          · rw [if_neg z]
            exact fz a j (by omega)) (fun a ha => funext fun j => by
          show (if a = 17 ∧ j = A 2 0 0 then w.2 a j else wB.2 a j) = _
          by_cases z : a = 17 ∧ j = A 2 0 0
          · rw [if_pos z]
          · rw [if_neg z, vB.2.2.2]
            exact l1 a j z ha) (by
          show (if 120 = 16 ∧ 0 = 0 then nI (A 2 0 0) else wB.1 120 0) = _
          rw [if_neg (by omega)]
          exact vB.1) (by
          show (if 130 = 16 ∧ 13 = 0 then nI (A 2 0 0) else wB.1 130 13) = _
          rw [if_neg (by omega)]
          exact vB.2.1)
        refine Rel_person (k := k) (f := f) hA2 q ⟨a1, a2⟩ (fun m hm => ?_) (fun a j h => ?_) (fun a j h => ?_) ?_ ?_ ?_ ?_ (fun m hm => ?_)
        · have := a7 m hm
          unfold isL at this
          simpa using this
        · rw [upc (by omega), upc (by omega), fillo_out (by omega)]
          exact (if_neg (by omega)).symm
        · exact (if_neg h).symm
        · rw [upc (by omega), upc (by omega), fillo_out (by omega)]
          exact vB.2.2.1
        · show wB.2 17 (A 2 0 0) = _
          rw [vB.2.2.2]
          exact v1.2.2
        · exact upc_e
        · rw [upc (by omega), upc_e]
        · rw [upc (by omega), upc (by omega), fillo_in (by omega) (by omega)]
          congr 2
          omega
      · rw [if_neg q] at eC
        obtain ⟨w3, p1, p2, p3, p4⟩ := (person_mdl hn ht (mdl (z_upI w0 120 0 0) (fun a j q => hc a j (by omega)))).2 k f j hz
        rw [if_pos e, p37_ok (q := A 2 0 0) hq a2 (by rw [p4.1 _ _ (by omega) (by omega), hc _ _ (by omega)]; exact hM.2.2.1.1) p3, if_pos (by omega)] at p1
        refine ⟨_, _, _, eC, p1, A, Rel_tape hA (fun a j q => ?_) (fun a ha => ?_) ?_ upc_e⟩
        · unfold wrW
          rw [upc (by omega), upc (by omega), p4.1 a j (by omega) (by omega), hc a j (by omega)]
        · show w3.2 a = w.2 a
          rw [p4.2]
          exact h4 a ha
        · unfold wrW
          rw [upc (by omega), upc (by omega), p4.1 _ _ (by omega) (by omega), upc_e]
    · rw [if_neg e] at h1
      obtain ⟨w3, p1, p2, p3, p4⟩ := (person_mdl hn ht (mdl (z_upI w0 120 0 0) (fun a j q => by rw [upc (by omega), h2]))).2 k f j hz
      rw [if_neg e] at p1
      exact person_bad hA (by omega) h1 h2 h4 ⟨nI k, w3, p1, p2, p4⟩
