/-! nightly, risk, month -/
theorem Rel_night {A : AST} {w w' : ZW} {S' : ST} (hA : RelA A w) (hI' : NightI (A 0 0 0) S') (hC' : NightC S' w'.1) (hM' : NightM (A 0 0 0) S' w'.1) (fr : ∀ a j, ¬ (cNiC a j ∨ cNiM a j) → w'.1 a j = w.1 a j) (fl : w'.2 = w.2) : Rel w' := by
  obtain ⟨hI, hC, hM, hT, hS, hIm⟩ := hA
  have e : ∀ a j, ¬ ((a = 20 ∧ j = 0) ∨ (21 ≤ a ∧ a ≤ 23) ∨ (a = 130 ∧ j = 25) ∨ (149 ≤ a ∧ a ≤ 151)) → w'.1 a j = w.1 a j := fun a j q => fr a j (by unfold cNiC cNiM; omega)
  exact ⟨aup A 3 S', ⟨hI.1, hI.2.1, hI.2.2.1, hI', hI.2.2.2.2⟩, ⟨fr_RC (fun a j q => e a j (by unfold cRC at q; omega)) hC.1, fr_SC (fun a j q => e a j (by unfold cSC at q; omega)) hC.2.1, fr_NC (fun a j q => e a j (by unfold cNC at q; omega)) (fun a j _ => by rw [fl]) hC.2.2.1, hC', fr_GC (fun a j q => e a j (by unfold cGC at q; omega)) hC.2.2.2.2⟩, ⟨fr_RM (fun a j q => e a j (by unfold cRM at q; omega)) hM.1, fr_SM (fun a j q => e a j (by unfold cSM at q; omega)) hM.2.1, fr_NM (fun a j q => e a j (by unfold cNM at q; omega)) hM.2.2.1, hM', fr_GM (fun a j q => e a j (by unfold cGM at q; omega)) hM.2.2.2.2⟩, fr_T (fun a j q => e a j (by unfold cT at q; omega)) hT, fr_Sh (fun a j q => e a j (by unfold cSh at q; omega)) hS, fr_Im (fun a j q => e a j (by unfold cIm at q; omega)) (fun a j _ => by rw [fl]) hIm⟩
theorem Rel_grow {A : AST} {w w' : ZW} {S' : ST} (hA : RelA A w) (hI' : GrowI S') (hC' : GrowC S' w'.1) (hM' : GrowM S' w'.1) (fr : ∀ a j, ¬ (a = 54 ∨ a = 55 ∨ a = 153 ∨ a = 154) → w'.1 a j = w.1 a j) (fl : w'.2 = w.2) : Rel w' := by
  obtain ⟨hI, hC, hM, hT, hS, hIm⟩ := hA
  exact ⟨aup A 4 S', ⟨hI.1, hI.2.1, hI.2.2.1, hI.2.2.2.1, hI'⟩, ⟨fr_RC (fun a j q => fr a j (by unfold cRC at q; omega)) hC.1, fr_SC (fun a j q => fr a j (by unfold cSC at q; omega)) hC.2.1, fr_NC (fun a j q => fr a j (by unfold cNC at q; omega)) (fun a j _ => by rw [fl]) hC.2.2.1, fr_NiC (fun a j q => fr a j (by unfold cNiC at q; omega)) hC.2.2.2.1, hC'⟩, ⟨fr_RM (fun a j q => fr a j (by unfold cRM at q; omega)) hM.1, fr_SM (fun a j q => fr a j (by unfold cSM at q; omega)) hM.2.1, fr_NM (fun a j q => fr a j (by unfold cNM at q; omega)) hM.2.2.1, fr_NiM (fun a j q => fr a j (by unfold cNiM at q; omega)) hM.2.2.2.1, hM'⟩, fr_T (fun a j q => fr a j (by unfold cT at q; omega)) hT, fr_Sh (fun a j q => fr a j (by unfold cSh at q; omega)) hS, fr_Im (fun a j q => fr a j (by unfold cIm at q; omega)) (fun a j _ => by rw [fl]) hIm⟩
theorem lt_nle (a b : Int32) : a < b ↔ ¬ b ≤ a := by
  rw [Int32.le_iff_toInt_le, Int32.lt_iff_toInt_lt]
  omega
theorem rg_if {α : Type} (lo hi : Nat) (a : Int32) (x y : α) : (if a < nI lo then x else if a ≤ nI hi then y else x) = if rg lo hi a = true then y else x := by
  unfold rg
  by_cases h1 : nI lo ≤ a
  · rw [if_neg (by rw [lt_nle]; exact fun h => h h1)]
    by_cases h2 : a ≤ nI hi
    · rw [if_pos h2, if_pos (by simp [h1, h2])]
    · rw [if_neg h2, if_neg (by simp [h2])]
  · rw [if_pos (by rw [lt_nle]; exact h1), if_neg (by simp [h1])]
theorem sim_nightly {w : ZW} (h : Rel w) (a : Int32) : ∃ r w1 w2, f_X11_nightly w a = some (r, w1) ∧ f_X12_nightly w1 a = some (r, w2) ∧ Rel w2 := by
  have h0 := h
  obtain ⟨A, hA⟩ := h
  obtain ⟨hI, hC, hM, -⟩ := id hA
  have c1 : f_X11_nightly w a = if rg 1 3 a = true then some (w.1 20 0, z_upI w 20 0 a) else some (-1, w) := by
    unfold f_X11_nightly
    rw [bind_eta]
    exact rg_if 1 3 a _ _
  have m1 : ∀ w', f_X12_nightly w' a = if rg 1 3 a = true then some (w'.1 130 25, z_upI w' 130 25 a) else some (-1, w') := by
    intro w'
    unfold f_X12_nightly
    rw [in_rg _ _ _ (by decide) (by decide)]
    simp only [Option.bind_some, if10, z_let]
  rw [c1]
  by_cases g : rg 1 3 a = true
  · rw [if_pos g, hC.2.2.2.1.1]
    obtain ⟨n, n1, n2, rfl⟩ := rg_t g (by decide) (by decide)
    refine ⟨_, _, z_upI (z_upI w 20 0 (nI n)) 130 25 (nI n), rfl, ?_, ?_⟩
    · rw [m1, if_pos g, upc (by omega), hM.2.2.2.1.1]
    · refine Rel_night (S' := sup (A 3) 0 0 n) hA ⟨⟨n1, n2⟩, fun p hp => ?_⟩ ⟨?_, fun p hp => ?_⟩ ⟨upc_e, fun p hp => ?_⟩ (fun a j q => ?_) rfl
      · rw [sup_n (by omega), sup_n (by omega), sup_n (by omega)]
        exact hI.2.2.2.1.2 p hp
      · rw [upc (by omega), upc_e, sup_e]
      · rw [sup_n (by omega), sup_n (by omega), sup_n (by omega), upc (by omega), upc (by omega), upc (by omega), upc (by omega), upc (by omega), upc (by omega)]
        exact hC.2.2.2.1.2 p hp
      · rw [sup_n (by omega), sup_n (by omega), sup_n (by omega), upc (by omega), upc (by omega), upc (by omega), upc (by omega), upc (by omega), upc (by omega)]
        exact hM.2.2.2.1.2 p hp
      · unfold cNiC cNiM at q
        rw [upc (by omega), upc (by omega)]
  · rw [if_neg g]
    exact ⟨_, _, _, rfl, (m1 w).trans (if_neg g), h0⟩
/-- the bound of a term -/
def trm (k : Nat) : Nat := if k = 0 then 99 else if k = 1 then 9 else 5
theorem trm_lt (k : Nat) : trm k < 2 ^ 31 := by
  unfold trm
  split
  · omega
  · split <;> omega
theorem change_eq {w : ZW} {b p hi : Nat} (hp : p < 6) (a : Int32) : f_X3_change w b 6 (nI p) a (nI hi) = if rg 0 hi a = true then some (w.1 b p, z_upI w b p a) else some (-1, w) := by
  unfold f_X3_change
  rw [z_in_t hp (by omega), if_pos rfl, if_pos rfl, nI_clamp (show p < 2 ^ 31 by omega)]
  exact rg_if 0 hi a _ _
theorem j88_eq {w : ZW} {p k : Nat} (hp : p < 6) (hk : k ≤ 2) (a x : Int32) : f_X12_risk_J88 (nI k) (nI p) a x w = some (x, z_upI w (149 + k) p a) := by
  unfold f_X12_risk_J88
  rw [z_in_t hp (by omega), nI_clamp (show p < 2 ^ 31 by omega)]
  have : k = 0 ∨ k = 1 ∨ k = 2 := by omega
  rcases this with rfl | rfl | rfl
  · rw [if_pos (show nI 0 = 0 from rfl)]; rfl
  · rw [if_neg (show ¬ nI 1 = 0 by decide), if_pos (show nI 1 = 1 from rfl)]; rfl
  · rw [if_neg (show ¬ nI 2 = 0 by decide), if_neg (show ¬ nI 2 = 1 by decide)]; rfl
theorem j47_eq {w : ZW} {p k hi : Nat} (hp : p < 6) (hk : k ≤ 2) (hh : hi < 2 ^ 31) (a : Int32) : f_X12_risk_J47 (nI k) (nI p) a (OfNat.ofNat hi) 0 a.toInt64 w = if rg 0 hi a = true then some (w.1 (149 + k) p, z_upI w (149 + k) p a) else some (-1, w) := by
  unfold f_X12_risk_J47
  rw [show (0 : Int64) = OfNat.ofNat 0 from rfl, in_rg a 0 hi (by decide) hh]
  simp only [Option.bind_some, if10]
  rw [z_in_t hp (by omega), nI_clamp (show p < 2 ^ 31 by omega), j88_eq hp hk, j88_eq hp hk, j88_eq hp hk]
  by_cases g : rg 0 hi a = true
  · rw [if_pos g, if_pos g]
    have : k = 0 ∨ k = 1 ∨ k = 2 := by omega
    rcases this with rfl | rfl | rfl
    · rw [if_pos (show nI 0 = 0 from rfl)]; rfl
    · rw [if_neg (show ¬ nI 1 = 0 by decide), if_pos (show nI 1 = 1 from rfl)]; rfl
    · rw [if_neg (show ¬ nI 2 = 0 by decide), if_neg (show ¬ nI 2 = 1 by decide)]; rfl
  · rw [if_neg g, if_neg g]
theorem sim_risk {w : ZW} (h : Rel w) (a b c : Int32) : ∃ r w1 w2, f_X11_risk w a b c = some (r, w1) ∧ f_X12_risk w1 a b c = some (r, w2) ∧ Rel w2 := by
  have h0 := h
  obtain ⟨A, hA⟩ := h
  obtain ⟨hI, hC, hM, -⟩ := id hA
  have hP := hI.1.1
  by_cases hb : ixb (A 0 0 0) a = true
  · obtain ⟨p, hp, rfl⟩ := ix_t (by omega) hb
    have c0 : f_X11_risk w (nI p) b c = f_X3_setTerm w (nI p) b c := by
      unfold f_X11_risk
      rw [X4_hasPanel_eq hC.1.1, if_pos hb]
      simp only [Option.bind_some]
      rw [if_neg i10, bind_eta]
    have m0 : ∀ w', w'.1 130 0 = nI (A 0 0 0) → f_X12_risk w' (nI p) b c = if rg 0 2 b = true then (if b = 0 then f_X12_risk_J47 b (nI p) c 99 0 c.toInt64 w' else if b = 1 then f_X12_risk_J47 b (nI p) c 9 0 c.toInt64 w' else f_X12_risk_J47 b (nI p) c 5 0 c.toInt64 w') else some (-1, w') := by
      intro w' hw
      unfold f_X12_risk
      rw [X12_isPanel_eq (by omega) hw, if_pos hb, in_rg _ _ _ (by decide) (by decide)]
      simp only [Option.bind_some, if10]
      rw [if_neg i10]
    by_cases g : rg 0 2 b = true
    · obtain ⟨k, hk, rfl⟩ := rg_0 g (by decide)
      have c2 : f_X3_setTerm w (nI p) (nI k) c = if rg 0 (trm k) c = true then some (w.1 (21 + k) p, z_upI w (21 + k) p c) else some (-1, w) := by
        unfold f_X3_setTerm
        rw [bind_eta, bind_eta, bind_eta]
        have : k = 0 ∨ k = 1 ∨ k = 2 := by omega
        rcases this with rfl | rfl | rfl
        · rw [if_pos (show nI 0 = 0 from rfl)]; exact change_eq (hi := 99) (by omega) c
        · rw [if_neg (show ¬ nI 1 = 0 by decide), if_pos (show nI 1 = 1 from rfl)]; exact change_eq (hi := 9) (by omega) c
        · rw [if_neg (show ¬ nI 2 = 0 by decide), if_neg (show ¬ nI 2 = 1 by decide), if_pos (show nI 2 = 2 from rfl)]; exact change_eq (hi := 5) (by omega) c
      have m2 : ∀ w', w'.1 130 0 = nI (A 0 0 0) → f_X12_risk w' (nI p) (nI k) c = if rg 0 (trm k) c = true then some (w'.1 (149 + k) p, z_upI w' (149 + k) p c) else some (-1, w') := by
        intro w' hw
        rw [m0 w' hw, if_pos g]
        have : k = 0 ∨ k = 1 ∨ k = 2 := by omega
        rcases this with rfl | rfl | rfl
        · rw [if_pos (show nI 0 = 0 from rfl)]; exact j47_eq (hi := 99) (by omega) (by omega) (by decide) c
        · rw [if_neg (show ¬ nI 1 = 0 by decide), if_pos (show nI 1 = 1 from rfl)]; exact j47_eq (hi := 9) (by omega) (by omega) (by decide) c
        · rw [if_neg (show ¬ nI 2 = 0 by decide), if_neg (show ¬ nI 2 = 1 by decide)]; exact j47_eq (hi := 5) (by omega) (by omega) (by decide) c
      rw [c0, c2]
      by_cases gv : rg 0 (trm k) c = true
      · rw [if_pos gv]
        obtain ⟨v, hv, rfl⟩ := rg_0 gv (trm_lt k)
        have oc := hC.2.2.2.1.2 p (by omega)
        have om := hM.2.2.2.1.2 p hp
        have oi := hI.2.2.2.1.2
        have er : w.1 (21 + k) p = w.1 (149 + k) p := by
          have : k = 0 ∨ k = 1 ∨ k = 2 := by omega
          rcases this with rfl | rfl | rfl
          · exact oc.1.trans om.1.symm
          · exact oc.2.1.trans om.2.1.symm
          · exact oc.2.2.trans om.2.2.symm
        have hw1 : (z_upI w (21 + k) p (nI v)).1 130 0 = nI (A 0 0 0) := by rw [upc (by omega)]; exact hM.1.1
        refine ⟨w.1 (21 + k) p, _, z_upI (z_upI w (21 + k) p (nI v)) (149 + k) p (nI v), rfl, ?_, ?_⟩
        · rw [m2 _ hw1, if_pos gv, upc (by omega), er]
        · have sp : ∀ i q, sup (A 3) (1 + k) p v i q = if i = 1 + k ∧ q = p then v else A 3 i q := fun _ _ => rfl
          refine Rel_night (S' := sup (A 3) (1 + k) p v) hA ⟨?_, fun q hq => ?_⟩ ⟨?_, fun q hq => ?_⟩ ⟨?_, fun q hq => ?_⟩ (fun a j q => ?_) rfl
          · rw [sup_n (by omega)]
            exact hI.2.2.2.1.1
          · obtain ⟨a1, a2, a3, a4⟩ := oi q hq
            unfold trm at hv
            have : k = 0 ∨ k = 1 ∨ k = 2 := by omega
            rcases this with rfl | rfl | rfl <;> simp only [sp] <;> simp at hv ⊢ <;> (by_cases e : q = p) <;> simp [e] <;> (try subst e) <;> omega
          · rw [upc (by omega), upc (by omega), sup_n (by omega)]
            exact hC.2.2.2.1.1
          · have := hC.2.2.2.1.2 q hq
            have c3 : k = 0 ∨ k = 1 ∨ k = 2 := by omega
            rcases c3 with rfl | rfl | rfl <;> (by_cases e : q = p) <;> simp [sp, z_upI, e] <;> (try subst e) <;> simp [this]
          · rw [upc (by omega), upc (by omega), sup_n (by omega)]
            exact hM.2.2.2.1.1
          · have := hM.2.2.2.1.2 q hq
            have c3 : k = 0 ∨ k = 1 ∨ k = 2 := by omega
            rcases c3 with rfl | rfl | rfl <;> (by_cases e : q = p) <;> simp [sp, z_upI, e] <;> (try subst e) <;> simp [this]
          · unfold cNiC cNiM at q
            rw [upc (by omega), upc (by omega)]
      · rw [if_neg gv]
        exact ⟨_, _, _, rfl, (m2 w hM.1.1).trans (if_neg gv), h0⟩
    · refine ⟨-1, w, w, ?_, (m0 w hM.1.1).trans (if_neg g), h0⟩
      rw [c0]
      unfold f_X3_setTerm
      have n0 := rg_no g (k := 0) (by decide) (by decide) (by decide)
      have n1 := rg_no g (k := 1) (by decide) (by decide) (by decide)
      have n2 := rg_no g (k := 2) (by decide) (by decide) (by decide)
      rw [if_neg n0, if_neg n1, if_neg n2]
  · refine ⟨-1, w, w, ?_, ?_, h0⟩
    · unfold f_X11_risk
      rw [X4_hasPanel_eq hC.1.1, if_neg hb]
      rfl
    · unfold f_X12_risk
      rw [X12_isPanel_eq (by omega) hM.1.1, if_neg hb]
      rfl
