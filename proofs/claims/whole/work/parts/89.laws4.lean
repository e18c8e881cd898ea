/-! laws: both sides -/
def lv (S : ST) (n0 m : Nat) : Int32 := if m = 0 then nI (lc S n0) else if fo S n0 = 0 then -4 else if m = 1 then nI ((fo S n0 - 1) / 10) else nI ((fo S n0 - 1) % 10)
theorem nI_nz {m : Nat} (h : m ≠ 0) (hm : m < 2 ^ 31) : ¬ nI m = 0 := by
  rw [show (0 : Int32) = nI 0 from rfl, nI_inj hm (by omega)]
  exact h
theorem fo_le {S : ST} : ∀ i, fo S i ≤ 210
  | 0 => Nat.zero_le _
  | i + 1 => by
    have := fo_le (S := S) i
    rw [fo_s]
    split <;> omega
theorem laws11 {S : ST} {w : ZW} (hI : GrowI S) (hC : GrowC S w.1) {m n0 : Nat} (hm : m ≤ 2) (hn : n0 = 210) : ∃ w', f_X0_lawsThatFit w (nI m) = some (lv S n0 m, w') ∧ gfr w w' := by
  obtain ⟨res, e, h⟩ := outer11 hI hC hm
  unfold f_X0_lawsThatFit
  rw [e, Option.bind_some]
  rcases h with ⟨w', rfl, h2, h3⟩ | ⟨n, w', h1, rfl, h3, h4, h5, h6⟩
  · refine ⟨w', ?_, h2⟩
    rw [Sum.elim_inr]
    unfold lv
    by_cases z : m = 0
    · rw [if_pos z, if_pos (by rw [z]; rfl), hn]
    · have := fo_none (h3 z) 210 (Nat.le_refl _)
      rw [if_neg z, if_neg (nI_nz z (by omega)), hn, if_pos this]
  · refine ⟨w', ?_, h6⟩
    rw [Sum.elim_inl]
    have f := fo_first h1 h4 h5 n (Nat.le_refl _)
    rw [show 210 - n + n = 210 by omega] at f
    unfold lv
    rw [if_neg h3, hn, f, if_neg (Nat.succ_ne_zero n), Nat.add_sub_cancel]
theorem laws12 {S : ST} {w : ZW} (hI : GrowI S) (hM : GrowM S w.1) {m n0 : Nat} (hm : m ≤ 2) (hn : n0 = 210) : ∃ w', f_X12_laws w (nI m) = some (lv S n0 m, w') ∧ lfr w w' := by
  obtain ⟨w', e, f⟩ := model12 hI hM hn
  refine ⟨w', ?_, f⟩
  have u := uc_lc (S := S) n0 (by omega)
  rw [show 210 - n0 = 0 by omega, ← hn, show lc S 0 = 0 from rfl, Nat.zero_add] at u
  have fl := fo_le (S := S) n0
  have g : rg 0 2 (nI m) = true := by rw [rg_nI (by omega) (by omega) (by omega)]; simp; omega
  unfold f_X12_laws
  rw [in_rg _ _ _ (by decide) (by decide), Option.bind_some, if10, if_pos g, e, Option.bind_some]
  dsimp only
  unfold lv
  by_cases z : m = 0
  · rw [if_pos z, if_pos (by rw [z]; rfl), u]
  · rw [if_neg z, if_neg (nI_nz z (by omega))]
    by_cases y : fo S n0 = 0
    · rw [if_pos y, y, hol_0, if_neg (by decide)]
    · rw [if_neg y, hol_p y, show (0 : Int32) = nI 0 from rfl, ile (by omega) (by omega), if_pos (Nat.zero_le _), show (10 : Int32) = nI 10 from rfl, pk_rem (by omega) (by omega) (by omega), pk_div (by omega) (by omega) (by omega), show (1 : Int32) = nI 1 from rfl, ieq (by omega) (by omega)]
      split <;> rfl
theorem sim_laws {w : ZW} (h : Rel w) (a : Int32) : ∃ r w1 w2, f_X11_laws w a = some (r, w1) ∧ f_X12_laws w1 a = some (r, w2) ∧ Rel w2 := by
  have h0 := h
  obtain ⟨A, hA⟩ := h
  obtain ⟨hI, hC, hM, -⟩ := id hA
  by_cases g : rg 0 2 a = true
  · obtain ⟨m, hm, rfl⟩ := rg_0 g (by decide)
    obtain ⟨n0, hn⟩ : ∃ n0, n0 = 210 := ⟨_, rfl⟩
    obtain ⟨w1, e1, f1⟩ := laws11 hI.2.2.2.2 hC.2.2.2.2 hm hn
    have hM1 : GrowM (A 4) w1.1 := fr_GM (fun a j q => f1.1 a j (by unfold cGM at q; omega)) hM.2.2.2.2
    obtain ⟨w2, e2, f2⟩ := laws12 hI.2.2.2.2 hM1 hm hn
    refine ⟨lv (A 4) n0 m, w1, w2, ?_, e2, A, fr_X (fun a j q => ?_) (fun a j q => ?_) hA⟩
    · unfold f_X11_laws
      rw [within_rg, Option.bind_some, if10, if_pos g, e1]
      rfl
    · rw [f2.1 a j (fun z => q (by unfold cX; omega)), f1.1 a j (fun z => q (by unfold cX; omega))]
    · rw [f2.2, f1.2]
  · refine ⟨-1, w, w, ?_, ?_, h0⟩
    · unfold f_X11_laws
      rw [within_rg, Option.bind_some, if10, if_neg g]
    · unfold f_X12_laws
      rw [in_rg _ _ _ (by decide) (by decide), Option.bind_some, if10, if_neg g]
