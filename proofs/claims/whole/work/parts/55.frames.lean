/-! frames: which cells each part of the state reads -/
def cRC (a j : Nat) : Prop := (a = 2 ∧ (j = 0 ∨ j = 4 ∨ j = 5)) ∨ (3 ≤ a ∧ a ≤ 11)
def cRM (a j : Nat) : Prop := (a = 130 ∧ (j = 0 ∨ j = 2)) ∨ (131 ≤ a ∧ a ≤ 138)
def cSC (a j : Nat) : Prop := (a = 12 ∧ j = 0) ∨ (13 ≤ a ∧ a ≤ 15)
def cSM (a j : Nat) : Prop := (a = 130 ∧ j = 10) ∨ a = 139
def cNC (a j : Nat) : Prop := a = 16 ∧ (j = 0 ∨ j = 1)
def cNM (a j : Nat) : Prop := (a = 130 ∧ j = 16) ∨ (141 ≤ a ∧ a ≤ 145)
def cL (a : Nat) : Prop := 17 ≤ a ∧ a ≤ 19
def cNiC (a j : Nat) : Prop := (a = 20 ∧ j = 0) ∨ (21 ≤ a ∧ a ≤ 23)
def cNiM (a j : Nat) : Prop := (a = 130 ∧ j = 25) ∨ (149 ≤ a ∧ a ≤ 151)
def cGC (a _j : Nat) : Prop := a = 54 ∨ a = 55
def cGM (a _j : Nat) : Prop := a = 153 ∨ a = 154
def cT (a j : Nat) : Prop := (a = 120 ∧ j = 0) ∨ a = 121 ∨ (a = 130 ∧ j = 13) ∨ a = 140
def cSh (a _j : Nat) : Prop := (123 ≤ a ∧ a ≤ 124) ∨ (126 ≤ a ∧ a ≤ 129) ∨ (158 ≤ a ∧ a ≤ 160)
def cIm (a j : Nat) : Prop := (a = 0 ∧ j = 2) ∨ (57 ≤ a ∧ a ≤ 110) ∨ (a = 130 ∧ j = 37) ∨ a = 157
def cLi (a : Nat) : Prop := 72 ≤ a ∧ a ≤ 74
theorem fr_RC {R : ST} {c c' : Nat → Nat → Int32} (f : ∀ a j, cRC a j → c' a j = c a j) (h : RailC R c) : RailC R c' := by
  obtain ⟨h1, h2, h3, h4, h5⟩ := h
  refine ⟨(f _ _ (by unfold cRC; omega)).trans h1, (f _ _ (by unfold cRC; omega)).trans h2, (f _ _ (by unfold cRC; omega)).trans h3, fun p hp => ?_, fun i hi => ?_⟩
  · obtain ⟨g1, g2, g3⟩ := h4 p hp
    exact ⟨(f _ _ (by unfold cRC; omega)).trans g1, (f _ _ (by unfold cRC; omega)).trans g2, (f _ _ (by unfold cRC; omega)).trans g3⟩
  · obtain ⟨g1, g2, g3, g4, g5, g6⟩ := h5 i hi
    exact ⟨(f _ _ (by unfold cRC; omega)).trans g1, (f _ _ (by unfold cRC; omega)).trans g2, (f _ _ (by unfold cRC; omega)).trans g3, (f _ _ (by unfold cRC; omega)).trans g4, (f _ _ (by unfold cRC; omega)).trans g5, (f _ _ (by unfold cRC; omega)).trans g6⟩
theorem fr_RM {R : ST} {c c' : Nat → Nat → Int32} (f : ∀ a j, cRM a j → c' a j = c a j) (h : RailM R c) : RailM R c' := by
  obtain ⟨h1, h2, h4, h5⟩ := h
  refine ⟨(f _ _ (by unfold cRM; omega)).trans h1, (f _ _ (by unfold cRM; omega)).trans h2, fun p hp => ?_, fun i hi => ?_⟩
  · obtain ⟨g1, g2, g3⟩ := h4 p hp
    exact ⟨(f _ _ (by unfold cRM; omega)).trans g1, (f _ _ (by unfold cRM; omega)).trans g2, (f _ _ (by unfold cRM; omega)).trans g3⟩
  · obtain ⟨g1, g2, g3, g4, g5, g6, g7⟩ := h5 i hi
    exact ⟨(f _ _ (by unfold cRM; omega)).trans g1, (f _ _ (by unfold cRM; omega)).trans g2, (f _ _ (by unfold cRM; omega)).trans g3, (f _ _ (by unfold cRM; omega)).trans g4, (f _ _ (by unfold cRM; omega)).trans g5, (f _ _ (by unfold cRM; omega)).trans g6, (f _ _ (by unfold cRM; omega)).trans g7⟩
theorem fr_SC {S : ST} {c c' : Nat → Nat → Int32} (f : ∀ a j, cSC a j → c' a j = c a j) (h : SightC S c) : SightC S c' := by
  refine ⟨(f _ _ (by unfold cSC; omega)).trans h.1, fun p hp => ⟨(f _ _ (by unfold cSC; omega)).trans (h.2 p hp).1, fun q => ⟨(f _ _ (by unfold cSC; omega)).trans ((h.2 p hp).2 q).1, (f _ _ (by unfold cSC; omega)).trans ((h.2 p hp).2 q).2⟩⟩⟩
theorem fr_SM {S : ST} {c c' : Nat → Nat → Int32} (f : ∀ a j, cSM a j → c' a j = c a j) (h : SightM S c) : SightM S c' := by
  refine ⟨(f _ _ (by unfold cSM; omega)).trans h.1, fun p hp => ⟨(f _ _ (by unfold cSM; omega)).trans (h.2 p hp).1, (f _ _ (by unfold cSM; omega)).trans (h.2 p hp).2.1, (f _ _ (by unfold cSM; omega)).trans (h.2 p hp).2.2⟩⟩
theorem fr_NC {S : ST} {c c' : Nat → Nat → Int32} {d d' : Nat → Nat → Int64} (f : ∀ a j, cNC a j → c' a j = c a j) (g : ∀ a j, cL a → d' a j = d a j) (h : NamesC S c d) : NamesC S c' d' := by
  refine ⟨(f _ _ (by unfold cNC; omega)).trans h.1, (f _ _ (by unfold cNC; omega)).trans h.2.1, fun p hp => (g _ _ (by unfold cL; omega)).trans (h.2.2.1 p hp), fun l hl => ⟨(g _ _ (by unfold cL; omega)).trans (h.2.2.2 l hl).1, (g _ _ (by unfold cL; omega)).trans (h.2.2.2 l hl).2⟩⟩
theorem fr_NM {L : Nat} {S : ST} {c c' : Nat → Nat → Int32} (f : ∀ a j, cNM a j → c' a j = c a j) (h : NamesM L S c) : NamesM L S c' := by
  refine ⟨(f _ _ (by unfold cNM; omega)).trans h.1, fun p hp => ⟨(f _ _ (by unfold cNM; omega)).trans (h.2.1 p hp).1, fun k hk => (f _ _ (by unfold cNM; omega)).trans ((h.2.1 p hp).2 k hk)⟩, fun l hl => (f _ _ (by unfold cNM; omega)).trans (h.2.2.1 l hl), fun l hl => ⟨(f _ _ (by unfold cNM; omega)).trans (h.2.2.2 l hl).1, fun k hk => (f _ _ (by unfold cNM; omega)).trans ((h.2.2.2 l hl).2.1 k hk), fun k hk => (f _ _ (by unfold cNM; omega)).trans ((h.2.2.2 l hl).2.2 k hk)⟩⟩
theorem fr_NiC {S : ST} {c c' : Nat → Nat → Int32} (f : ∀ a j, cNiC a j → c' a j = c a j) (h : NightC S c) : NightC S c' :=
  ⟨(f _ _ (by unfold cNiC; omega)).trans h.1, fun p hp => ⟨(f _ _ (by unfold cNiC; omega)).trans (h.2 p hp).1, (f _ _ (by unfold cNiC; omega)).trans (h.2 p hp).2.1, (f _ _ (by unfold cNiC; omega)).trans (h.2 p hp).2.2⟩⟩
theorem fr_NiM {P : Nat} {S : ST} {c c' : Nat → Nat → Int32} (f : ∀ a j, cNiM a j → c' a j = c a j) (h : NightM P S c) : NightM P S c' :=
  ⟨(f _ _ (by unfold cNiM; omega)).trans h.1, fun p hp => ⟨(f _ _ (by unfold cNiM; omega)).trans (h.2 p hp).1, (f _ _ (by unfold cNiM; omega)).trans (h.2 p hp).2.1, (f _ _ (by unfold cNiM; omega)).trans (h.2 p hp).2.2⟩⟩
theorem fr_GC {S : ST} {c c' : Nat → Nat → Int32} (f : ∀ a j, cGC a j → c' a j = c a j) (h : GrowC S c) : GrowC S c' :=
  fun k hk => ⟨(f _ _ (by unfold cGC; omega)).trans (h k hk).1, (f _ _ (by unfold cGC; omega)).trans (h k hk).2⟩
theorem fr_GM {S : ST} {c c' : Nat → Nat → Int32} (f : ∀ a j, cGM a j → c' a j = c a j) (h : GrowM S c) : GrowM S c' :=
  fun k hk => ⟨fun q => (f _ _ (by unfold cGM; omega)).trans ((h k hk).1 q), fun q => ⟨(f _ _ (by unfold cGM; omega)).trans ((h k hk).2 q).1, (f _ _ (by unfold cGM; omega)).trans ((h k hk).2 q).2⟩⟩
theorem fr_T {w w' : ZW} (f : ∀ a j, cT a j → w'.1 a j = w.1 a j) (h : TapeR w) : TapeR w' := by
  obtain ⟨n, t, h1, h2, h3, h4, h5⟩ := h
  exact ⟨n, t, h1, h2, (f _ _ (by unfold cT; omega)).trans h3, (f _ _ (by unfold cT; omega)).trans h4, fun i hi => ⟨(f _ _ (by unfold cT; omega)).trans (h5 i hi).1, (f _ _ (by unfold cT; omega)).trans (h5 i hi).2⟩⟩
theorem fr_Sh {w w' : ZW} (f : ∀ a j, cSh a j → w'.1 a j = w.1 a j) (h : SheetR w) : SheetR w' := by
  intro s hs
  obtain ⟨h1, h2, ⟨z, h3, h4, h5⟩, h6⟩ := h s hs
  have e1 := f 123 s (by unfold cSh; omega)
  have e2 := f 124 s (by unfold cSh; omega)
  have e3 := f 158 s (by unfold cSh; omega)
  have e4 := f 159 s (by unfold cSh; omega)
  refine ⟨by rw [e1, e3]; exact h1, by rw [e3]; exact h2, ⟨z, h3, by rw [e2]; exact h4, by rw [e4]; exact h5⟩, fun i hi => ?_⟩
  rw [f (126 + s) i (by unfold cSh; omega), f 160 _ (by unfold cSh; omega)]
  exact h6 i hi
theorem fr_StC {A : AST} {c c' : Nat → Nat → Int32} {d d' : Nat → Nat → Int64} (f : ∀ a j, cRC a j ∨ cSC a j ∨ cNC a j ∨ cNiC a j ∨ cGC a j → c' a j = c a j) (g : ∀ a j, cL a → d' a j = d a j) (h : StC A c d) : StC A c' d' := by
  obtain ⟨c1, c2, c3, c4, c5⟩ := h
  exact ⟨fr_RC (fun a j q => f a j (Or.inl q)) c1, fr_SC (fun a j q => f a j (Or.inr (Or.inl q))) c2, fr_NC (fun a j q => f a j (Or.inr (Or.inr (Or.inl q)))) g c3, fr_NiC (fun a j q => f a j (Or.inr (Or.inr (Or.inr (Or.inl q))))) c4, fr_GC (fun a j q => f a j (Or.inr (Or.inr (Or.inr (Or.inr q))))) c5⟩
theorem fr_Im {w w' : ZW} (f : ∀ a j, cIm a j → w'.1 a j = w.1 a j) (g : ∀ a j, cLi a → w'.2 a j = w.2 a j) (h : ImgR w) : ImgR w' := by
  have e1 := f 0 2 (by unfold cIm; omega)
  have e2 := f 130 37 (by unfold cIm; omega)
  rcases h with ⟨h1, h2⟩ | ⟨h1, h2, A, hI, hC, hM⟩
  · exact Or.inl ⟨e1.trans h1, e2.trans h2⟩
  · refine Or.inr ⟨e1.trans h1, e2.trans h2, A, hI, fr_StC (fun a j q => f _ _ ?_) (fun a j q => g _ _ (by unfold cLi; unfold cL at q; omega)) hC, ?_⟩
    · unfold cRC cSC cNC cNiC cGC at q
      unfold cIm
      omega
    · have : w'.1 157 = w.1 157 := funext fun j => f _ _ (by unfold cIm; omega)
      rw [this]
      exact hM
theorem fr_StM {A : AST} {c c' : Nat → Nat → Int32} (f : ∀ a j, cRM a j ∨ cSM a j ∨ cNM a j ∨ cNiM a j ∨ cGM a j → c' a j = c a j) (h : StM A c) : StM A c' := by
  obtain ⟨c1, c2, c3, c4, c5⟩ := h
  exact ⟨fr_RM (fun a j q => f a j (Or.inl q)) c1, fr_SM (fun a j q => f a j (Or.inr (Or.inl q))) c2, fr_NM (fun a j q => f a j (Or.inr (Or.inr (Or.inl q)))) c3, fr_NiM (fun a j q => f a j (Or.inr (Or.inr (Or.inr (Or.inl q))))) c4, fr_GM (fun a j q => f a j (Or.inr (Or.inr (Or.inr (Or.inr q))))) c5⟩
/-- cells of which nothing is asked: what calls compute and forget -/
def cX (a j : Nat) : Prop := (20 = a ∧ j = 8) ∨ (24 ≤ a ∧ a ≤ 52) ∨ (a = 53) ∨ (111 ≤ a ∧ a ≤ 119) ∨ (a = 130 ∧ (j = 14 ∨ j = 15 ∨ j = 32 ∨ j = 33)) ∨ a = 146 ∨ a = 147 ∨ a = 148 ∨ a = 152 ∨ a = 155 ∨ a = 156 ∨ a = 161
def cXl (a : Nat) : Prop := a = 111 ∨ a = 120 ∨ a = 147 ∨ a = 148
theorem fr_X {w w' : ZW} (f : ∀ a j, ¬ cX a j → w'.1 a j = w.1 a j) (g : ∀ a j, ¬ cXl a → w'.2 a j = w.2 a j) {A : AST} (h : RelA A w) : RelA A w' := by
  obtain ⟨hI, hC, hM, hT, hS, hIm⟩ := h
  refine ⟨hI, fr_StC (fun a j q => f _ _ ?_) (fun a j q => g _ _ (by unfold cXl; unfold cL at q; omega)) hC, fr_StM (fun a j q => f _ _ ?_) hM, fr_T (fun a j q => f _ _ ?_) hT, fr_Sh (fun a j q => f _ _ ?_) hS, fr_Im (fun a j q => f _ _ ?_) (fun a j q => g _ _ (by unfold cXl; unfold cLi at q; omega)) hIm⟩
  · unfold cRC cSC cNC cNiC cGC at q
    unfold cX
    omega
  · unfold cRM cSM cNM cNiM cGM at q
    unfold cX
    omega
  · unfold cT at q
    unfold cX
    omega
  · unfold cSh at q
    unfold cX
    omega
  · unfold cIm at q
    unfold cX
    omega
