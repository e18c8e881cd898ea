/-! frames: which cells each part of the state reads -/
def cRC (a j : Nat) : Prop := (a = 2 ∧ (j = 0 ∨ j = 4 ∨ j = 5)) ∨ (3 ≤ a ∧ a ≤ 11)
def cSC (a j : Nat) : Prop := (a = 12 ∧ j = 0) ∨ (13 ≤ a ∧ a ≤ 15)
def cNC (a j : Nat) : Prop := a = 16 ∧ (j = 0 ∨ j = 1)
def cL (a : Nat) : Prop := 17 ≤ a ∧ a ≤ 19
def cNiC (a j : Nat) : Prop := (a = 20 ∧ j = 0) ∨ (21 ≤ a ∧ a ≤ 23)
def cGC (a _j : Nat) : Prop := a = 54 ∨ a = 55
theorem fr_RC {R : ST} {c c' : Nat → Nat → Int32} (f : ∀ a j, cRC a j → c' a j = c a j) (h : RailC R c) : RailC R c' := by
  obtain ⟨h1, h2, h3, h4, h5⟩ := h
  refine ⟨(f _ _ (by unfold cRC; omega)).trans h1, (f _ _ (by unfold cRC; omega)).trans h2, (f _ _ (by unfold cRC; omega)).trans h3, fun p hp => ?_, fun i hi => ?_⟩
  · obtain ⟨g1, g2, g3⟩ := h4 p hp
    exact ⟨(f _ _ (by unfold cRC; omega)).trans g1, (f _ _ (by unfold cRC; omega)).trans g2, (f _ _ (by unfold cRC; omega)).trans g3⟩
  · obtain ⟨g1, g2, g3, g4, g5, g6⟩ := h5 i hi
    exact ⟨(f _ _ (by unfold cRC; omega)).trans g1, (f _ _ (by unfold cRC; omega)).trans g2, (f _ _ (by unfold cRC; omega)).trans g3, (f _ _ (by unfold cRC; omega)).trans g4, (f _ _ (by unfold cRC; omega)).trans g5, (f _ _ (by unfold cRC; omega)).trans g6⟩
theorem fr_SC {S : ST} {c c' : Nat → Nat → Int32} (f : ∀ a j, cSC a j → c' a j = c a j) (h : SightC S c) : SightC S c' := by
  refine ⟨(f _ _ (by unfold cSC; omega)).trans h.1, fun p hp => ⟨(f _ _ (by unfold cSC; omega)).trans (h.2 p hp).1, fun q => ⟨(f _ _ (by unfold cSC; omega)).trans ((h.2 p hp).2 q).1, (f _ _ (by unfold cSC; omega)).trans ((h.2 p hp).2 q).2⟩⟩⟩
theorem fr_NC {S : ST} {c c' : Nat → Nat → Int32} {d d' : Nat → Nat → Int64} (f : ∀ a j, cNC a j → c' a j = c a j) (g : ∀ a j, cL a → d' a j = d a j) (h : NamesC S c d) : NamesC S c' d' := by
  refine ⟨(f _ _ (by unfold cNC; omega)).trans h.1, (f _ _ (by unfold cNC; omega)).trans h.2.1, fun p hp => (g _ _ (by unfold cL; omega)).trans (h.2.2.1 p hp), fun l hl => ⟨(g _ _ (by unfold cL; omega)).trans (h.2.2.2 l hl).1, (g _ _ (by unfold cL; omega)).trans (h.2.2.2 l hl).2⟩⟩
theorem fr_NiC {S : ST} {c c' : Nat → Nat → Int32} (f : ∀ a j, cNiC a j → c' a j = c a j) (h : NightC S c) : NightC S c' :=
  ⟨(f _ _ (by unfold cNiC; omega)).trans h.1, fun p hp => ⟨(f _ _ (by unfold cNiC; omega)).trans (h.2 p hp).1, (f _ _ (by unfold cNiC; omega)).trans (h.2 p hp).2.1, (f _ _ (by unfold cNiC; omega)).trans (h.2 p hp).2.2⟩⟩
theorem fr_GC {S : ST} {c c' : Nat → Nat → Int32} (f : ∀ a j, cGC a j → c' a j = c a j) (h : GrowC S c) : GrowC S c' :=
  fun k hk => ⟨(f _ _ (by unfold cGC; omega)).trans (h k hk).1, (f _ _ (by unfold cGC; omega)).trans (h k hk).2⟩
theorem fr_StC {A : AST} {c c' : Nat → Nat → Int32} {d d' : Nat → Nat → Int64} (f : ∀ a j, cRC a j ∨ cSC a j ∨ cNC a j ∨ cNiC a j ∨ cGC a j → c' a j = c a j) (g : ∀ a j, cL a → d' a j = d a j) (h : StC A c d) : StC A c' d' := by
  obtain ⟨c1, c2, c3, c4, c5⟩ := h
  exact ⟨fr_RC (fun a j q => f a j (Or.inl q)) c1, fr_SC (fun a j q => f a j (Or.inr (Or.inl q))) c2, fr_NC (fun a j q => f a j (Or.inr (Or.inr (Or.inl q)))) g c3, fr_NiC (fun a j q => f a j (Or.inr (Or.inr (Or.inr (Or.inl q))))) c4, fr_GC (fun a j q => f a j (Or.inr (Or.inr (Or.inr (Or.inr q))))) c5⟩
