/-! model: a name from the tape -/
def tM (n : Nat) (t : Nat → Nat) (w : ZW) : Prop := w.1 130 13 = nI n ∧ ∀ i, i < n → w.1 140 i = nI (t i)
def sk (t : Nat → Nat) : Nat → Nat → Nat
  | 0, i => i
  | d + 1, i => if t i = 32 then sk t d (i + 1) else i
theorem sk_b {t : Nat → Nat} : ∀ d i, i ≤ sk t d i ∧ sk t d i ≤ i + d ∧ (sk t d i < i + d → t (sk t d i) ≠ 32)
  | 0, i => ⟨Nat.le_refl _, Nat.le_refl _, fun h => by unfold sk at h; omega⟩
  | d + 1, i => by
    unfold sk
    by_cases e : t i = 32
    · rw [if_pos e]
      obtain ⟨h1, h2, h3⟩ := sk_b (t := t) d (i + 1)
      exact ⟨by omega, by omega, fun h => h3 (by omega)⟩
    · rw [if_neg e]
      exact ⟨Nat.le_refl _, by omega, fun _ => e⟩
theorem nm_sk {q : Bool} {t : Nat → Nat} : ∀ d i k f, nm q t d i k f = nm q t (i + d - sk t d i) (sk t d i) k f
  | 0, i, k, f => by
    unfold sk
    rw [show i + 0 - i = 0 by omega]
  | d + 1, i, k, f => by
    by_cases e : t i = 32
    · have e1 : nm q t (d + 1) i k f = nm q t d (i + 1) k f := if_pos e
      have e2 : sk t (d + 1) i = sk t d (i + 1) := if_pos e
      rw [e1, e2, nm_sk d (i + 1) k f, show i + 1 + d - sk t d (i + 1) = i + (d + 1) - sk t d (i + 1) by omega]
    · have e2 : sk t (d + 1) i = i := if_neg e
      rw [e2, show i + (d + 1) - i = d + 1 by omega]
/-- where the reading stands -/
def atW (w : ZW) (i : Nat) : ZW := z_upI w 130 14 (nI i)
theorem atW_at {w : ZW} {i j : Nat} : atW (atW w i) j = atW w j := by
  unfold atW z_upI
  refine Prod.ext (funext fun c => funext fun m => ?_) rfl
  show (if c = 130 ∧ m = 14 then nI j else if c = 130 ∧ m = 14 then nI i else w.1 c m) = (if c = 130 ∧ m = 14 then nI j else w.1 c m)
  by_cases q : c = 130 ∧ m = 14
  · rw [if_pos q, if_pos q]
  · rw [if_neg q, if_neg q, if_neg q]
theorem atW_self {w : ZW} {i : Nat} (h : w.1 130 14 = nI i) : atW w i = w := by
  unfold atW z_upI
  refine Prod.ext (funext fun c => funext fun m => ?_) rfl
  show (if c = 130 ∧ m = 14 then nI i else w.1 c m) = _
  by_cases q : c = 130 ∧ m = 14
  · rw [if_pos q, q.1, q.2, h]
  · rw [if_neg q]
theorem atW_1 {w : ZW} {i : Nat} : (atW w i).1 130 14 = nI i := upc_e
theorem atW_o {w : ZW} {i c m : Nat} (h : ¬ (c = 130 ∧ m = 14)) : (atW w i).1 c m = w.1 c m := upc h
theorem tM_at {n : Nat} {t : Nat → Nat} {w : ZW} {i : Nat} (h : tM n t w) : tM n t (atW w i) := ⟨(atW_o (by omega)).trans h.1, fun j hj => (atW_o (by omega)).trans (h.2 j hj)⟩
def chr (n : Nat) (t : Nat → Nat) (j : Nat) : Nat := if j < n then t j else 0
/-- the three ways from a character on -/
def wrW (w : ZW) (x : Int32) : ZW := z_upI w 130 15 x
def nfr (a : Nat) (w w' : ZW) : Prop := (∀ c j, ¬ (c = 130 ∧ (j = 14 ∨ j = 15)) → ¬ (c = 146 ∧ a ≤ j ∧ j < a + 6) → w'.1 c j = w.1 c j) ∧ w'.2 = w.2
