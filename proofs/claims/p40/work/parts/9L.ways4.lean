/-! ways: the model's sums over sets of people -/
theorem sumN_upd {v W : Nat → Nat} {t0 x : Nat} : ∀ n, t0 < n → sumN (fun t => (if t = t0 then v t + x else v t) * W t) n = sumN (fun t => v t * W t) n + x * W t0
  | 0, h => by omega
  | n + 1, h => by
    rw [sumN_s, sumN_s]
    by_cases z : t0 = n
    · subst z
      rw [if_pos rfl, Nat.add_mul, sumN_cong (h := fun t => v t * W t) t0 (fun i hi => by rw [if_neg (by omega)])]
      omega
    · rw [if_neg (by omega), sumN_upd n (by omega)]
      omega
def accs (u W : Nat → Nat) (b : Nat) (n : Nat) : Nat := sumN (fun s => if s &&& b = 0 then u s * W (s ||| b) else 0) n
def fX (w w' : ZW) : Prop := w'.1 = w.1 ∧ ∀ b j, b ≠ 148 → w'.2 b j = w.2 b j
/-- who may be read on a lock -/
def uph (pe wy b : Nat) : Bool := decide (pe = 0) || (if wy = 1 then b.testBit (pe - 1) else !(b.testBit (pe - 1)))
def mayj (S : ST) (k pe wy j : Nat) : Bool := decide (j / 8 < j % 8) && (decide (j % 8 < S 0 0) && (uph pe wy (tw (j / 8) (j % 8)) && cb S k (j / 8) (j % 8)))
theorem eq_hol {p pe : Nat} (hp : p < 100) (hpe : pe ≤ 100) : nI p = hol pe ↔ pe = p + 1 := by
  by_cases q : pe = 0
  · rw [q, hol_0]
    refine ⟨fun h => ?_, fun h => by omega⟩
    have := nI_pos (n := p) (by omega)
    rw [h] at this
    exact absurd (by decide) this
  · rw [hol_p q, nI_inj (by omega) (by omega)]
    omega
def accj (S : ST) (k pe wy : Nat) (u W : Nat → Nat) (n : Nat) : Nat := sumN (fun j => if mayj S k pe wy j = true then accs u W (tw (j / 8) (j % 8)) 256 else 0) n
