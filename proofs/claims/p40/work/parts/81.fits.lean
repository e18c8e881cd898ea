def mTo (a b h : Nat) : Nat := if b < h then (100 * (h - 1 - b) + 99) / (100 + a) + 1 else 0
def gLo (S : ST) (k : Nat) : Nat := if S 0 k = 0 then 0 else S 1 k
def gHi (S : ST) (k : Nat) : Nat := if S 0 k = 0 then (if k = 0 then 9999 else 1000000) else S 2 k
def cf (S : ST) (a b : Nat) : Nat → Nat × Nat
  | 0 => (gLo S 11, gHi S 11 + 1)
  | n + 1 => (if gLo S (10 - n) < lTo a b (cf S a b n).1 then lTo a b (cf S a b n).1 else gLo S (10 - n), if mTo a b (cf S a b n).2 < gHi S (10 - n) + 1 then mTo a b (cf S a b n).2 else gHi S (10 - n) + 1)
theorem zl {β γ : Type} (x : β) (f : β → γ) : z_let x f = f x := rfl
