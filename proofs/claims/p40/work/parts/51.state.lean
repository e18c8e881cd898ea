/-! THE STATE IN NUMBERS, and what class and model hold of it -/
abbrev ST : Type := Nat → Nat → Nat
/-- the lock (or bar) on which a lock hangs: 0 a bar, else the lock's number and 1 -/
def hol (n : Nat) : Int32 := if n = 0 then -4 else nI (n - 1)
/-- rail: 0: P, L, gone ones; 1 .. 3 limits; 4 weight, 5 kind, 6 year, 7 panel, 8 bar, 9 holder -/
def RailI (R : ST) : Prop := R 0 0 ≤ 6 ∧ R 0 1 ≤ 14 ∧ R 0 2 < 2 ^ R 0 1 ∧
  (∀ p, p < R 0 0 → (1 ≤ R 1 p ∧ R 1 p ≤ 99999) ∧ (1 ≤ R 2 p ∧ R 2 p ≤ 99999) ∧ (1 ≤ R 3 p ∧ R 3 p ≤ 99999)) ∧
  (∀ i, i < R 0 1 → (1 ≤ R 4 i ∧ R 4 i ≤ 999) ∧ R 5 i ≤ 1 ∧ R 6 i ≤ 19 ∧ R 7 i < R 0 0 ∧ R 8 i ≤ 2 ∧ R 9 i ≤ i ∧ (R 9 i ≠ 0 → R 7 i = R 7 (R 9 i - 1) ∧ R 8 i = R 8 (R 9 i - 1) ∧ ((R 0 2).testBit (R 9 i - 1) = true → (R 0 2).testBit i = true)))
def RailC (R : ST) (c : Nat → Nat → Int32) : Prop := c 2 0 = nI (R 0 0) ∧ c 2 4 = nI (R 0 1) ∧ c 2 5 = nI (R 0 2) ∧
  (∀ p, p < R 0 0 → c 3 p = nI (R 1 p) ∧ c 4 p = nI (R 2 p) ∧ c 5 p = nI (R 3 p)) ∧
  (∀ i, i < R 0 1 → c 6 i = nI (R 4 i) ∧ c 7 i = nI (R 5 i) ∧ c 8 i = nI (R 6 i) ∧ c 9 i = nI (R 7 i) ∧ c 10 i = nI (R 8 i) ∧ c 11 i = hol (R 9 i))
/-- sights: 0 0: how many; 1 panel, 2 from, 3 to -/
def SightI (P : Nat) (S : ST) : Prop := S 0 0 ≤ 12 ∧ ∀ k, k < S 0 0 → S 1 k < P ∧ S 2 k ≤ 99999 ∧ S 3 k ≤ 109998
def sgC (S : ST) (p : Nat) : Nat → Nat
  | 0 => 0
  | k + 1 => sgC S p k + (if S 1 k = p then 1 else 0)
def sgLo (S : ST) (p : Nat) : Nat → Nat
  | 0 => 0
  | k + 1 => if S 1 k = p then (if sgLo S p k < S 2 k then S 2 k else sgLo S p k) else sgLo S p k
def sgHi (S : ST) (p : Nat) : Nat → Nat
  | 0 => 99999
  | k + 1 => if S 1 k = p then (if sgC S p k = 0 ∨ S 3 k < sgHi S p k then S 3 k else sgHi S p k) else sgHi S p k
def SightC (S : ST) (c : Nat → Nat → Int32) : Prop := c 12 0 = nI (S 0 0) ∧ ∀ p, p < 6 → c 13 p = nI (sgC S p (S 0 0)) ∧ (sgC S p (S 0 0) ≠ 0 → c 14 p = nI (sgLo S p (S 0 0)) ∧ c 15 p = nI (sgHi S p (S 0 0)))
/-- names: 0: people, locks with letters; 1 length, 2 letters (6 p + k); 3, 4 lengths, 5 letters (12 l + k, 12 l + 6 + k) -/
def pack (f : Nat → Nat) : Nat → Nat
  | 0 => 0
  | k + 1 => pack f k * 256 + f k
def pcf : Nat → Nat → Nat
  | 0, _ => 0
  | k + 1, b => b % 2 + pcf k (b / 2)
abbrev pc14 (b : Nat) : Nat := pcf 14 b
def NamesI (L : Nat) (S : ST) : Prop := S 0 0 ≤ 8 ∧ S 0 1 < 2 ^ L ∧ pc14 (S 0 1) ≤ 12 ∧
  (∀ p, p < S 0 0 → 1 ≤ S 1 p ∧ S 1 p ≤ 6 ∧ ∀ k, k < S 1 p → 65 ≤ S 2 (6 * p + k) ∧ S 2 (6 * p + k) ≤ 90) ∧
  (∀ l, (S 0 1).testBit l = true → (1 ≤ S 3 l ∧ S 3 l ≤ 6) ∧ (1 ≤ S 4 l ∧ S 4 l ≤ 6) ∧ (∀ k, k < S 3 l → S 5 (12 * l + k) = 63 ∨ (65 ≤ S 5 (12 * l + k) ∧ S 5 (12 * l + k) ≤ 90)) ∧ (∀ k, k < S 4 l → S 5 (12 * l + 6 + k) = 63 ∨ (65 ≤ S 5 (12 * l + 6 + k) ∧ S 5 (12 * l + 6 + k) ≤ 90)))
def NamesC (S : ST) (c : Nat → Nat → Int32) (cl : Nat → Nat → Int64) : Prop := c 16 0 = nI (S 0 0) ∧ c 16 1 = nI (S 0 1) ∧
  (∀ p, p < S 0 0 → cl 17 p = lN (pack (fun k => S 2 (6 * p + k)) (S 1 p))) ∧
  (∀ l, (S 0 1).testBit l = true → cl 18 l = lN (pack (fun k => S 5 (12 * l + k)) (S 3 l)) ∧ cl 19 l = lN (pack (fun k => S 5 (12 * l + 6 + k)) (S 4 l)))
/-- nights: 0 0: C; 1 risk, 2 grows, 3 till -/
def NightI (P : Nat) (S : ST) : Prop := (1 ≤ S 0 0 ∧ S 0 0 ≤ 3) ∧ ∀ p, p < 6 → S 1 p ≤ 99 ∧ S 2 p ≤ 9 ∧ S 3 p ≤ 5 ∧ (P ≤ p → S 1 p = 0 ∧ S 2 p = 0 ∧ S 3 p = 0)
def NightC (S : ST) (c : Nat → Nat → Int32) : Prop := c 20 0 = nI (S 0 0) ∧ ∀ p, p < 6 → c 21 p = nI (S 1 p) ∧ c 22 p = nI (S 2 p) ∧ c 23 p = nI (S 3 p)
/-- growth: 0 whether told, 1 least, 2 most -/
def GrowI (S : ST) : Prop := ∀ k, k < 12 → S 0 k ≠ 0 → S 1 k ≤ S 2 k ∧ S 2 k ≤ 9999
def GrowC (S : ST) (c : Nat → Nat → Int32) : Prop := ∀ k, k < 12 → c 54 k = nI (if S 0 k = 0 then 0 else S 1 k) ∧ c 55 k = nI (if S 0 k = 0 then (if k = 0 then 9999 else 1000000) else S 2 k)
/-- all that an image keeps: 0 rail, 1 sights, 2 names, 3 nights, 4 growth -/
abbrev AST : Type := Nat → ST
def StI (A : AST) : Prop := RailI (A 0) ∧ SightI (A 0 0 0) (A 1) ∧ NamesI (A 0 0 1) (A 2) ∧ NightI (A 0 0 0) (A 3) ∧ GrowI (A 4)
def StC (A : AST) (c : Nat → Nat → Int32) (cl : Nat → Nat → Int64) : Prop := RailC (A 0) c ∧ SightC (A 1) c ∧ NamesC (A 2) c cl ∧ NightC (A 3) c ∧ GrowC (A 4) c
