/-- the step turned round -/
def lTo (a b y : Nat) : Nat := if b < y then (100 * (y - b) + 99 + a) / (100 + a) else 0
