/-! laws: class -/
def fl (S : ST) (n : Nat) : Bool := decide ((cf S (n / 10) (n % 10) 11).1 < (cf S (n / 10) (n % 10) 11).2)
