theorem mbn_s {S : ST} {n s p : Nat} : mbn S n s (p + 1) = (mbn S n s p && (!(s.testBit p) || decide (S 3 p ≤ n))) := rfl
theorem mbn_P {P : Nat} {S : ST} (hI : NightI P S) (hP : P ≤ 6) (n s : Nat) : mbn S n s P = mbn S n s 6 := by
  rw [Bool.eq_iff_iff, mbn_iff, mbn_iff]
  constructor
  · intro h i hi hb
    by_cases z : i < P
    · exact h i z hb
    · have := (hI.2 i hi).2.2.2 (by omega)
      omega
  · exact fun h i hi => h i (by omega)
theorem ix152 {n x : Nat} : ((64 : Int32) * nI n + 64) + nI x = nI (64 * n + 64 + x) := by
  rw [show (64 : Int32) = nI 64 from rfl, mI, nI_add, nI_add]
theorem ix152b {n x : Nat} : (64 : Int32) * nI n + nI x = nI (64 * n + x) := by
  rw [show (64 : Int32) = nI 64 from rfl, mI, nI_add]
