theorem z_s48 {y x : Int32} (e : y = x - 48) : y.toInt = x.toInt - 48 ∨ (x.toInt < (-2147483600) ∧ 2147483600 ≤ y.toInt) := by
  have r := z_rng x
  have k : y.toInt = (x.toInt - 48).bmod (2 ^ 32) := by rw [e, Int32.toInt_sub, show (48 : Int32).toInt = 48 from rfl]
  rw [k, Int.bmod_def]
  omega
