/-! a quotient of whole numbers is a number (its laws stand in the rest of the library: this part comes first, so that a round sees at once that it wants the whole of it) -/
theorem dd_ok {a b : Int32} (h : ¬ b = 0) : vf_n64 (FP.ddiv (FP.i2d a) (FP.i2d b)) := by
  have h1 : FP.Core.dIsNaN (FP.Core.ddiv (FP.Core.i2d a) (FP.Core.i2d b)) = false :=
    FP.Core.ddiv_out ((FP.Core.notNaN_iff _).mpr (FP.Core.i2d_fin a).ne_nan) (FP.Core.i2d_fin b) (fun hz => FP.Core.i2d_ne_zero h ((FP.Core.zero_bits2 _).mp hz))
  have h2 := (FP.Core.ne_nan _).mp ((FP.Core.notNaN_iff _).mp h1)
  show FP.ddiv (FP.i2d a) (FP.i2d b) &&& 0x7fffffffffffffff ≤ 0x7ff0000000000000
  rw [UInt64.le_iff_toNat_le, UInt64.toNat_and, show (0x7fffffffffffffff : UInt64).toNat = 2 ^ 63 - 1 from rfl, Nat.and_two_pow_sub_one_eq_mod]
  exact h2
