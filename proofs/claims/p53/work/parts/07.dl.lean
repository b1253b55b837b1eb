/-! no doubleToLongBits here -/
theorem dl_ok (l : Launch) : CDL l := trivial
theorem n64_mod (b : UInt64) : (b &&& 0x7fffffffffffffff).toNat = b.toNat % 2 ^ 63 := by
  rw [UInt64.toNat_and]
  exact Nat.and_two_pow_sub_one_eq_mod _ 63
theorem n64_val {b : UInt64} (h : vf_n64 b) : FP.Core.val64 b ≠ .nan := by
  intro q
  have h1 := (FP.Core.isNaN_bits b).mp ((FP.Core.dIsNaN_iff b).mpr q)
  have h2 := UInt64.le_iff_toNat_le.mp h
  rw [n64_mod] at h2
  have h3 : (0x7ff0000000000000 : UInt64).toNat = 9218868437227405312 := rfl
  omega
