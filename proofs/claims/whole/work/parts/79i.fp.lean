/-! the two shares are numbers -/
theorem d_le {a : UInt64} {K : Nat} (h : a.toNat % 2 ^ 63 < K * 2 ^ 52) (hK : K ≤ 2047) : a &&& 0x7fffffffffffffff ≤ 0x7ff0000000000000 := by
  rw [UInt64.le_iff_toNat_le, UInt64.toNat_and]
  have e : (0x7fffffffffffffff : UInt64).toNat = 2 ^ 63 - 1 := by decide +kernel
  have e2 : (0x7ff0000000000000 : UInt64).toNat = 2047 * 2 ^ 52 := by decide +kernel
  rw [e, e2, Nat.and_two_pow_sub_one_eq_mod]
  exact Nat.le_of_lt (Nat.lt_of_lt_of_le h (Nat.mul_le_mul_right _ hK))
theorem f_le {a : UInt32} {K : Nat} (h : a.toNat % 2 ^ 31 < K * 2 ^ 23) (hK : K ≤ 255) : a &&& 0x7fffffff ≤ 0x7f800000 := by
  rw [UInt32.le_iff_toNat_le, UInt32.toNat_and]
  have e : (0x7fffffff : UInt32).toNat = 2 ^ 31 - 1 := by decide +kernel
  have e2 : (0x7f800000 : UInt32).toNat = 255 * 2 ^ 23 := by decide +kernel
  rw [e, e2, Nat.and_two_pow_sub_one_eq_mod]
  exact Nat.le_of_lt (Nat.lt_of_lt_of_le h (Nat.mul_le_mul_right _ hK))
theorem dd_ok {a b : Int32} (hb : ¬ b = nI 0) : FP.ddiv (FP.i2d a) (FP.i2d b) &&& 0x7fffffffffffffff ≤ 0x7ff0000000000000 := by
  have hb0 : b ≠ 0 := hb
  have h2 := FP.Core.i2d_big (FP.Core.int32_ne hb0)
  exact d_le (FP.Core.ddiv_mag (K := 1056) (L := 1023) (FP.Core.i2d_mag a) h2.1 h2.2 (by decide) (by decide)) (by decide)
theorem fd_fin {a b : Int32} (hb : ¬ b = nI 0) : (FP.fdiv (FP.i2f a) (FP.i2f b)).toNat % 2 ^ 31 < 161 * 2 ^ 23 := by
  have hb0 : b ≠ 0 := hb
  have h2 := FP.Core.i2f_big (FP.Core.int32_ne hb0)
  exact FP.Core.fdiv_mag (K := 160) (L := 127) (FP.Core.i2f_mag a) h2.1 h2.2 (by decide) (by decide)
theorem fd_ok {a b : Int32} (hb : ¬ b = nI 0) : FP.fdiv (FP.i2f a) (FP.i2f b) &&& 0x7fffffff ≤ 0x7f800000 := f_le (fd_fin hb) (by decide)
theorem f2d_ok {x : UInt32} {K : Nat} (h : x.toNat % 2 ^ 31 < K * 2 ^ 23) (hK : K ≤ 255) : FP.f2d x &&& 0x7fffffffffffffff ≤ 0x7ff0000000000000 := by
  have hf : FP.Core.FFin x := FP.Core.fin_of_lt32 h hK
  have hn : FP.Core.fIsNaN x = false := by
    rw [FP.Core.notNaN_iff32]
    obtain ⟨s, c, q, e⟩ := hf
    rw [e]
    exact fun z => by cases z
  have e : FP.f2d x = FP.Core.f2d x := by
    unfold FP.f2d
    rw [hn]
    rfl
  rw [e]
  have := (FP.Core.fin_bits _).mp (FP.Core.f2d_fin hf)
  exact d_le (K := 2047) (by omega) (by decide)
