/-! the average as a float: it is a number, and so is the double of it -/
theorem xnn32 {x : UInt32} (h : Jvm.FP.Core.fIsNaN x = false) : vf_n32 x := by
  unfold vf_n32
  rw [← Bool.not_eq_true, Jvm.FP.Core.isNaN_bits32] at h
  rw [UInt32.le_iff_toNat_le, UInt32.toNat_and]
  have h1 : (0x7fffffff : UInt32).toNat = 2 ^ 31 - 1 := by decide
  have h2 : (0x7f800000 : UInt32).toNat = 2139095040 := by decide
  rw [h1, h2, Nat.and_two_pow_sub_one_eq_mod]
  omega
theorem xnn64 {x : UInt64} (h : Jvm.FP.Core.dIsNaN x = false) : vf_n64 x := by
  unfold vf_n64
  rw [← Bool.not_eq_true, Jvm.FP.Core.isNaN_bits] at h
  rw [UInt64.le_iff_toNat_le, UInt64.toNat_and]
  have h1 : (0x7fffffffffffffff : UInt64).toNat = 2 ^ 63 - 1 := by decide
  have h2 : (0x7ff0000000000000 : UInt64).toNat = 9218868437227405312 := by decide
  rw [h1, h2, Nat.and_two_pow_sub_one_eq_mod]
  omega
/-- the average of a sum over a number of plays -/
def avF (a b : Int32) : UInt32 := if b = 0 then FP.fconst0 else FP.fdiv (FP.i2f a) (FP.i2f b)
theorem avQ {a b : Int32} (hb : ¬ b = 0) : Jvm.FP.Core.fIsNaN (FP.fdiv (FP.i2f a) (FP.i2f b)) = false := by
  refine Jvm.FP.Core.fdiv_out ?_ (Jvm.FP.Core.i2f_fin b) ?_
  · rw [Jvm.FP.Core.notNaN_iff32]
    exact (Jvm.FP.Core.i2f_fin a).ne_nan
  · rw [Jvm.FP.Core.zero_bits232]
    exact Jvm.FP.Core.i2f_ne_zero hb
theorem avN {a b : Int32} : Jvm.FP.Core.fIsNaN (avF a b) = false := by
  unfold avF
  by_cases hb : b = 0
  · rw [if_pos hb]
    decide +kernel
  · rw [if_neg hb]
    exact avQ hb
theorem avD {a b : Int32} : Jvm.FP.Core.dIsNaN (FP.f2d (avF a b)) = false := by
  have h := Jvm.FP.f2d_nan (avF a b)
  rw [show Jvm.FP.fIsNaN (avF a b) = false from avN] at h
  exact h
theorem avC {a b : Int32} : FP.dcmp (FP.f2d (avF a b)) (FP.f2d (avF a b)) = some .eq := Jvm.FP.Core.dcmp_self ((Jvm.FP.Core.notNaN_iff _).mp avD)
