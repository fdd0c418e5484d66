theorem fp_t1 : Jvm.FP.Core.Good Jvm.FP.Core.b64 := Jvm.FP.Core.good_b64
theorem fp_t2 (a : UInt64) : Jvm.FP.Core.mag Jvm.FP.Core.b64 a.toNat = a.toNat % 2 ^ 63 := Jvm.FP.Core.mag_toNat64 a
