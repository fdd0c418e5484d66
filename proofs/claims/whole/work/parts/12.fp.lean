/-! doubles as whole numbers of 2^-1074 with a sign -/
abbrev B64 : FP.Core.Fmt := FP.Core.b64
def dv (s : Bool) (c : Nat) (q : Int) : UInt64 := FP.Core.of64 (FP.Core.roundRatio B64 s c 1 q)
def U (s : Bool) (n : Nat) : UInt64 := dv s n (-1074)
/-- so many units are a double -/
def Rn (n : Nat) : Prop := ∃ c k, c < 2 ^ 53 ∧ k ≤ 2045 ∧ n = c * 2 ^ k
theorem dv_val (s : Bool) (c : Nat) (q : Int) : FP.Core.val64 (dv s c q) = FP.Core.roundRatio B64 s c 1 q :=
  FP.Core.val64_of64 (FP.Core.roundRatio_fits FP.Core.good_b64 s c (by decide) q)
theorem dv_congr {s : Bool} {c c' : Nat} {q q' : Int} (h : c * 2 ^ (q - q').toNat = c' * 2 ^ (q' - q).toNat) : dv s c q = dv s c' q' := by
  unfold dv
  rw [FP.Core.roundRatio_congr (f := B64) (s := s) (A := c) (B := 1) (A' := c') (B' := 1) (e := q) (e' := q') (by decide) (by decide) (by rw [Nat.mul_one, Nat.mul_one]; exact h)]
theorem dv_U {s : Bool} {c : Nat} {q : Int} (h : -1074 ≤ q) : dv s c q = U s (c * 2 ^ (q + 1074).toNat) := by
  unfold U
  refine dv_congr ?_
  rw [show q - -1074 = q + 1074 by omega, show (-1074 - q).toNat = 0 by omega, Nat.pow_zero, Nat.mul_one]
theorem u_val {s : Bool} {n : Nat} (h : Rn n) : ∃ c q, FP.Core.val64 (U s n) = .fin s c q ∧ -1074 ≤ q ∧ q ≤ 971 ∧ c < 2 ^ 53 ∧ c * 2 ^ (q + 1074).toNat = n := by
  obtain ⟨c0, k, h1, h2, rfl⟩ := h
  have e1 : U s (c0 * 2 ^ k) = dv s c0 ((k : Int) - 1074) := by
    rw [dv_U (by omega), show ((k : Int) - 1074 + 1074).toNat = k by omega]
  obtain ⟨c, q, h3, h4⟩ := FP.Core.round_exact FP.Core.good_b64 s (c := c0) (q := (k : Int) - 1074) h1 (by show (-1074 : Int) ≤ _; omega) (by show _ ≤ (971 : Int); omega)
  have h5 : FP.Core.roundRatio B64 s c0 1 ((k : Int) - 1074) = .fin s c q := h3
  have h6 : FP.Core.fits B64 (.fin s c q) := by rw [← h5]; exact FP.Core.roundRatio_fits FP.Core.good_b64 s c0 (by decide) _
  obtain ⟨f1, f2, f3, f4⟩ := h6
  have f2 : (-1074 : Int) ≤ q := f2
  have f3 : q ≤ (971 : Int) := f3
  have f1 : c < 2 ^ 53 := f1
  have h4 : c * 2 ^ (q - (-1074)).toNat = c0 * 2 ^ ((k : Int) - 1074 - (-1074)).toNat := h4
  refine ⟨c, q, by rw [e1, dv_val, h5], f2, f3, f1, ?_⟩
  rw [show q + 1074 = q - (-1074) by omega, h4, show ((k : Int) - 1074 - (-1074)).toNat = k by omega]
theorem rn_of {c k : Nat} (h1 : c < 2 ^ 53) (h2 : k ≤ 2045) : Rn (c * 2 ^ k) := ⟨c, k, h1, h2, rfl⟩
theorem rn_pow {k : Nat} (h2 : k ≤ 2097) : Rn (2 ^ k) := by
  by_cases h : k ≤ 2045
  · have := rn_of (c := 1) (k := k) (by decide) h
    rwa [Nat.one_mul] at this
  · have := rn_of (c := 2 ^ (k - 2045)) (k := 2045) (Nat.pow_lt_pow_right (by decide) (by omega)) (Nat.le_refl _)
    rwa [← Nat.pow_add, show k - 2045 + 2045 = k by omega] at this
theorem rn_zero : Rn 0 := ⟨0, 0, by decide, by decide, rfl⟩
theorem rn_lt {n : Nat} (h : Rn n) : n < 2 ^ 2098 := by
  obtain ⟨c, k, h1, h2, rfl⟩ := h
  calc c * 2 ^ k < 2 ^ 53 * 2 ^ k := Nat.mul_lt_mul_of_pos_right h1 (Nat.two_pow_pos k)
    _ ≤ 2 ^ 53 * 2 ^ 2045 := Nat.mul_le_mul_left _ (Nat.pow_le_pow_right (by decide) h2)
    _ = 2 ^ 2098 := by rw [← Nat.pow_add]
theorem u_of {x : UInt64} {s : Bool} {c : Nat} {q : Int} (h : FP.Core.val64 x = .fin s c q) : x = U s (c * 2 ^ (q + 1074).toNat) ∧ Rn (c * 2 ^ (q + 1074).toNat) := by
  have h6 : FP.Core.fits B64 (.fin s c q) := by rw [← h]; exact FP.Core.val64_fits x
  have h7 : FP.Core.roundRatio B64 s c 1 q = .fin s c q := FP.Core.round_of_fits FP.Core.good_b64 h6
  obtain ⟨f1, f2, f3, f4⟩ := h6
  have f2 : (-1074 : Int) ≤ q := f2
  have f3 : q ≤ (971 : Int) := f3
  have f1 : c < 2 ^ 53 := f1
  refine ⟨?_, rn_of f1 (by omega)⟩
  rw [← dv_U f2]
  unfold dv
  rw [h7, ← h, FP.Core.of64_val64 (by rw [h]; exact fun h => by cases h)]
theorem u_nan {s : Bool} {n : Nat} : FP.Core.val64 (U s n) ≠ .nan := by
  unfold U
  rw [dv_val]
  exact FP.Core.roundRatio_ne_nan _ _ _ _ _
theorem vf_iff (x : UInt64) : vf_n64 x ↔ FP.Core.val64 x ≠ .nan := by
  unfold vf_n64 FP.Core.val64
  rw [ne_eq, FP.Core.decode_nan, FP.Core.mag_toNat64, FP.Core.infBits_b64, Nat.not_lt, UInt64.le_iff_toNat_le, UInt64.toNat_and]
  rw [show (0x7fffffffffffffff : UInt64).toNat = 2 ^ 63 - 1 from rfl, Nat.and_two_pow_sub_one_eq_mod]
  rfl
theorem dv_vf (s : Bool) (c : Nat) (q : Int) : vf_n64 (dv s c q) := (vf_iff _).mpr (by rw [dv_val]; exact FP.Core.roundRatio_ne_nan _ _ _ _ _)
theorem u_vf (s : Bool) (n : Nat) : vf_n64 (U s n) := dv_vf _ _ _
theorem u_mul {s t : Bool} {n m : Nat} (hn : Rn n) (hm : Rn m) : FP.dmul (U s n) (U t m) = dv (s != t) (n * m) (-2148) := by
  obtain ⟨c, q, h1, h2, h3, -, h4⟩ := u_val (s := s) hn
  obtain ⟨d, r, g1, g2, g3, -, g4⟩ := u_val (s := t) hm
  have e : FP.dmul (U s n) (U t m) = FP.Core.of64 (FP.Core.round B64 (FP.Core.exactProduct (FP.Core.val64 (U s n)) (FP.Core.val64 (U t m)))) := rfl
  rw [e, h1, g1]
  show dv (s != t) (c * d) (q + r) = _
  refine dv_congr ?_
  rw [show (q + r - -2148) = (q + 1074) + (r + 1074) by omega, show ((-2148 : Int) - (q + r)).toNat = 0 by omega, Nat.pow_zero, Nat.mul_one, ← h4, ← g4, show ((q + 1074) + (r + 1074)).toNat = (q + 1074).toNat + (r + 1074).toNat by omega, Nat.pow_add]
  rw [Nat.mul_mul_mul_comm]
theorem u_mulE {s t : Bool} {n m r : Nat} (hn : Rn n) (hm : Rn m) (h : n * m = r * 2 ^ 1074) : FP.dmul (U s n) (U t m) = U (s != t) r := by
  rw [u_mul hn hm, h]
  unfold U
  refine dv_congr ?_
  rw [show ((-2148 : Int) - -1074).toNat = 0 by decide, show ((-1074 : Int) - -2148).toNat = 1074 by decide, Nat.pow_zero, Nat.mul_one]
theorem u_two : (4611686018427387904 : UInt64) = U false (2 ^ 1075) := by
  have h : FP.Core.val64 (4611686018427387904 : UInt64) = .fin false (2 ^ 52) (-51) := by decide +kernel
  rw [(u_of h).1, show ((-51 : Int) + 1074).toNat = 1023 by decide, ← Nat.pow_add]
theorem u_half : (4602678819172646912 : UInt64) = U false (2 ^ 1073) := by
  have h : FP.Core.val64 (4602678819172646912 : UInt64) = .fin false (2 ^ 52) (-53) := by decide +kernel
  rw [(u_of h).1, show ((-53 : Int) + 1074).toNat = 1021 by decide, ← Nat.pow_add]
theorem u_one : FP.dconst1 = U false (2 ^ 1074) := by
  have h : FP.Core.val64 FP.dconst1 = .fin false (2 ^ 52) (-52) := by decide +kernel
  rw [(u_of h).1, show ((-52 : Int) + 1074).toNat = 1022 by decide, ← Nat.pow_add]
theorem u_zero : FP.dconst0 = U false 0 := by
  have h : FP.Core.val64 FP.dconst0 = .fin false 0 (-1074) := by decide +kernel
  rw [(u_of h).1, Nat.zero_mul]
theorem u_mzero : (9223372036854775808 : UInt64) = U true 0 := by
  have h : FP.Core.val64 (9223372036854775808 : UInt64) = .fin true 0 (-1074) := by decide +kernel
  rw [(u_of h).1, Nat.zero_mul]
theorem u_most : (9218868437227405311 : UInt64) = U false ((2 ^ 53 - 1) * 2 ^ 2045) := by
  have h : FP.Core.val64 (9218868437227405311 : UInt64) = .fin false (2 ^ 53 - 1) 971 := by decide +kernel
  rw [(u_of h).1, show ((971 : Int) + 1074).toNat = 2045 by decide]
theorem u_mostF : (5183643170566569984 : UInt64) = U false ((2 ^ 24 - 1) * 2 ^ 1178) := by
  have h : FP.Core.val64 (5183643170566569984 : UInt64) = .fin false ((2 ^ 24 - 1) * 2 ^ 29) 75 := by decide +kernel
  rw [(u_of h).1, show ((75 : Int) + 1074).toNat = 1149 by decide, Nat.mul_assoc, ← Nat.pow_add]
theorem u_2p53 : (4845873199050653696 : UInt64) = U false (2 ^ 1127) := by
  have h : FP.Core.val64 (4845873199050653696 : UInt64) = .fin false (2 ^ 52) 1 := by decide +kernel
  rw [(u_of h).1, show ((1 : Int) + 1074).toNat = 1075 by decide, ← Nat.pow_add]
theorem inf_val : FP.Core.val64 (9218868437227405312 : UInt64) = .inf false := by decide +kernel
theorem minf_val : FP.Core.val64 (18442240474082181120 : UInt64) = .inf true := by decide +kernel
theorem minf_eq : FP.dneg (9218868437227405312 : UInt64) = 18442240474082181120 := by decide +kernel
theorem u_l2d (a : Int64) : FP.l2d a = U (decide (a.toInt < 0)) (a.toInt.natAbs * 2 ^ 1074) := by
  have e : FP.l2d a = dv (decide (a.toInt < 0)) a.toInt.natAbs 0 := rfl
  rw [e, dv_U (by decide)]; rfl
theorem u_neg (s : Bool) (n : Nat) (h : Rn n) : FP.dneg (U s n) = U (!s) n := by
  obtain ⟨c, q, h1, h2, h3, h5, h4⟩ := u_val (s := s) h
  have h6 : FP.Core.val64 (FP.dneg (U s n)) = .fin (!s) c q := by
    rw [FP.val64_dneg, h1]; rfl
  rw [(u_of h6).1, h4]
theorem u_mulPow {s : Bool} {n : Nat} {j : Nat} (hn : Rn n) (hj : j ≤ 2097) {r : Nat} (h : n * 2 ^ j = r * 2 ^ 1074) : FP.dmul (U s n) (U false (2 ^ j)) = U s r := by
  rw [u_mulE hn (rn_pow hj) h, Bool.bne_false]
/-- the sign and the size of what is compared -/
def sg (s : Bool) (n : Nat) : Int := if s then -(n : Int) else n
theorem u_cmp {s t : Bool} {n m : Nat} (hn : Rn n) (hm : Rn m) : FP.dcmp (U s n) (U t m) = some (compare (sg s n) (sg t m)) := by
  obtain ⟨c, q, h1, h2, h3, -, h4⟩ := u_val (s := s) hn
  obtain ⟨d, r, g1, g2, g3, -, g4⟩ := u_val (s := t) hm
  have e : FP.dcmp (U s n) (U t m) = FP.Core.order (FP.Core.val64 (U s n)) (FP.Core.val64 (U t m)) := rfl
  rw [e, h1, g1]
  show some (compare (FP.Core.signed s (FP.Core.inUnits c q (min q r))) (FP.Core.signed t (FP.Core.inUnits d r (min q r)))) = _
  have k1 : ∀ (a : Nat) (u : Int), min q r ≤ u → -1074 ≤ u → FP.Core.inUnits a u (min q r) * 2 ^ (min q r + 1074).toNat = a * 2 ^ (u + 1074).toNat := by
    intro a u h5 h6
    unfold FP.Core.inUnits
    rw [Nat.mul_assoc, ← Nat.pow_add, show (u - min q r).toNat + (min q r + 1074).toNat = (u + 1074).toNat by omega]
  have k2 : ∀ (v : Bool) (a k : Nat), FP.Core.signed v a * ((2 ^ k : Nat) : Int) = sg v (a * 2 ^ k) := by
    intro v a k
    unfold FP.Core.signed sg
    cases v <;> simp [Int.neg_mul]
  rw [← FP.Core.compare_mul_pos _ _ ((2 ^ (min q r + 1074).toNat : Nat) : Int) (by have := Nat.two_pow_pos (min q r + 1074).toNat; omega), k2, k2, k1 c q (Int.min_le_left _ _) h2, k1 d r (Int.min_le_right _ _) g2, h4, g4]
