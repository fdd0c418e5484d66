theorem ilg (a b : Int) : a < b ∨ b ≤ a := by omega
/-! bit lengths, powers of two, doubles out of wholes and powers -/
def bl (n : Nat) : Nat := if n = 0 then 0 else n.log2 + 1
theorem bl_le {n k : Nat} : bl n ≤ k ↔ n < 2 ^ k := by
  unfold bl
  by_cases h : n = 0
  · rw [if_pos h, h]; exact ⟨fun _ => Nat.two_pow_pos k, fun _ => Nat.zero_le _⟩
  · rw [if_neg h, ← Nat.log2_lt h]; exact Nat.succ_le_iff
theorem bl_gt {n k : Nat} : k < bl n ↔ 2 ^ k ≤ n := by
  have := @bl_le n k
  omega
theorem bl_eq {n k : Nat} (h1 : 2 ^ k ≤ n) (h2 : n < 2 ^ (k + 1)) : bl n = k + 1 := by
  have a := bl_gt.mpr h1
  have b := bl_le.mpr h2
  omega
theorem bl_pos {n : Nat} (h : 0 < n) : 0 < bl n := bl_gt.mpr (by rw [Nat.pow_zero]; exact h)
theorem bl_lo {n : Nat} (h : 0 < n) : 2 ^ (bl n - 1) ≤ n := bl_gt.mp (by have := bl_pos h; omega)
theorem bl_hi (n : Nat) : n < 2 ^ bl n := bl_le.mp (Nat.le_refl _)
theorem bl_shift {n k : Nat} (h : 2 ^ k ≤ n) : bl n = k + bl (n / 2 ^ k) := by
  have hp := Nat.two_pow_pos k
  have hq : 0 < n / 2 ^ k := Nat.div_pos h hp
  have h1 := bl_lo hq
  have h2 := bl_hi (n / 2 ^ k)
  have h3 := bl_pos hq
  have e : bl n = (k + bl (n / 2 ^ k) - 1) + 1 := by
    refine bl_eq ?_ ?_
    · rw [show k + bl (n / 2 ^ k) - 1 = (bl (n / 2 ^ k) - 1) + k by omega, Nat.pow_add]
      exact (Nat.le_div_iff_mul_le hp).mp h1
    · rw [show k + bl (n / 2 ^ k) - 1 + 1 = bl (n / 2 ^ k) + k by omega, Nat.pow_add]
      exact (Nat.div_lt_iff_lt_mul hp).mp h2
  omega
theorem bl_mulpow {n : Nat} (h : 0 < n) (k : Nat) : bl (n * 2 ^ k) = bl n + k := by
  have hp := Nat.two_pow_pos k
  have h1 : 2 ^ k ≤ n * 2 ^ k := Nat.le_mul_of_pos_left _ h
  rw [bl_shift h1, Nat.mul_div_cancel _ hp, Nat.add_comm]
theorem bl_mono {n m : Nat} (h : n ≤ m) : bl n ≤ bl m := bl_le.mpr (Nat.lt_of_le_of_lt h (bl_hi m))
theorem nI_m {n k : Nat} {c : Int32} (hc : c.toInt = -(k : Int)) (hk : k ≤ n) (hn : n < 2147483648) : nI n + c = nI (n - k) := by
  have h1 : (nI n).toInt = (n : Int) := nI_toInt (by omega)
  refine i_of ?_ (by omega)
  rw [i_add (by omega) (by omega), h1, hc]
  omega
theorem nlz_61 {v n : Nat} {Q : Int32 → St → Prop} {σ : St} (h1 : 1 ≤ v) (h2 : v < 16) (hn : n < 32) (hn3 : 3 ≤ n) (h : Q (nI (n + 1 - bl v)) σ) : w_J6_numberOfLeadingZeros_0f7a4_61 Q (nI v) (nI n) σ := by
  unfold w_J6_numberOfLeadingZeros_0f7a4_61
  refine ⟨fun hc => ?_, fun hc => ?_⟩
  · have hv : v < 4 := (nI_ltI (by omega) (by decide)).mp hc
    rw [show (1 : Int32) = nI 1 from rfl, iushr_N (by omega) (by decide), pk_sub (by omega)]
    have : n - v / 2 ^ 1 = n + 1 - bl v := by
      rcases (show v = 1 ∨ v = 2 ∨ v = 3 by omega) with rfl | rfl | rfl
      · rw [show bl 1 = 1 by decide]; omega
      · rw [show bl 2 = 2 by decide]; omega
      · rw [show bl 3 = 2 by decide]; omega
    rw [this]; exact h
  · have hv : ¬ v < 4 := fun q => hc ((nI_ltI (by omega) (by decide)).mpr q)
    rintro y1 rfl y2 rfl
    rw [show (1 : Int32) = nI 1 from rfl, show (2 : Int32) = nI 2 from rfl, iushr_N (by omega) (by decide), iushr_N (by omega) (by decide), nI_m (k := 2) (by decide) (by omega) (by omega), pk_sub (by omega)]
    have h5 := bl_shift (n := v) (k := 2) (by omega)
    have : n - 2 - v / 2 ^ 2 / 2 ^ 1 = n + 1 - bl v := by
      rw [h5]
      rcases (show v / 2 ^ 2 = 1 ∨ v / 2 ^ 2 = 2 ∨ v / 2 ^ 2 = 3 by omega) with e | e | e <;> rw [e]
      · rw [show bl 1 = 1 by decide]; omega
      · rw [show bl 2 = 2 by decide]; omega
      · rw [show bl 3 = 2 by decide]; omega
    rw [this]; exact h
theorem nlz_48 {v n : Nat} {Q : Int32 → St → Prop} {σ : St} (h1 : 1 ≤ v) (h2 : v < 256) (hn : n < 32) (hn3 : 7 ≤ n) (h : Q (nI (n + 1 - bl v)) σ) : w_J6_numberOfLeadingZeros_0f7a4_48 Q (nI v) (nI n) σ := by
  unfold w_J6_numberOfLeadingZeros_0f7a4_48
  refine ⟨fun hc => ?_, fun hc => ?_⟩
  · have hv : v < 16 := (nI_ltI (by omega) (by decide)).mp hc
    exact nlz_61 h1 hv hn (by omega) h
  · have hv : ¬ v < 16 := fun q => hc ((nI_ltI (by omega) (by decide)).mpr q)
    rintro y1 rfl y2 rfl
    rw [show (4 : Int32) = nI 4 from rfl, iushr_N (by omega) (by decide), nI_m (k := 4) (by decide) (by omega) (by omega)]
    refine nlz_61 (by omega) (by omega) (by omega) (by omega) ?_
    rw [bl_shift (n := v) (k := 4) (by omega)] at h
    rwa [show n - 4 + 1 - bl (v / 2 ^ 4) = n + 1 - (4 + bl (v / 2 ^ 4)) by omega]
theorem nlz_33 {v n : Nat} {Q : Int32 → St → Prop} {σ : St} (h1 : 1 ≤ v) (h2 : v < 65536) (hn : n < 32) (hn3 : 15 ≤ n) (h : Q (nI (n + 1 - bl v)) σ) : w_J6_numberOfLeadingZeros_0f7a4_33 Q (nI v) (nI n) σ := by
  unfold w_J6_numberOfLeadingZeros_0f7a4_33
  refine ⟨fun hc => ?_, fun hc => ?_⟩
  · have hv : v < 256 := (nI_ltI (by omega) (by decide)).mp hc
    exact nlz_48 h1 hv hn (by omega) h
  · have hv : ¬ v < 256 := fun q => hc ((nI_ltI (by omega) (by decide)).mpr q)
    rintro y1 rfl y2 rfl
    rw [show (8 : Int32) = nI 8 from rfl, iushr_N (by omega) (by decide), nI_m (k := 8) (by decide) (by omega) (by omega)]
    refine nlz_48 (by omega) (by omega) (by omega) (by omega) ?_
    rw [bl_shift (n := v) (k := 8) (by omega)] at h
    rwa [show n - 8 + 1 - bl (v / 2 ^ 8) = n + 1 - (8 + bl (v / 2 ^ 8)) by omega]
theorem s_nlz32 {v : Nat} {Q : Int32 → St → Prop} {σ : St} (hv : v < 2 ^ 32) (h : Q (nI (32 - bl v)) σ) : w_J6_numberOfLeadingZeros_0f7a4 Q (nI v) σ := by
  unfold w_J6_numberOfLeadingZeros_0f7a4
  have hpos : v < 2 ^ 31 → (0 < nI v ↔ 0 < v) := fun q => by
    have := nI_ltI (a := 0) (b := v) (by decide) q
    rwa [nI_0] at this
  refine ⟨fun hp => ?_, fun hp => ?_⟩
  · have hv31 : v < 2 ^ 31 := by
      rcases Nat.lt_or_ge v (2 ^ 31) with q | q
      · exact q
      · exfalso
        have h5 : (nI v).toInt = (v : Int) - 4294967296 := by
          have h6 : (nI v).toInt = ((v : Int)).bmod Int32.size := Int32.toInt_ofNat'
          rw [h6, Int.bmod_def, show Int32.size = 4294967296 from rfl]; omega
        have h7 := Int32.lt_iff_toInt_lt.mp hp
        rw [h5, Int32.toInt_zero] at h7
        omega
    have hv0 : 0 < v := (hpos hv31).mp hp
    refine ⟨fun hc => ?_, fun hc => ?_⟩
    · have hv1 : v < 65536 := (nI_ltI (by omega) (by decide)).mp hc
      exact nlz_33 (n := 31) hv0 hv1 (by decide) (by decide) h
    · have hv1 : ¬ v < 65536 := fun q => hc ((nI_ltI (by omega) (by decide)).mpr q)
      rintro y1 rfl y2 rfl
      rw [show (16 : Int32) = nI 16 from rfl, iushr_N (by omega) (by decide), show (31 : Int32) = nI 31 from rfl, nI_m (k := 16) (by decide) (by omega) (by omega)]
      refine nlz_33 (by omega) (by omega) (by omega) (by omega) ?_
      rw [bl_shift (n := v) (k := 16) (by omega)] at h
      rwa [show 31 - 16 + 1 - bl (v / 2 ^ 16) = 32 - (16 + bl (v / 2 ^ 16)) by omega]
  · refine ⟨fun hz => ?_, fun hz => ?_⟩
    · have hb : bl v = 32 := by
        refine bl_eq (k := 31) ?_ hv
        rcases Nat.lt_or_ge v (2 ^ 31) with q | q
        · exfalso
          have h0 : v = 0 := by
            rcases Nat.eq_zero_or_pos v with g | g
            · exact g
            · exact absurd ((hpos q).mpr g) hp
          exact hz (by rw [h0]; rfl)
        · exact q
      rw [hb] at h; exact h
    · have h0 : v = 0 := by
        have e : nI v = nI 0 := hz
        have h6 : (nI v).toBitVec.toNat = v := Nat.mod_eq_of_lt hv
        rw [e] at h6
        exact h6.symm
      subst h0; exact h
theorem l2i_N {n : Nat} : (lN n).toInt32 = nI (n % 2 ^ 32) := by
  rw [lN_i]
  refine Int32.toBitVec_inj.mp ?_
  show BitVec.ofNat 32 n = BitVec.ofNat 32 (n % 2 ^ 32)
  apply BitVec.eq_of_toNat_eq
  rw [BitVec.toNat_ofNat, BitVec.toNat_ofNat, Nat.mod_mod]
theorem s_bits {v : Nat} {Q : Int32 → St → Prop} {σ : St} (hv : v < 2 ^ 63) (h : Q (nI (bl v)) σ) : w_X4_bitsIn Q (lN v) σ := by
  unfold w_X4_bitsIn w_J13_numberOfLeadingZeros_95d88
  rintro y1 rfl
  rw [show (32 : Int32) = nI 32 from rfl, lushr_N (by omega) (by decide), l2i_N, l2i_N]
  have hd : v / 2 ^ 32 < 2 ^ 31 := by omega
  rw [Nat.mod_eq_of_lt (show v / 2 ^ 32 < 2 ^ 32 by omega)]
  refine ⟨fun hz => ?_, fun hz => ?_⟩
  · have h0 : v / 2 ^ 32 ≠ 0 := fun q => hz (by rw [q]; rfl)
    have hb : bl (v / 2 ^ 32) ≤ 31 := bl_le.mpr hd
    have hb1 := bl_pos (Nat.pos_of_ne_zero h0)
    have hs := bl_shift (n := v) (k := 32) (by omega)
    refine s_nlz32 (by omega) ?_
    show Q ((64 : Int32) - nI (32 - bl (v / 2 ^ 32))) σ
    rw [show (64 : Int32) = nI 64 from rfl, pk_sub (by omega), show 64 - (32 - bl (v / 2 ^ 32)) = bl v by omega]
    exact h
  · have h0 : v / 2 ^ 32 = 0 := by
      have e : nI (v / 2 ^ 32) = nI 0 := hz
      exact (nI_eq hd (by decide)).mp e
    have hb : bl v ≤ 32 := bl_le.mpr (by omega)
    rw [Nat.mod_eq_of_lt (show v < 2 ^ 32 by omega)]
    refine s_nlz32 (by omega) ?_
    show Q ((64 : Int32) - (nI 32 + nI (32 - bl v))) σ
    rw [show (64 : Int32) = nI 64 from rfl, nI_add, pk_sub (by omega), show 64 - (32 + (32 - bl v)) = bl v by omega]
    exact h
/-! powers of two as doubles -/
theorem pw_loop (P : Nat → UInt64) (M : Nat) (hM : M < 2000) (hP : ∀ a b, a + b ≤ M → FP.dmul (P a) (P b) = P (a + b)) (hn : ∀ a, vf_n64 (P a)) (hv : ∀ a, a ≤ M → vf_n64 (FP.dmul (P a) (P a))) {Q : UInt64 → St → Prop} {σ : St} (N : Nat) (hN : N ≤ M) (h : Q (P N) σ) :
    ∀ (fu i : Nat) (f : UInt64), (0 < N / 2 ^ i → f = P (2 ^ i)) → N / 2 ^ i < 2 ^ fu → w_X4_power_22 Q (fu + 1) f (P (N % 2 ^ i)) (nI (N / 2 ^ i)) σ := by
  intro fu
  induction fu with
  | zero =>
    intro i f hf hlt
    rw [w_X4_power_22]
    have h0 : N / 2 ^ i = 0 := by
      rw [Nat.pow_zero] at hlt
      generalize N / 2 ^ i = z at hlt ⊢
      omega
    have h1 : N % 2 ^ i = N := Nat.mod_eq_of_lt ((Nat.div_eq_zero_iff_lt (Nat.two_pow_pos i)).mp h0)
    rw [h0, h1]
    exact ⟨fun _ => h, fun q => absurd (by decide) q⟩
  | succ fu ih =>
    intro i f hf hlt
    rw [w_X4_power_22]
    have hp := Nat.two_pow_pos i
    have hle : N / 2 ^ i ≤ N := Nat.div_le_self _ _
    refine ⟨fun hc => ?_, fun hc => ?_⟩
    · have h0 : N / 2 ^ i = 0 := by
        rcases Nat.eq_zero_or_pos (N / 2 ^ i) with g | g
        · exact g
        · exact absurd hc (nI_nle g (by omega))
      have h1 : N % 2 ^ i = N := Nat.mod_eq_of_lt ((Nat.div_eq_zero_iff_lt hp).mp h0)
      rw [h1]; exact h
    · have hpos : 0 < N / 2 ^ i := by
        rcases Nat.eq_zero_or_pos (N / 2 ^ i) with g | g
        · rw [g] at hc; exact absurd (by decide) hc
        · exact g
      have hf := hf hpos
      subst hf
      have hi : 2 ^ i ≤ N := (Nat.div_pos_iff.mp hpos).2
      have hbit : (nI (N / 2 ^ i) &&& (1 : Int32)) = nI (N / 2 ^ i % 2) := pk_andN (by omega) 1 rfl
      have hsh : nI (N / 2 ^ i) >>> ((1 : Int32) &&& 31) = nI (N / 2 ^ (i + 1)) := by
        rw [pk_shrN (by omega) _ 1 (by decide), Nat.div_div_eq_div_mul, ← Nat.pow_add]
      have hmod : N % 2 ^ (i + 1) = N % 2 ^ i + 2 ^ i * (N / 2 ^ i % 2) := Nat.mod_pow_succ
      have hlt2 : N / 2 ^ (i + 1) < 2 ^ fu := by
        rw [Nat.pow_succ, ← Nat.div_div_eq_div_mul]
        rw [Nat.pow_succ] at hlt
        omega
      have next : ∀ pr, pr = P (N % 2 ^ (i + 1)) → w_X4_power_39 (fun x1 x3 x5 σ => w_X4_power_22 Q (fu + 1) x1 x3 x5 σ) Q (P (2 ^ i)) pr (nI (N / 2 ^ i)) σ := by
        rintro pr rfl
        unfold w_X4_power_39
        refine ⟨hv _ (by omega), ?_⟩
        rintro y2 rfl y3 rfl
        rw [hsh]
        refine ih (i + 1) _ (fun q => ?_) hlt2
        have h5 : 2 ^ (i + 1) ≤ N := (Nat.div_pos_iff.mp q).2
        rw [Nat.pow_succ] at h5 ⊢
        rw [hP _ _ (by omega), Nat.mul_two]
      rw [hbit]
      refine ⟨fun hb => ?_, fun hb => ?_⟩
      · refine next _ ?_
        have h6 : N / 2 ^ i % 2 = 0 := by
          rcases Nat.mod_two_eq_zero_or_one (N / 2 ^ i) with g | g
          · exact g
          · rw [g] at hb; exact absurd rfl hb
        rw [hmod, h6, Nat.mul_zero, Nat.add_zero]
      · have h6 : N / 2 ^ i % 2 = 1 := by
          rcases Nat.mod_two_eq_zero_or_one (N / 2 ^ i) with g | g
          · rw [g] at hb; exact absurd hb (by decide)
          · exact g
        have h7 : N % 2 ^ i + 2 ^ i ≤ M := by
          have := Nat.mod_add_div N (2 ^ i)
          have h8 : 2 ^ i * 1 ≤ 2 ^ i * (N / 2 ^ i) := Nat.mul_le_mul_left _ hpos
          omega
        refine ⟨by rw [hP _ _ h7]; exact hn _, ?_⟩
        rintro y4 rfl
        refine next _ ?_
        rw [hP _ _ h7, hmod, h6, Nat.mul_one]
theorem s_power {e : Int32} {k : Nat} {Q : UInt64 → St → Prop} {σ : St} (h1 : -1074 ≤ e.toInt) (h2 : e.toInt ≤ 1023) (hk : (k : Int) = e.toInt + 1074) (h : Q (U false (2 ^ k)) σ) : w_X4_power Q e σ := by
  unfold w_X4_power w_X4_power_13
  refine ⟨fun hc => ?_, fun hc => ?_⟩
  · have hc := Int32.le_iff_toInt_le.mp hc
    rw [Int32.toInt_zero] at hc
    obtain ⟨N, hN, rfl, hN2⟩ := i_nat hc
    rintro y1 rfl
    rw [if_pos (Int32.le_iff_toInt_le.mpr (by rw [Int32.toInt_zero]; exact hc))]
    refine ⟨12, ?_⟩
    have key := pw_loop (fun a => U false (2 ^ (1074 + a))) 1023 (by decide) (fun a b hab => by
        show FP.dmul (U false (2 ^ (1074 + a))) (U false (2 ^ (1074 + b))) = U false (2 ^ (1074 + (a + b)))
        rw [u_mulPow (rn_pow (by omega)) (by omega) (r := 2 ^ (1074 + (a + b))) (by rw [← Nat.pow_add, ← Nat.pow_add]; exact congrArg (fun k => 2 ^ k) (by omega))]) (fun a => u_vf _ _) (fun a ha => by
        show vf_n64 (FP.dmul (U false (2 ^ (1074 + a))) (U false (2 ^ (1074 + a))))
        rw [u_mul (rn_pow (by omega)) (rn_pow (by omega))]; exact dv_vf _ _ _) (Q := Q) (σ := σ) N (by omega) (by show Q (U false (2 ^ (1074 + N))) σ; rw [show 1074 + N = k by omega]; exact h) 11 0 (4611686018427387904 : UInt64) (fun _ => u_two) (by rw [Nat.pow_zero, Nat.div_one]; exact Nat.lt_of_le_of_lt (show N ≤ 1023 by omega) (by decide))
    rw [Nat.pow_zero, Nat.div_one, Nat.mod_one] at key
    rw [u_one]
    exact key
  · have hc : e.toInt < 0 := by
      rcases ilg e.toInt 0 with g | g
      · exact g
      · exact absurd (Int32.le_iff_toInt_le.mpr (by rw [Int32.toInt_zero]; exact g)) hc
    rintro y1 rfl
    have hy : (if 0 ≤ e then e else 0 - e) = nI (-e.toInt).toNat := by
      rw [if_neg (fun q => by have := Int32.le_iff_toInt_le.mp q; rw [Int32.toInt_zero] at this; omega)]
      refine i_of ?_ (by omega)
      rw [i_sub (by rw [Int32.toInt_zero]; omega) (by rw [Int32.toInt_zero]; omega), Int32.toInt_zero]
      omega
    rw [hy]
    generalize hN : (-e.toInt).toNat = N
    refine ⟨12, ?_⟩
    have key := pw_loop (fun a => U false (2 ^ (1074 - a))) 1074 (by decide) (fun a b hab => by
        show FP.dmul (U false (2 ^ (1074 - a))) (U false (2 ^ (1074 - b))) = U false (2 ^ (1074 - (a + b)))
        rw [u_mulPow (rn_pow (by omega)) (by omega) (r := 2 ^ (1074 - (a + b))) (by rw [← Nat.pow_add, ← Nat.pow_add]; exact congrArg (fun k => 2 ^ k) (by omega))]) (fun a => u_vf _ _) (fun a ha => by
        show vf_n64 (FP.dmul (U false (2 ^ (1074 - a))) (U false (2 ^ (1074 - a))))
        rw [u_mul (rn_pow (by omega)) (rn_pow (by omega))]; exact dv_vf _ _ _) (Q := Q) (σ := σ) N (by omega) (by show Q (U false (2 ^ (1074 - N))) σ; rw [show 1074 - N = k by omega]; exact h) 11 0 (4602678819172646912 : UInt64) (fun _ => u_half) (by rw [Nat.pow_zero, Nat.div_one]; exact Nat.lt_of_le_of_lt (show N ≤ 1074 by omega) (by decide))
    rw [Nat.pow_zero, Nat.div_one, Nat.mod_one] at key
    rw [u_one]
    exact key
