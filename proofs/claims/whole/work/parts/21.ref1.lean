/-! the reference's sums: adding with carries -/
theorem nI_mod32 (t : Nat) : (nI t).toInt % 4294967296 = (t : Int) % 4294967296 := by
  have h : (nI t).toInt = (t : Int).bmod (2 ^ 32) := by
    show (Int32.ofNat t).toInt = _
    rw [Int32.toInt_ofNat']
  rw [h, Int.bmod_def]
  split <;> omega
theorem nI_mulN (a b : Nat) : nI a * nI b = nI (a * b) := by
  show Int32.ofNat a * Int32.ofNat b = Int32.ofNat (a * b)
  rw [Int32.ofNat_mul]
theorem low_nat (x : Int32) : ∃ m : Nat, m < 4294967296 ∧ x.toInt64 &&& 4294967295 = lN m ∧ x.toInt % 4294967296 = (m : Int) := by
  have h := i_low x
  have h1 : 0 ≤ x.toInt % 4294967296 := Int.emod_nonneg _ (by decide)
  have h2 : x.toInt % 4294967296 < 4294967296 := Int.emod_lt_of_pos _ (by decide)
  refine ⟨(x.toInt % 4294967296).toNat, by omega, l_of (by rw [h]; omega) (by omega), by omega⟩
theorem s_carryR {Q : Int64 → St → Prop} {σ : St} {j a c : Nat} (hj : j < 1064) (ha : a < 4294967296) (hc : c < 4294967296)
    (h : ∀ (w : Int32) (o : Nat), w.toInt % 4294967296 = ((gI σ 7 j).toInt % 4294967296 + a + c) % 4294967296 → (o : Int) = ((gI σ 7 j).toInt % 4294967296 + a + c) / 4294967296 → Q (lN o) (wI σ 7 (upd (gI σ 7) j w))) : w_X5_carry Q (nI j) (lN a) (lN c) σ := by
  unfold w_X5_carry
  refine ⟨in_nI hj (by decide), ?_⟩
  rintro y2 rfl
  refine ⟨in_nI hj (by decide), ?_⟩
  rintro σ4 rfl
  rw [ix_nI (by omega), uI_w]
  obtain ⟨m, hm, e1, e2⟩ := low_nat (gI σ 7 j)
  rw [e1, lN_add, lN_add, l2i_N, show (32 : Int32) = nI 32 from rfl, lushr_N (by omega) (by decide)]
  refine h _ _ ?_ ?_
  · rw [nI_mod32, e2]; omega
  · rw [e2]; omega
theorem dgN (n i : Nat) : dgI (n : Int) i = ((n / 2 ^ (32 * i) % 2 ^ 32 : Nat) : Int) := by
  unfold dgI
  rw [← p2c, ← Int.natCast_ediv]
  rfl
theorem bit_at {P at_ m : Nat} : P * 2 ^ at_ / 2 ^ m % 2 = if m < at_ then 0 else P / 2 ^ (m - at_) % 2 := by
  by_cases h : m < at_
  · rw [if_pos h, show at_ = m + (at_ - m - 1 + 1) by omega, Nat.pow_add, Nat.pow_succ, ← Nat.mul_assoc, Nat.mul_right_comm, Nat.mul_div_cancel _ (Nat.two_pow_pos m), ← Nat.mul_assoc, Nat.mul_mod_left]
  · rw [if_neg h, show (2 : Nat) ^ m = 2 ^ (m - at_) * 2 ^ at_ by rw [← Nat.pow_add]; exact congrArg (fun k => 2 ^ k) (by omega), Nat.mul_div_mul_right _ _ (Nat.two_pow_pos at_)]
theorem bit_two {hi lo k : Nat} (hlo : lo < 2 ^ 64) (hhi : hi < 2 ^ 64) : (hi * 2 ^ 64 + lo) / 2 ^ k % 2 = if 127 < k then 0 else if 64 ≤ k then hi / 2 ^ (k - 64) % 2 else lo / 2 ^ k % 2 := by
  by_cases h : 127 < k
  · rw [if_pos h]
    have : hi * 2 ^ 64 + lo < 2 ^ k := Nat.lt_of_lt_of_le (show hi * 2 ^ 64 + lo < 2 ^ 128 by omega) (Nat.pow_le_pow_right (by decide) (by omega))
    rw [Nat.div_eq_of_lt this]
  · rw [if_neg h]
    by_cases h2 : 64 ≤ k
    · rw [if_pos h2, show (2 : Nat) ^ k = 2 ^ 64 * 2 ^ (k - 64) by rw [← Nat.pow_add]; exact congrArg (fun k => 2 ^ k) (by omega), ← Nat.div_div_eq_div_mul]
      rw [show (hi * 2 ^ 64 + lo) / 2 ^ 64 = hi by omega]
    · rw [if_neg h2, show hi * 2 ^ 64 + lo = lo + 2 ^ k * (hi * 2 ^ (64 - k)) by
        rw [Nat.mul_left_comm, ← Nat.pow_add, show k + (64 - k) = 64 by omega, Nat.add_comm], Nat.add_mul_div_left _ _ (Nat.two_pow_pos k)]
      rw [show 64 - k = (63 - k) + 1 by omega, Nat.pow_succ, ← Nat.mul_assoc]
      omega
theorem ab_bits {K37 : Int32 → Int64 → Int64 → Int32 → Int32 → Int32 → Int64 → Int32 → St → Prop} {Q : St → Prop} {σ : St} {hi lo at_ i : Nat} {x1 x7 : Int32} {x11 : Int64} (hlo : lo < 2 ^ 64) (hhi : hi < 2 ^ 64) (hat : at_ < 4864) (hi2 : i < 152)
    (h : w_X5_addBits_150 K37 Q x1 (lN hi) (lN lo) x7 (nI (at_ / 32)) (nI (at_ % 32)) x11 (nI i) (lN ((hi * 2 ^ 64 + lo) * 2 ^ at_ / 2 ^ (32 * i) % 2 ^ 32)) σ) :
    ∃ fu, w_X5_addBits_51 K37 Q fu x1 (lN hi) (lN lo) x7 (nI (at_ / 32)) (nI (at_ % 32)) x11 (nI i) (0 : Int64) (0 : Int32) σ := by
  generalize hP : hi * 2 ^ 64 + lo = P at h
  have hPl : P < 2 ^ 128 := by omega
  have c5 : nI (at_ / 32) + (5 : Int32) = nI (at_ / 32 + 5) := nI_add _ 5
  by_cases hin : at_ / 32 ≤ i ∧ i < at_ / 32 + 5
  · have loop : ∀ (d b : Nat), b + d = 32 → w_X5_addBits_51 K37 Q (d + 1) x1 (lN hi) (lN lo) x7 (nI (at_ / 32)) (nI (at_ % 32)) x11 (nI i) (lN (P * 2 ^ at_ / 2 ^ (32 * i) % 2 ^ b)) (nI b) σ := by
      intro d
      induction d with
      | zero =>
        intro b hb
        have : b = 32 := by omega
        subst this
        rw [w_X5_addBits_51]
        exact ⟨fun _ => h, fun q => absurd (by decide) q⟩
      | succ d ih =>
        intro b hb
        rw [w_X5_addBits_51]
        refine ⟨fun q => ?_, fun _ => ⟨fun q => ?_, fun _ => ⟨fun q => ?_, fun _ => ?_⟩⟩⟩
        · have := (nI_leI (a := 32) (b := b) (by decide) (by omega)).mp q
          omega
        · have := (nI_ltI (by omega) (by omega)).mp q
          omega
        · rw [c5] at q
          have := (nI_leI (by omega) (by omega)).mp q
          omega
        · rintro y7 rfl
          have hy : ((32 : Int32) * (nI i - nI (at_ / 32)) + nI b - nI (at_ % 32)).toInt = (32 * i + b : Nat) - (at_ : Int) := by
            rw [pk_sub hin.1, show (32 : Int32) = nI 32 from rfl, nI_mulN, nI_add]
            have e1 : (nI (32 * (i - at_ / 32) + b)).toInt = ((32 * (i - at_ / 32) + b : Nat) : Int) := nI_toInt (by omega)
            have e2 : (nI (at_ % 32)).toInt = ((at_ % 32 : Nat) : Int) := nI_toInt (by omega)
            rw [i_sub (by omega) (by omega), e1, e2]
            omega
          generalize (32 : Int32) * (nI i - nI (at_ / 32)) + nI b - nI (at_ % 32) = y at hy ⊢
          have hV : P * 2 ^ at_ / 2 ^ (32 * i) / 2 ^ b % 2 = if 32 * i + b < at_ then 0 else P / 2 ^ (32 * i + b - at_) % 2 := by
            rw [Nat.div_div_eq_div_mul, ← Nat.pow_add]
            exact bit_at
          rw [← hP, bit_two hlo hhi, hP] at hV
          have next : ∀ s0 : Int64, s0 = lN (P * 2 ^ at_ / 2 ^ (32 * i) / 2 ^ b % 2) → w_X5_addBits_132 (fun x1 x2 x4 x7 x9 x10 x11 x13 x14 x16 σ => w_X5_addBits_51 K37 Q (d + 1) x1 x2 x4 x7 x9 x10 x11 x13 x14 x16 σ) Q x1 (lN hi) (lN lo) x7 (nI (at_ / 32)) (nI (at_ % 32)) x11 (nI i) (lN (P * 2 ^ at_ / 2 ^ (32 * i) % 2 ^ b)) (nI b) s0 σ := by
            rintro s0 rfl
            unfold w_X5_addBits_132
            rintro y8 rfl y9 rfl
            have key := ih (b + 1) (by omega)
            rw [Nat.mod_pow_succ] at key
            rw [lshl_N _ (by omega), nI_1]
            generalize P * 2 ^ at_ / 2 ^ (32 * i) = V at key ⊢
            have h1 : V / 2 ^ b % 2 ≤ 1 := by omega
            have h2 : V / 2 ^ b % 2 * 2 ^ b ≤ 1 * 2 ^ b := Nat.mul_le_mul_right _ h1
            have h3 : V % 2 ^ b < 2 ^ b := Nat.mod_lt _ (Nat.two_pow_pos b)
            have h4 : 2 ^ b ≤ 2 ^ 31 := Nat.pow_le_pow_right (by decide) (by omega)
            rw [g_or' (k := b) rfl h3 (by omega), Nat.mul_comm (V / 2 ^ b % 2)]
            exact key
          refine ⟨fun q => ?_, fun q => ?_⟩
          · have q := Int32.lt_iff_toInt_lt.mp q
            rw [hy, Int32.toInt_zero] at q
            unfold w_X5_addBits_102
            refine next _ ?_
            rw [hV, if_pos (by omega)]; rfl
          · have q : at_ ≤ 32 * i + b := by
              rcases Nat.lt_or_ge (32 * i + b) at_ with g | g
              · exact absurd (Int32.lt_iff_toInt_lt.mpr (by rw [hy, Int32.toInt_zero]; omega)) q
              · exact g
            rw [if_neg (by omega)] at hV
            have hyn : y = nI (32 * i + b - at_) := i_of (by rw [hy]; omega) (by omega)
            subst hyn
            generalize hk : 32 * i + b - at_ = k at hV ⊢
            have hk2 : k < 5000 := by omega
            refine ⟨fun q2 => ?_, fun q2 => ?_⟩
            · have q2 := (nI_leI (a := k) (b := 127) (by omega) (by decide)).mp q2
              rw [if_neg (by omega)] at hV
              refine ⟨fun q3 => next _ ?_, fun q3 => next _ ?_⟩
              · have q3 := (nI_leI (a := 64) (b := k) (by decide) (by omega)).mp q3
                rw [if_pos q3] at hV
                rw [show (64 : Int32) = nI 64 from rfl, pk_sub q3, hV]
                exact wb_bit hhi (by omega)
              · have q3 : ¬ 64 ≤ k := fun z => q3 ((nI_leI (a := 64) (b := k) (by decide) (by omega)).mpr z)
                rw [if_neg q3] at hV
                rw [hV]
                exact wb_bit hlo (by omega)
            · have q2 : ¬ k ≤ 127 := fun z => q2 ((nI_leI (a := k) (b := 127) (by omega) (by decide)).mpr z)
              rw [if_pos (by omega)] at hV
              unfold w_X5_addBits_102
              refine next _ ?_
              rw [hV]; rfl
    refine ⟨33, ?_⟩
    have := loop 32 0 rfl
    rw [Nat.pow_zero, Nat.mod_one] at this
    exact this
  · have hz : P * 2 ^ at_ / 2 ^ (32 * i) % 2 ^ 32 = 0 := by
      by_cases g : i < at_ / 32
      · rw [show at_ = 32 * i + (at_ - 32 * i - 32 + 32) by omega, Nat.pow_add, Nat.mul_left_comm, Nat.mul_div_cancel_left _ (Nat.two_pow_pos _), Nat.pow_add, ← Nat.mul_assoc, Nat.mul_mod_left]
      · have : P * 2 ^ at_ < 2 ^ (32 * i) := by
          calc P * 2 ^ at_ < 2 ^ 128 * 2 ^ at_ := Nat.mul_lt_mul_of_pos_right hPl (Nat.two_pow_pos _)
            _ = 2 ^ (128 + at_) := (Nat.pow_add _ _ _).symm
            _ ≤ 2 ^ (32 * i) := Nat.pow_le_pow_right (by decide) (by omega)
        rw [Nat.div_eq_of_lt this]
    rw [hz] at h
    refine ⟨1, ?_⟩
    rw [w_X5_addBits_51]
    refine ⟨fun q => absurd q (by decide), fun _ => ⟨fun q => h, fun q => ⟨fun _ => h, fun q2 => ?_⟩⟩⟩
    exfalso
    have q : ¬ i < at_ / 32 := fun z => q ((nI_ltI (by omega) (by omega)).mpr z)
    rw [c5] at q2
    have q2 : ¬ at_ / 32 + 5 ≤ i := fun z => q2 ((nI_leI (by omega) (by omega)).mpr z)
    omega
