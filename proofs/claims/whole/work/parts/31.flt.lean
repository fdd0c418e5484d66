/-! a double rounded to a float, and told as a double again -/
abbrev B32 : FP.Core.Fmt := FP.Core.b32
def fQ (w : Nat) (e : Int) : Int := max (-149) ((bl w : Int) + e - 24)
def fC (w : Nat) (e : Int) : Nat := FP.Core.nearest (w * 2 ^ (e - fQ w e).toNat) (2 ^ (fQ w e - e).toNat)
theorem log_bl {w : Nat} (h : w ≠ 0) : (w.log2 : Int) = (bl w : Int) - 1 := by unfold bl; rw [if_neg h]; omega
theorem quant {w : Nat} {e : Int} (h : w ≠ 0) : FP.Core.quantum B32 w 1 e = fQ w e := by
  have hl : FP.Core.leading w 1 = (w.log2 : Int) := by
    unfold FP.Core.leading
    have e1 : (1 : Nat).log2 = 0 := by decide
    rw [e1]
    show (if 1 * 2 ^ ((w.log2 : Int) - ((0 : Nat) : Int)).toNat ≤ w * 2 ^ (-((w.log2 : Int) - ((0 : Nat) : Int))).toNat then (w.log2 : Int) - ((0 : Nat) : Int) else (w.log2 : Int) - ((0 : Nat) : Int) - 1) = _
    rw [show ((w.log2 : Int) - ((0 : Nat) : Int)).toNat = w.log2 by omega, show (-((w.log2 : Int) - ((0 : Nat) : Int))).toNat = 0 by omega, Nat.one_mul, Nat.pow_zero, Nat.mul_one, if_pos (Nat.log2_self_le h)]
    omega
  unfold FP.Core.quantum fQ
  rw [hl, log_bl h, show B32.qmin = -149 by decide, show (B32.p : Int) - 1 = 23 by decide]
  omega
theorem fC_le {w : Nat} {e : Int} (h : w ≠ 0) : fC w e ≤ 2 ^ 24 := by
  have := FP.Core.nearest_units_le (f := B32) (A := w) (B := 1) (Nat.pos_of_ne_zero h) (by decide) e
  rw [quant h] at this
  unfold FP.Core.unitsNum FP.Core.unitsDen at this
  rw [Nat.one_mul] at this
  exact this
theorem fC_ge {w : Nat} {e : Int} (h : w ≠ 0) : fQ w e = -149 ∨ (fQ w e = (bl w : Int) + e - 24 ∧ 2 ^ 23 ≤ fC w e) := by
  by_cases c : fQ w e = -149
  · exact Or.inl c
  · have hq : fQ w e = (bl w : Int) + e - 24 := by unfold fQ at c ⊢; omega
    refine Or.inr ⟨hq, ?_⟩
    unfold fC
    refine FP.Core.nearest_ge (Nat.two_pow_pos _) ?_
    have h1 := bl_lo (Nat.pos_of_ne_zero h)
    have h2 := bl_pos (Nat.pos_of_ne_zero h)
    rw [← Nat.pow_add]
    calc 2 ^ (23 + (fQ w e - e).toNat) = 2 ^ (bl w - 1) * 2 ^ (e - fQ w e).toNat := by rw [← Nat.pow_add]; exact congrArg (fun k => 2 ^ k) (by omega)
      _ ≤ w * 2 ^ (e - fQ w e).toNat := Nat.mul_le_mul_right _ h1
theorem fC_val {m : Int64} {e : Int32} (he : -1074 ≤ e.toInt) : fC m.toInt.natAbs e.toInt * 2 ^ (fQ m.toInt.natAbs e.toInt + 1074).toNat = fltN m e * 2 ^ (fltW m e + 1074).toNat := by
  have hq : fltW m e = max e.toInt (fQ m.toInt.natAbs e.toInt) := by unfold fltW fQ; omega
  have hq2 : -149 ≤ fQ m.toInt.natAbs e.toInt := by unfold fQ; omega
  unfold fltN
  rw [hq]
  unfold fC
  generalize fQ m.toInt.natAbs e.toInt = q at hq2 ⊢
  generalize m.toInt.natAbs = w
  rcases Int.le_total e.toInt q with g | g
  · rw [Int.max_eq_right g, show (e.toInt - q).toNat = 0 by omega, Nat.pow_zero, Nat.mul_one]
  · have n1 : ∀ x : Nat, FP.Core.nearest x 1 = x := fun x => by
      have := FP.Core.nearest_exact x (B := 1) (by decide)
      rwa [Nat.mul_one] at this
    rw [Int.max_eq_left g, show (q - e.toInt).toNat = 0 by omega, show (e.toInt - e.toInt).toNat = 0 by omega, Nat.pow_zero, n1, n1, Nat.mul_assoc, ← Nat.pow_add]
    exact congrArg (fun k => w * 2 ^ k) (by omega)
theorem f32_val {s : Bool} {w : Nat} {e : Int} (he : -1074 ≤ e) (hR : Rn (w * 2 ^ (e + 1074).toNat)) : FP.Core.val32 (FP.d2f (U s (w * 2 ^ (e + 1074).toNat))) = FP.Core.roundRatio B32 s w 1 e := by
  obtain ⟨c, q, h1, h2, h3, -, h4⟩ := u_val (s := s) hR
  have e0 : FP.d2f (U s (w * 2 ^ (e + 1074).toNat)) = FP.Core.d2f (U s (w * 2 ^ (e + 1074).toNat)) := if_neg (fun z => by rw [FP.Core.dIsNaN_iff] at z; exact u_nan z)
  have e1 : FP.Core.val32 (FP.d2f (U s (w * 2 ^ (e + 1074).toNat))) = FP.Core.round B32 (FP.Core.val64 (U s (w * 2 ^ (e + 1074).toNat))) := by rw [e0]; exact FP.Core.val32_d2f _
  rw [e1, h1]
  show FP.Core.roundRatio B32 s c 1 q = _
  refine FP.Core.roundRatio_congr (by decide) (by decide) ?_
  rw [Nat.mul_one, Nat.mul_one]
  rcases Int.le_total e q with g | g
  · rw [show (e - q).toNat = 0 by omega, Nat.pow_zero, Nat.mul_one]
    refine Nat.eq_of_mul_eq_mul_right (Nat.two_pow_pos (e + 1074).toNat) ?_
    rw [← h4, Nat.mul_assoc, ← Nat.pow_add]
    exact congrArg (fun k => c * 2 ^ k) (by omega)
  · rw [show (q - e).toNat = 0 by omega, Nat.pow_zero, Nat.mul_one]
    refine Nat.eq_of_mul_eq_mul_right (Nat.two_pow_pos (q + 1074).toNat) ?_
    rw [h4, Nat.mul_assoc, ← Nat.pow_add]
    exact congrArg (fun k => w * 2 ^ k) (by omega)
theorem vf32_iff (x : UInt32) : vf_n32 x ↔ FP.Core.val32 x ≠ .nan := by
  unfold vf_n32 FP.Core.val32
  rw [ne_eq, FP.Core.decode_nan, FP.Core.mag_toNat32, FP.Core.infBits_b32, Nat.not_lt, UInt32.le_iff_toNat_le, UInt32.toNat_and]
  rw [show (0x7fffffff : UInt32).toNat = 2 ^ 31 - 1 from rfl, Nat.and_two_pow_sub_one_eq_mod]
  rfl
def fT : Nat := 33554431 * 2 ^ 1177
theorem fC_bl {m : Int64} {e : Int32} (he : -1074 ≤ e.toInt) (h : fC m.toInt.natAbs e.toInt ≠ 0) : fltN m e ≠ 0 ∧ (bl (fltN m e) : Int) + fltW m e = (bl (fC m.toInt.natAbs e.toInt) : Int) + fQ m.toInt.natAbs e.toInt := by
  have hv := fC_val (m := m) (e := e) he
  have hw : e.toInt ≤ fltW m e := by unfold fltW; omega
  have hq2 : -149 ≤ fQ m.toInt.natAbs e.toInt := by unfold fQ; omega
  have hn : fltN m e ≠ 0 := by
    intro z
    rw [z, Nat.zero_mul] at hv
    rcases Nat.mul_eq_zero.mp hv with g | g
    · exact h g
    · exact absurd g (Nat.ne_of_gt (Nat.two_pow_pos _))
  refine ⟨hn, ?_⟩
  have h1 := bl_mulpow (Nat.pos_of_ne_zero h) (fQ m.toInt.natAbs e.toInt + 1074).toNat
  have h2 := bl_mulpow (Nat.pos_of_ne_zero hn) (fltW m e + 1074).toNat
  rw [hv, h2] at h1
  omega
theorem flt_thr {m : Int64} {e : Int32} (he : -1074 ≤ e.toInt) : fT ≤ m.toInt.natAbs * 2 ^ (e.toInt + 1074).toNat ↔ fltN m e ≠ 0 ∧ 128 < (bl (fltN m e) : Int) + fltW m e := by
  have hv := fC_val (m := m) (e := e) he
  generalize hw : m.toInt.natAbs = w at hv
  by_cases w0 : w = 0
  · subst w0
    have n0 : fltN m e = 0 := by
      unfold fltN
      have := near_le (w := m.toInt.natAbs) (d := (fltW m e - e.toInt).toNat)
      omega
    rw [n0, Nat.zero_mul]
    refine ⟨fun q => ?_, fun q => absurd rfl q.1⟩
    unfold fT at q
    exact absurd q (Nat.not_le.mpr (Nat.mul_pos (by decide) (Nat.two_pow_pos _)))
  · have hle := fC_le (e := e.toInt) w0
    have hge := fC_ge (e := e.toInt) w0
    have hbn := bl_mulpow (Nat.pos_of_ne_zero w0) (e.toInt + 1074).toNat
    have hnum : w * 2 ^ (e.toInt - fQ w e.toInt).toNat * 2 ^ (fQ w e.toInt + 1074).toNat = w * 2 ^ (e.toInt + 1074).toNat * 2 ^ (fQ w e.toInt - e.toInt).toNat := by
      rw [Nat.mul_assoc, Nat.mul_assoc, ← Nat.pow_add, ← Nat.pow_add]
      have : -149 ≤ fQ w e.toInt := by unfold fQ; omega
      exact congrArg (fun k => w * 2 ^ k) (by omega)
    have hspec := FP.Core.nearest_spec (w * 2 ^ (e.toInt - fQ w e.toInt).toNat) (2 ^ (fQ w e.toInt - e.toInt).toNat) (Nat.two_pow_pos _)
    have hC : FP.Core.nearest (w * 2 ^ (e.toInt - fQ w e.toInt).toNat) (2 ^ (fQ w e.toInt - e.toInt).toNat) = fC w e.toInt := rfl
    rw [hC] at hspec
    have hcb : fC w e.toInt ≠ 0 → fltN m e ≠ 0 ∧ (bl (fltN m e) : Int) + fltW m e = (bl (fC w e.toInt) : Int) + fQ w e.toInt := by
      intro z
      have := fC_bl (m := m) he (by rw [hw]; exact z)
      rw [hw] at this
      exact this
    have hnz : fltN m e ≠ 0 → fC w e.toInt ≠ 0 := by
      intro z y
      rw [y, Nat.zero_mul] at hv
      rcases Nat.mul_eq_zero.mp hv.symm with g | g
      · exact z g
      · exact absurd g (Nat.ne_of_gt (Nat.two_pow_pos _))
    generalize hden : 2 ^ (fQ w e.toInt - e.toInt).toNat = den at hnum hspec
    have hdp : 0 < den := by rw [← hden]; exact Nat.two_pow_pos _
    generalize w * 2 ^ (e.toInt - fQ w e.toInt).toNat = num at hnum hspec
    generalize w * 2 ^ (e.toInt + 1074).toNat = n at hbn hnum ⊢
    have at104 : fQ w e.toInt = 104 → (fT ≤ n ↔ (2 ^ 25 - 1) * den ≤ 2 * num) := by
      intro hq
      rw [hq, show ((104 : Int) + 1074).toNat = 1177 + 1 by decide, Nat.pow_succ, ← Nat.mul_assoc, Nat.mul_right_comm] at hnum
      unfold fT
      have hp := Nat.two_pow_pos 1177
      generalize 2 ^ 1177 = P at hnum hp
      constructor
      · intro q
        have q2 := Nat.mul_le_mul_right den q
        rw [← hnum] at q2
        have : (33554431 * den) * P ≤ (2 * num) * P := by
          rw [Nat.mul_right_comm, Nat.mul_comm 2 num]; exact q2
        exact Nat.le_of_mul_le_mul_right this hp
      · intro q
        have q2 := Nat.mul_le_mul_right P q
        have : 33554431 * P * den ≤ n * den := by
          rw [← hnum, Nat.mul_right_comm, Nat.mul_comm num 2]; exact q2
        exact Nat.le_of_mul_le_mul_right this hdp
    constructor
    · intro q
      have h1 : 2 ^ 1201 ≤ n := by
        refine Nat.le_trans ?_ q
        unfold fT
        rw [show (1201 : Nat) = 24 + 1177 from rfl, Nat.pow_add]
        exact Nat.mul_le_mul_right _ (by decide)
      have h2 := bl_gt.mpr h1
      have h3 : fQ w e.toInt = (bl w : Int) + e.toInt - 24 := by unfold fQ; omega
      have h4 : 2 ^ 23 ≤ fC w e.toInt := by
        rcases hge with g | g
        · omega
        · exact g.2
      have h5 := hcb (by omega)
      refine ⟨h5.1, ?_⟩
      rw [h5.2]
      have h6 := bl_gt.mpr h4
      by_cases c : fQ w e.toInt = 104
      · have h7 := (at104 c).mp q
        have h8 : 2 ^ 24 ≤ fC w e.toInt := by
          obtain ⟨s1, s2, s3⟩ := hspec
          have a1 : (2 ^ 25 - 1) * den ≤ (2 * fC w e.toInt + 1) * den := Nat.le_trans h7 s1
          have a2 := Nat.le_of_mul_le_mul_right a1 hdp
          rcases Nat.lt_or_ge (fC w e.toInt) (2 ^ 24) with g | g
          · exfalso
            have a3 : fC w e.toInt = 2 ^ 24 - 1 := by omega
            rw [a3] at s1 s3
            have a4 : 2 * num = (2 * (2 ^ 24 - 1) + 1) * den := Nat.le_antisymm s1 h7
            exact absurd (s3 (Or.inl a4)) (by decide)
          · exact g
        have h9 := bl_gt.mpr h8
        omega
      · omega
    · rintro ⟨q1, q2⟩
      have h1 := hnz q1
      rw [(hcb h1).2] at q2
      have hb25 : bl (fC w e.toInt) ≤ 25 := bl_le.mpr (by omega)
      rcases Nat.lt_or_ge n fT with g | g
      · exfalso
        have h3 : n < 2 ^ 1202 := by
          refine Nat.lt_of_lt_of_le g ?_
          unfold fT
          rw [show (1202 : Nat) = 25 + 1177 from rfl, Nat.pow_add]
          exact Nat.mul_le_mul_right _ (by decide)
        have h4 := bl_le.mpr h3
        have h5 : fQ w e.toInt ≤ 104 := by unfold fQ; omega
        have h6 : fQ w e.toInt = 104 := by omega
        have h7 : 2 ^ 24 ≤ fC w e.toInt := bl_gt.mp (by omega)
        obtain ⟨s1, s2, s3⟩ := hspec
        have h8 : ¬ (2 ^ 25 - 1) * den ≤ 2 * num := fun z => absurd ((at104 h6).mpr z) (Nat.not_le.mpr g)
        have h9 : 2 * 2 ^ 24 * den ≤ 2 * fC w e.toInt * den := Nat.mul_le_mul_right _ (by omega)
        omega
      · exact g
theorem flt_rnd {m : Int64} {e : Int32} {s : Bool} (hm : m.toInt.natAbs < 2 ^ 53) (he : -1074 ≤ e.toInt) (he2 : e.toInt ≤ 971) (hlt : m.toInt.natAbs * 2 ^ (e.toInt + 1074).toNat < fT) :
    vf_n32 (FP.d2f (U s (m.toInt.natAbs * 2 ^ (e.toInt + 1074).toNat))) ∧ FP.f2d (FP.d2f (U s (m.toInt.natAbs * 2 ^ (e.toInt + 1074).toNat))) = U s (fltN m e * 2 ^ (fltW m e + 1074).toNat) := by
  have hR : Rn (m.toInt.natAbs * 2 ^ (e.toInt + 1074).toNat) := rn_of hm (by omega)
  have hv := f32_val (s := s) he hR
  have hthr : ¬ (fltN m e ≠ 0 ∧ 128 < (bl (fltN m e) : Int) + fltW m e) := fun z => absurd ((flt_thr (m := m) he).mpr z) (Nat.not_le.mpr hlt)
  refine ⟨(vf32_iff _).mpr (by rw [hv]; exact FP.Core.roundRatio_ne_nan _ _ _ _ _), ?_⟩
  have e64 : FP.Core.val64 (FP.f2d (FP.d2f (U s (m.toInt.natAbs * 2 ^ (e.toInt + 1074).toNat)))) = FP.Core.round B64 (FP.Core.roundRatio B32 s m.toInt.natAbs 1 e.toInt) := by
    rw [← hv]
    have e0 : FP.f2d (FP.d2f (U s (m.toInt.natAbs * 2 ^ (e.toInt + 1074).toNat))) = FP.Core.f2d (FP.d2f (U s (m.toInt.natAbs * 2 ^ (e.toInt + 1074).toNat))) := if_neg (fun z => by
      rw [FP.Core.fIsNaN_iff, hv] at z; exact FP.Core.roundRatio_ne_nan _ _ _ _ _ z)
    rw [e0]
    exact FP.Core.val64_f2d _
  have fin : ∀ (c : Nat) (q : Int), FP.Core.roundRatio B32 s m.toInt.natAbs 1 e.toInt = .fin s c q → -1074 ≤ q → c * 2 ^ (q + 1074).toNat = fltN m e * 2 ^ (fltW m e + 1074).toNat → FP.f2d (FP.d2f (U s (m.toInt.natAbs * 2 ^ (e.toInt + 1074).toNat))) = U s (fltN m e * 2 ^ (fltW m e + 1074).toNat) := by
    intro c q h1 h2 h3
    have h4 : FP.Core.val64 (FP.f2d (FP.d2f (U s (m.toInt.natAbs * 2 ^ (e.toInt + 1074).toNat)))) = FP.Core.val64 (U s (c * 2 ^ (q + 1074).toNat)) := by
      rw [e64, h1, ← dv_U h2, dv_val]; rfl
    rw [← h3]
    exact FP.Core.val64_inj (by rw [h4]; exact u_nan) h4
  have hvv := fC_val (m := m) (e := e) he
  generalize hw : m.toInt.natAbs = w at *
  by_cases w0 : w = 0
  · subst w0
    refine fin 0 (-149) ?_ (by decide) ?_
    · unfold FP.Core.roundRatio
      rw [if_pos rfl]; rfl
    · rw [← hvv, Nat.zero_mul]
      unfold fC
      rw [Nat.zero_mul]
      have : FP.Core.nearest 0 (2 ^ (fQ 0 e.toInt - e.toInt).toNat) = 0 := Nat.le_zero.mp near_le
      rw [this, Nat.zero_mul]
  · have hle := fC_le (e := e.toInt) w0
    have hge := fC_ge (e := e.toInt) w0
    have hq2 : -149 ≤ fQ w e.toInt := by unfold fQ; omega
    have hcb : fC w e.toInt ≠ 0 → fltN m e ≠ 0 ∧ (bl (fltN m e) : Int) + fltW m e = (bl (fC w e.toInt) : Int) + fQ w e.toInt := by
      intro z
      have := fC_bl (m := m) he (by rw [hw]; exact z)
      rw [hw] at this
      exact this
    have hrr : FP.Core.roundRatio B32 s w 1 e.toInt = FP.Core.settle B32 s (fC w e.toInt) (fQ w e.toInt) := by
      unfold FP.Core.roundRatio FP.Core.roundAt
      rw [if_neg w0, quant w0]
      unfold FP.Core.unitsNum FP.Core.unitsDen
      rw [Nat.one_mul]; rfl
    have hup : fC w e.toInt = 0 ∨ (bl (fC w e.toInt) : Int) + fQ w e.toInt ≤ 128 := by
      by_cases z : fC w e.toInt = 0
      · exact Or.inl z
      · right
        have := hcb z
        rcases ilg 128 ((bl (fltN m e) : Int) + fltW m e) with g | g
        · exact absurd ⟨this.1, g⟩ hthr
        · omega
    have hmax : B32.qmax = 104 := by decide
    rcases Nat.lt_or_ge (fC w e.toInt) (2 ^ 24) with g | g
    · have hq : fQ w e.toInt ≤ 104 := by
        rcases hge with y | ⟨-, y⟩
        · omega
        · have := bl_gt.mpr y
          omega
      refine fin _ _ ?_ (by omega) hvv
      rw [hrr]
      unfold FP.Core.settle FP.Core.bound
      rw [if_pos (show fC w e.toInt < 2 ^ B32.p from g), if_pos (by rw [hmax]; exact hq)]
    · have hc : fC w e.toInt = 2 ^ 24 := by omega
      have hq : fQ w e.toInt + 1 ≤ 104 := by
        have := bl_gt.mpr g
        omega
      refine fin (2 ^ 23) (fQ w e.toInt + 1) ?_ (by omega) ?_
      · rw [hrr]
        unfold FP.Core.settle FP.Core.bound
        rw [if_neg (show ¬ fC w e.toInt < 2 ^ B32.p from Nat.not_lt.mpr g), if_pos (by rw [hmax]; exact hq)]
        rfl
      · rw [← hvv, hc, ← Nat.pow_add, ← Nat.pow_add]
        exact congrArg (fun k => 2 ^ k) (by omega)
