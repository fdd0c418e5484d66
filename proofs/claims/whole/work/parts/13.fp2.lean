/-! comparing, dividing, truncating, and doubles that are endless -/
def dk (x : UInt64) : Int := FP.Core.zval B64 (FP.Core.val64 x)
def nn (x : UInt64) : Prop := FP.Core.val64 x ≠ .nan
abbrev dInf : UInt64 := 9218868437227405312
abbrev dMinf : UInt64 := 18442240474082181120
theorem nn_U (s : Bool) (n : Nat) : nn (U s n) := u_nan
theorem nn_inf : nn dInf := by unfold nn; rw [inf_val]; exact fun h => by cases h
theorem nn_minf : nn dMinf := by unfold nn; rw [minf_val]; exact fun h => by cases h
theorem nn_vf {x : UInt64} (h : nn x) : vf_n64 x := (vf_iff x).mpr h
theorem dk_U {s : Bool} {n : Nat} (h : Rn n) : dk (U s n) = sg s n := by
  obtain ⟨c, q, h1, h2, h3, -, h4⟩ := u_val (s := s) h
  unfold dk
  rw [h1]
  show FP.Core.signed s (c * 2 ^ (q - (-1074)).toNat) = _
  rw [show q - (-1074) = q + 1074 by omega, h4]
  cases s <;> rfl
def TOPN : Nat := 2 ^ 2098
def TOP : Int := (TOPN : Int)
theorem TOP_pos : 0 < TOP := by
  unfold TOP
  have h : 0 < TOPN := Nat.two_pow_pos 2098
  omega
theorem top_eq : B64.tails * 2 ^ (B64.exps - 2) = TOPN := by
  rw [show B64.tails = 2 ^ 52 from FP.Core.tails_b64, show B64.exps - 2 = 2046 from by decide, ← Nat.pow_add]
  unfold TOPN
  rw [show 52 + 2046 = 2098 from rfl]
theorem dk_inf : dk dInf = TOP := by
  unfold dk
  rw [inf_val]
  unfold FP.Core.zval FP.Core.zmag FP.Core.sgn FP.Core.signed TOP
  rw [if_neg (by decide)]
  exact congrArg _ top_eq
theorem dk_minf : dk dMinf = -TOP := by
  unfold dk
  rw [minf_val]
  unfold FP.Core.zval FP.Core.zmag FP.Core.sgn FP.Core.signed TOP
  rw [if_pos rfl]
  exact congrArg (fun k : Nat => -(k : Int)) top_eq
theorem dcmp_dk {x y : UInt64} (hx : nn x) (hy : nn y) : FP.dcmp x y = some (compare (dk x) (dk y)) :=
  FP.Core.order_zval FP.Core.good_b64 (FP.Core.val64_fits x) (FP.Core.val64_fits y) hx hy
theorem dc_cases {x y : UInt64} {op : CmpOp} (hx : nn x) (hy : nn y) : (dk x < dk y ∧ dcmpF x y op = -1) ∨ (dk x = dk y ∧ dcmpF x y op = 0) ∨ (dk y < dk x ∧ dcmpF x y op = 1) := by
  unfold dcmpF
  rw [dcmp_dk hx hy]
  rcases Int.lt_trichotomy (dk x) (dk y) with h | h | h
  · refine Or.inl ⟨h, ?_⟩
    rw [show compare (dk x) (dk y) = .lt by simp [compare, compareOfLessAndEq, h]]; rfl
  · refine Or.inr (Or.inl ⟨h, ?_⟩)
    rw [show compare (dk x) (dk y) = .eq by simp [compare, compareOfLessAndEq, h]]; rfl
  · refine Or.inr (Or.inr ⟨h, ?_⟩)
    have h1 : ¬ dk x < dk y := by omega
    have h2 : ¬ dk x = dk y := by omega
    rw [show compare (dk x) (dk y) = .gt by simp [compare, compareOfLessAndEq, h1, h2]]; rfl
theorem dc_lt {x y : UInt64} {op : CmpOp} (hx : nn x) (hy : nn y) : dcmpF x y op < 0 ↔ dk x < dk y := by
  rcases dc_cases (op := op) hx hy with ⟨h, e⟩ | ⟨h, e⟩ | ⟨h, e⟩ <;> rw [e]
  · exact ⟨fun _ => h, fun _ => by decide⟩
  · exact ⟨fun q => absurd q (by decide), fun q => by omega⟩
  · exact ⟨fun q => absurd q (by decide), fun q => by omega⟩
theorem dc_le {x y : UInt64} {op : CmpOp} (hx : nn x) (hy : nn y) : dcmpF x y op ≤ 0 ↔ dk x ≤ dk y := by
  rcases dc_cases (op := op) hx hy with ⟨h, e⟩ | ⟨h, e⟩ | ⟨h, e⟩ <;> rw [e]
  · exact ⟨fun _ => by omega, fun _ => by decide⟩
  · exact ⟨fun _ => by omega, fun q => by decide⟩
  · exact ⟨fun q => absurd q (by decide), fun q => by omega⟩
theorem dc_ge {x y : UInt64} {op : CmpOp} (hx : nn x) (hy : nn y) : 0 ≤ dcmpF x y op ↔ dk y ≤ dk x := by
  rcases dc_cases (op := op) hx hy with ⟨h, e⟩ | ⟨h, e⟩ | ⟨h, e⟩ <;> rw [e]
  · exact ⟨fun q => absurd q (by decide), fun q => by omega⟩
  · exact ⟨fun _ => by omega, fun q => by decide⟩
  · exact ⟨fun _ => by omega, fun q => by decide⟩
theorem dc_gt {x y : UInt64} {op : CmpOp} (hx : nn x) (hy : nn y) : 0 < dcmpF x y op ↔ dk y < dk x := by
  rcases dc_cases (op := op) hx hy with ⟨h, e⟩ | ⟨h, e⟩ | ⟨h, e⟩ <;> rw [e]
  · exact ⟨fun q => absurd q (by decide), fun q => by omega⟩
  · exact ⟨fun q => absurd q (by decide), fun q => by omega⟩
  · exact ⟨fun _ => h, fun q => by decide⟩
theorem dc_eq {x y : UInt64} {op : CmpOp} (hx : nn x) (hy : nn y) : dcmpF x y op = 0 ↔ dk x = dk y := by
  rcases dc_cases (op := op) hx hy with ⟨h, e⟩ | ⟨h, e⟩ | ⟨h, e⟩ <;> rw [e]
  · exact ⟨fun q => absurd q (by decide), fun q => by omega⟩
  · exact ⟨fun _ => h, fun _ => rfl⟩
  · exact ⟨fun q => absurd q (by decide), fun q => by omega⟩
theorem nn_neg {x : UInt64} (h : nn x) : nn (FP.dneg x) := by
  unfold nn
  rw [FP.val64_dneg]
  exact FP.Core.negate_ne_nan h
theorem dk_neg (x : UInt64) : dk (FP.dneg x) = -dk x := by
  unfold dk
  rw [FP.val64_dneg, FP.Core.zval_negate]
theorem nn_cases {x : UInt64} (h : nn x) : (∃ s n, Rn n ∧ x = U s n) ∨ x = dInf ∨ x = dMinf := by
  cases e : FP.Core.val64 x with
  | nan => exact absurd e h
  | inf s =>
    right
    cases s
    · exact Or.inl (FP.Core.val64_inj h (e.trans inf_val.symm))
    · exact Or.inr (FP.Core.val64_inj h (e.trans minf_val.symm))
  | fin s c q => exact Or.inl ⟨s, _, (u_of e).2, (u_of e).1⟩
theorem nn_add {x y : UInt64} (hx : nn x) (hy : nn y) (h1 : ¬ (x = dInf ∧ y = dMinf)) (h2 : ¬ (x = dMinf ∧ y = dInf)) : nn (FP.dadd x y) := by
  have e : FP.Core.val64 (FP.dadd x y) = FP.Core.round B64 (FP.Core.exactSum (FP.Core.val64 x) (FP.Core.val64 y)) := FP.Core.val64_dadd x y
  unfold nn
  rw [e]
  have key : FP.Core.exactSum (FP.Core.val64 x) (FP.Core.val64 y) ≠ .nan := by
    rcases nn_cases hx with ⟨s, n, hn, rfl⟩ | rfl | rfl <;> rcases nn_cases hy with ⟨t, m, hm, rfl⟩ | rfl | rfl
    · obtain ⟨c, q, e1, -⟩ := u_val (s := s) hn
      obtain ⟨d, r, e2, -⟩ := u_val (s := t) hm
      rw [e1, e2]; exact fun h => by cases h
    · obtain ⟨c, q, e1, -⟩ := u_val (s := s) hn
      rw [e1, inf_val]; exact fun h => by cases h
    · obtain ⟨c, q, e1, -⟩ := u_val (s := s) hn
      rw [e1, minf_val]; exact fun h => by cases h
    · obtain ⟨d, r, e2, -⟩ := u_val (s := t) hm
      rw [e2, inf_val]; exact fun h => by cases h
    · rw [inf_val]; exact fun h => by cases h
    · exact absurd ⟨rfl, rfl⟩ h1
    · obtain ⟨d, r, e2, -⟩ := u_val (s := t) hm
      rw [e2, minf_val]; exact fun h => by cases h
    · exact absurd ⟨rfl, rfl⟩ h2
    · rw [minf_val]; exact fun h => by cases h
  cases hz : FP.Core.exactSum (FP.Core.val64 x) (FP.Core.val64 y) with
  | nan => exact absurd hz key
  | inf s => exact fun h => by cases h
  | fin s c q => exact FP.Core.roundRatio_ne_nan _ _ _ _ _
theorem u_dk_inf {s : Bool} {n : Nat} (h : Rn n) : dk (U s n) < TOP ∧ -TOP < dk (U s n) := by
  rw [dk_U h]
  have h1 : n < TOPN := rn_lt h
  unfold TOP
  generalize TOPN = K at h1 ⊢
  cases s <;> simp only [sg, if_true, if_false, Bool.false_eq_true] <;> constructor <;> omega
theorem dk_is_inf {x : UInt64} (h : nn x) : dk x = TOP ↔ x = dInf := by
  have hp := TOP_pos
  refine ⟨fun e => ?_, fun e => by rw [e, dk_inf]⟩
  rcases nn_cases h with ⟨s, n, hn, rfl⟩ | rfl | rfl
  · have := (u_dk_inf (s := s) hn).1; omega
  · rfl
  · rw [dk_minf] at e; exact absurd e (by omega)
theorem dk_is_minf {x : UInt64} (h : nn x) : dk x = -TOP ↔ x = dMinf := by
  have hp := TOP_pos
  refine ⟨fun e => ?_, fun e => by rw [e, dk_minf]⟩
  rcases nn_cases h with ⟨s, n, hn, rfl⟩ | rfl | rfl
  · have := (u_dk_inf (s := s) hn).2; omega
  · rw [dk_inf] at e; exact absurd e (by omega)
  · rfl
theorem u_d2l {s : Bool} {n : Nat} (h : Rn n) (hs : n / 2 ^ 1074 < 2 ^ 63) : (FP.d2l (U s n)).toInt = sg s (n / 2 ^ 1074) := by
  obtain ⟨c, q, h1, h2, h3, -, h4⟩ := u_val (s := s) h
  have e : FP.d2l (U s n) = Int64.ofInt (FP.Core.toInt (-2 ^ 63) (2 ^ 63 - 1) (FP.Core.val64 (U s n))) := rfl
  have ht : FP.Core.truncate s c q = sg s (n / 2 ^ 1074) := by
    have hz : c * 2 ^ q.toNat / 2 ^ (-q).toNat = n / 2 ^ 1074 := by
      rcases Int.le_total 0 q with g | g
      · rw [show (-q).toNat = 0 by omega, Nat.pow_zero, Nat.div_one, ← h4, show (q + 1074).toNat = q.toNat + 1074 by omega, Nat.pow_add, ← Nat.mul_assoc, Nat.mul_div_cancel _ (Nat.two_pow_pos _)]
      · rw [show q.toNat = 0 by omega, Nat.pow_zero, Nat.mul_one, ← h4]
        have h5 : 2 ^ 1074 = 2 ^ (-q).toNat * 2 ^ (q + 1074).toNat := by rw [← Nat.pow_add]; exact congrArg (fun k => 2 ^ k) (by omega)
        rw [h5, Nat.mul_div_mul_right _ _ (Nat.two_pow_pos _)]
    unfold FP.Core.truncate
    rw [hz]
    cases s <;> rfl
  rw [e, h1]
  generalize n / 2 ^ 1074 = K at hs ht ⊢
  have hb : -2 ^ 63 < sg s K ∧ sg s K < 2 ^ 63 := by
    cases s <;> simp only [sg, if_true, if_false, Bool.false_eq_true] <;> constructor <;> omega
  show (Int64.ofInt (max (-2 ^ 63) (min (2 ^ 63 - 1) (FP.Core.truncate s c q)))).toInt = _
  rw [ht]
  rw [show max (-2 ^ 63) (min (2 ^ 63 - 1) (sg s K)) = sg s K by omega]
  exact Int64.toInt_ofInt_of_le (by omega) (by omega)
theorem u_ddiv {s : Bool} {n m j : Nat} (hn : Rn n) (hj : j ≤ 2097) (h : n * 2 ^ 1074 = m * 2 ^ j) : FP.ddiv (U s n) (U false (2 ^ j)) = U s m := by
  obtain ⟨c, q, h1, h2, h3, -, h4⟩ := u_val (s := s) hn
  obtain ⟨d, r, g1, g2, g3, -, g4⟩ := u_val (s := false) (rn_pow hj)
  have e : FP.ddiv (U s n) (U false (2 ^ j)) = FP.Core.of64 (FP.Core.quotient B64 (FP.Core.val64 (U s n)) (FP.Core.val64 (U false (2 ^ j)))) := rfl
  have hd : d ≠ 0 := fun z => by
    rw [z, Nat.zero_mul] at g4
    exact absurd g4 (Nat.ne_of_lt (Nat.two_pow_pos j))
  have e2 : FP.Core.quotient B64 (.fin s c q) (.fin false d r) = FP.Core.roundRatio B64 s c d (q - r) := by
    show (if d = 0 then _ else FP.Core.roundRatio B64 (s != false) c d (q - r)) = _
    rw [if_neg hd, Bool.bne_false]
  rw [e, h1, g1, e2]
  unfold U dv
  refine congrArg FP.Core.of64 ?_
  refine FP.Core.roundRatio_congr (Nat.pos_of_ne_zero hd) (by decide) ?_
  rw [Nat.mul_one, show q - r - -1074 = q + 1074 - r by omega, show -1074 - (q - r) = r - (q + 1074) by omega]
  rw [← h4, ← g4] at h
  have h5 : c * 2 ^ (q + 1074).toNat * 2 ^ 1074 = m * d * 2 ^ (r + 1074).toNat := by rw [h, Nat.mul_assoc]
  rcases Int.le_total r (q + 1074) with g | g
  · rw [show (r - (q + 1074)).toNat = 0 by omega, Nat.pow_zero, Nat.mul_one]
    have h6 : c * 2 ^ (q + 1074).toNat * 2 ^ 1074 = c * 2 ^ (q + 1074 - r).toNat * 2 ^ (r + 1074).toNat := by
      rw [Nat.mul_assoc, Nat.mul_assoc, ← Nat.pow_add, ← Nat.pow_add]; exact congrArg (fun k => c * 2 ^ k) (by omega)
    rw [h6] at h5
    exact Nat.eq_of_mul_eq_mul_right (Nat.two_pow_pos _) h5
  · rw [show (q + 1074 - r).toNat = 0 by omega, Nat.pow_zero, Nat.mul_one]
    have h6 : m * d * 2 ^ (r + 1074).toNat = m * d * 2 ^ (r - (q + 1074)).toNat * (2 ^ (q + 1074).toNat * 2 ^ 1074) := by
      rw [Nat.mul_assoc (m * d), ← Nat.pow_add, ← Nat.pow_add]; exact congrArg (fun k => m * d * 2 ^ k) (by omega)
    rw [h6, Nat.mul_assoc] at h5
    exact Nat.eq_of_mul_eq_mul_right (Nat.mul_pos (Nat.two_pow_pos _) (Nat.two_pow_pos _)) h5
