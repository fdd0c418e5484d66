/-! rounding, and what is told of sums, in the class -/
def rBits (f : Bool) : Nat := if f then 24 else 53
def rLeast (f : Bool) : Nat := if f then 1999 else 1074
def rStep (M : Nat) (f : Bool) : Nat := max (bl M - rBits f) (rLeast f)
def rUp (M : Nat) (rest below : Bool) (way : Int32) (f : Bool) : Bool := awy (M / 2 ^ rStep M f) (decide (M / 2 ^ (rStep M f - 1) % 2 = 1)) (rest || decide (M % 2 ^ (rStep M f - 1) ≠ 0)) below way
def rnd (M : Nat) (rest below : Bool) (way : Int32) (f : Bool) : UInt64 := finV (M / 2 ^ rStep M f + if rUp M rest below way f then 1 else 0) ((rStep M f : Int) - 2148) below way f
theorem rStep_lt {M : Nat} {f : Bool} : M / 2 ^ rStep M f < 2 ^ rBits f := by
  refine (Nat.div_lt_iff_lt_mul (Nat.two_pow_pos _)).mpr ?_
  rw [← Nat.pow_add]
  exact bl_le.mp (by unfold rStep; omega)
theorem rBits_le (f : Bool) : rBits f ≤ 53 ∧ 24 ≤ rBits f := by cases f <;> decide
theorem rLeast_ge (f : Bool) : 1074 ≤ rLeast f ∧ rLeast f ≤ 1999 := by cases f <;> decide
theorem rStep_rng {M : Nat} {f : Bool} (hM : M < 2 ^ (32 * 150)) : 1074 ≤ rStep M f ∧ rStep M f ≤ 4800 := by
  have h1 := rLeast_ge f
  have h2 := bl_le.mpr hM
  unfold rStep
  omega
theorem dT {x : Int32} (h : ¬ x = 0) : decide (¬ x = 0) = true := decide_eq_true h
theorem dF {x : Int32} (h : x = 0) : decide (¬ x = 0) = false := decide_eq_false (fun z => z h)
theorem st_rng {s : Nat} (h : 1074 ≤ s ∧ s ≤ 4800) : (nI s + (-2148 : Int32)).toInt = (s : Int) - 2148 ∧ -1074 ≤ (nI s + (-2148 : Int32)).toInt ∧ (nI s + (-2148 : Int32)).toInt ≤ 100000 := by
  have k2148 : (-2148 : Int32).toInt = -2148 := by decide
  have e1 : (nI s).toInt = (s : Int) := nI_toInt (by omega)
  have e2 : (nI s + (-2148 : Int32)).toInt = (s : Int) - 2148 := by rw [i_add (by omega) (by omega), e1, k2148]; omega
  omega
theorem s_roundedC {M : Nat} {x1 x2 x3 x4 : Int32} {Q : UInt64 → St → Prop} {σ : St} (hM : M < 2 ^ (32 * 150)) (hL : LV (gJ σ 43) M) (h : Q (rnd M (decide (¬ x2 = 0)) (decide (¬ x1 = 0)) x3 (decide (¬ x4 = 0))) σ) : w_X3_rounded Q x1 x2 x3 x4 σ := by
  unfold w_X3_rounded
  refine s_topBit hM hL (fun e he => ?_)
  have hb := bl_le.mpr hM
  have k2148 : (-2148 : Int32).toInt = -2148 := by decide
  generalize hf : decide (¬ x4 = 0) = f at h
  have hrs := rStep_rng (f := f) hM
  have hbit := rBits_le f
  have hlst := rLeast_ge f
  have hw : M / 2 ^ rStep M f < 2 ^ 53 := Nat.lt_of_lt_of_le rStep_lt (Nat.pow_le_pow_right (by decide) hbit.1)
  have g119 : ∀ w : Nat, w ≤ 2 ^ 53 → Q (finV w ((rStep M f : Int) - 2148) (decide (¬ x1 = 0)) x3 f) σ → w_X3_rounded_119 Q x1 x3 x4 (nI (rStep M f)) (lN w) σ := by
    intro w hw hq
    unfold w_X3_rounded_119
    obtain ⟨e2, h1, h2⟩ := st_rng hrs
    refine s_finished hw h1 h2 ?_
    rw [e2, hf]; exact hq
  have g97 : ∀ half more : Int32, decide (¬ half = 0) = decide (M / 2 ^ (rStep M f - 1) % 2 = 1) → decide (¬ more = 0) = (decide (¬ x2 = 0) || decide (M % 2 ^ (rStep M f - 1) ≠ 0)) → w_X3_rounded_97 Q x1 x3 x4 (nI (rStep M f)) (lN (M / 2 ^ rStep M f)) half more σ := by
    intro half more hh hm
    unfold w_X3_rounded_97
    refine s_stepsAway (by omega) ?_
    rw [hh, hm]
    unfold rnd rUp at h
    show _ ∧ _
    generalize awy (M / 2 ^ rStep M f) (decide (M / 2 ^ (rStep M f - 1) % 2 = 1)) (decide (¬ x2 = 0) || decide (M % 2 ^ (rStep M f - 1) ≠ 0)) (decide (¬ x1 = 0)) x3 = up at h ⊢
    cases up
    · exact ⟨fun _ => g119 _ (by omega) h, fun z => absurd rfl z⟩
    · refine ⟨fun z => absurd z (by decide), fun _ => ?_⟩
      rintro y13 rfl
      have e3 : lN (M / 2 ^ rStep M f) + (1 : Int64) = lN (M / 2 ^ rStep M f + 1) := lN_1 _
      rw [e3]
      exact g119 _ (by omega) h
  have ep : nI (rStep M f) - (1 : Int32) = nI (rStep M f - 1) := pk_sub (b := 1) (by omega)
  have g75 : ∀ half : Int32, decide (¬ half = 0) = decide (M / 2 ^ (rStep M f - 1) % 2 = 1) → w_X3_rounded_75 Q x1 x2 x3 x4 (nI (rStep M f)) (lN (M / 2 ^ rStep M f)) half σ := by
    intro half hh
    unfold w_X3_rounded_75 w_X3_rounded_92
    refine ⟨fun z => g97 _ _ hh (by rw [dT z]; rfl), fun z => ?_⟩
    rw [ep]
    refine s_hasBitBelow (by omega) hM hL ?_
    by_cases c : M % 2 ^ (rStep M f - 1) = 0
    · rw [if_pos c]
      exact ⟨fun _ => g97 _ _ hh (by rw [dF z, c]; rfl), fun y => absurd rfl y⟩
    · rw [if_neg c]
      exact ⟨fun y => absurd y n10, fun _ => g97 _ _ hh (by rw [decide_eq_true c, Bool.or_true]; rfl)⟩
  have g40 : ∀ s0 : Int32, s0.toInt = (rBits f : Int) → w_X3_rounded_40 Q x1 x2 x3 x4 (nI (rLeast f)) s0 e σ := by
    intro s0 hs0
    unfold w_X3_rounded_40
    rintro y4 rfl
    have e1 : (e - s0).toInt = (bl M : Int) - 1 - rBits f := by rw [i_sub (by omega) (by omega), he, hs0]
    have e2 : (e - s0 + 1).toInt = (bl M : Int) - rBits f := by rw [i_add (by rw [t1]; omega) (by rw [t1]; omega), e1, t1]; omega
    have e3 : (nI (rLeast f)).toInt = (rLeast f : Int) := nI_toInt (by omega)
    have ey : (if e - s0 + 1 < nI (rLeast f) then nI (rLeast f) else e - s0 + 1) = nI (rStep M f) := by
      refine i_of ?_ (by omega)
      split
      · rename_i c
        rw [i_lt, e2, e3] at c
        rw [e3]; unfold rStep; omega
      · rename_i c
        rw [i_lt, e2, e3] at c
        rw [e2]; unfold rStep; omega
    rw [ey]
    refine s_wholeFrom (by omega) hM hL (by omega) ?_
    rw [ep]
    refine s_bitAtC (by omega) hM hL ?_
    show _ ∧ _
    refine ⟨fun q => g75 0 ?_, fun q => g75 1 ?_⟩
    · have : ¬ M / 2 ^ (rStep M f - 1) % 2 = 1 := fun z => q (by rw [z]; rfl)
      rw [decide_eq_false this]; rfl
    · have : M / 2 ^ (rStep M f - 1) % 2 = 1 := (nI_eq (b := 1) (by omega) (by decide)).mp q
      rw [this]; rfl
  refine ⟨fun z => ?_, fun z => ?_⟩ <;> unfold w_X3_rounded_20 <;> rintro y3 rfl <;> refine ⟨fun y => ?_, fun y => ?_⟩
  · rw [dF z] at hf
    have := g40 53
    rw [← hf] at this
    exact this (by decide)
  · exact absurd z y
  · exact absurd y z
  · rw [dT z] at hf
    have := g40 24
    rw [← hf] at this
    exact this (by decide)
def shareV (K : KpA) (n : Nat) (way : Int32) (f : Bool) : UInt64 :=
  if sortK K.2.2 = 1 then dInf else if sortK K.2.2 = 2 then dMinf else if sortK K.2.2 = 3 then U false 0 else rnd (K.2.1.natAbs / n) (decide (K.2.1.natAbs % n ≠ 0)) (decide (K.2.1 < 0)) way f
theorem sortK_lt (E : Nat → Int32) : sortK E < 4 := by unfold sortK; split <;> (try split) <;> (try split) <;> decide
theorem s_sharedOut {k n : Nat} {K : KpA} {way isF : Int32} {Q : UInt64 → St → Prop} {σ : St} (hk : ∀ i, i < 3 → ¬ cS (k + i)) (hK : KpC σ k K) (b : -2 ^ (32 * 149) ≤ K.2.1 ∧ K.2.1 < 2 ^ (32 * 149)) (hn : 1 ≤ n) (hn2 : n ≤ 1000000) (h : ∀ σ', FrC cS σ σ' → Q (shareV K n way (decide (¬ isF = 0))) σ') : w_X4_sharedOut Q k (nI n) way isF σ := by
  unfold w_X4_sharedOut
  refine s_state hK ?_
  unfold shareV at h
  have hl := sortK_lt K.2.2
  have d : ∀ {y : Nat}, y < 4 → (nI (sortK K.2.2) = nI y ↔ sortK K.2.2 = y) := fun hy => nI_eq (by omega) (by omega)
  have d1 : nI (sortK K.2.2) = 1 ↔ sortK K.2.2 = 1 := d (y := 1) (by decide)
  have d2 : nI (sortK K.2.2) = 2 ↔ sortK K.2.2 = 2 := d (y := 2) (by decide)
  have d3 : nI (sortK K.2.2) = 3 ↔ sortK K.2.2 = 3 := d (y := 3) (by decide)
  show _ ∧ _
  rw [d1, d2, d3]
  have hM := p4800 b.1 b.2
  refine ⟨fun q => ?_, fun q => ?_, fun q => ?_, fun q1 q2 q3 => ?_⟩
  · rw [if_pos q] at h; exact h σ FrC.rf
  · rw [if_neg (by omega), if_pos q] at h
    show Q (FP.dneg (9218868437227405312 : UInt64)) σ
    rw [minf_eq]; exact h σ FrC.rf
  · rw [if_neg (by omega), if_neg (by omega), if_pos q] at h
    rw [u_zero]; exact h σ FrC.rf
  · rw [if_neg q1, if_neg q2, if_neg q3] at h
    refine s_load (fun z => hk 2 (by decide) (Or.inl z)) hK b (fun L hL => ?_)
    refine s_divideBy hn hn2 hM hL (fun L' hL' => ?_)
    have f : FrC cS σ (wJ σ 43 L') := frc_wJ (Or.inl rfl)
    refine s_isBelowC (hK.fr f (fun i hi => hk i hi)) ?_
    have hq : K.2.1.natAbs / n < 2 ^ (32 * 150) := Nat.lt_of_le_of_lt (Nat.div_le_self _ _) hM
    refine s_roundedC (M := K.2.1.natAbs / n) hq (by rw [gJ_wJ_eq]; exact hL') ?_
    have e1 : decide (¬ (if K.2.1.natAbs % n = 0 then (0 : Int32) else 1) = 0) = decide (K.2.1.natAbs % n ≠ 0) := by
      by_cases c : K.2.1.natAbs % n = 0
      · rw [if_pos c, decide_eq_false (fun z : K.2.1.natAbs % n ≠ 0 => z c)]; rfl
      · rw [if_neg c, decide_eq_true c]; rfl
    have e2 : decide (¬ (if K.2.1 < 0 then (1 : Int32) else 0) = 0) = decide (K.2.1 < 0) := by
      by_cases c : K.2.1 < 0
      · rw [if_pos c, decide_eq_true c]; rfl
      · rw [if_neg c, decide_eq_false c]; rfl
    rw [e1, e2]
    exact h _ f
def t_tell (A : AS) (x1 x2 x3 : Int32) : UInt64 := if isK x1 ∧ (A.2.1 (ix x1)).1 ≠ -1 ∧ (0 ≤ x2.toInt ∧ x2.toInt ≤ 3) then shareV (A.2.1 (ix x1)) 1 x2 (decide (¬ x3 = 0)) else U false 0
def t_mean (A : AS) (x1 x2 x3 : Int32) : UInt64 := if isK x1 ∧ (A.2.1 (ix x1)).1 ≠ -1 ∧ (0 ≤ x3.toInt ∧ x3.toInt ≤ 3) ∧ (1 ≤ x2.toInt ∧ x2.toInt ≤ 1000000) then shareV (A.2.1 (ix x1)) (ix x2) x3 false else U false 0
def t_sign (A : AS) (x1 : Int32) : Int32 := if isK x1 then (if (A.2.1 (ix x1)).1 = -1 then -11 else if (A.2.1 (ix x1)).2.1 < 0 then 2 else if (A.2.1 (ix x1)).2.1 = 0 then 0 else 1) else -3
def t_high (A : AS) (x1 : Int32) : Int32 := if isK x1 then (if (A.2.1 (ix x1)).1 = -1 then -10010 else if (A.2.1 (ix x1)).2.1 = 0 then -10000 else nI (bl (A.2.1 (ix x1)).2.1.natAbs) - 2149) else -10002
def t_bit (A : AS) (x1 x2 : Int32) : Int32 := if isK x1 ∧ (-2148 ≤ x2.toInt ∧ x2.toInt ≤ 2200) then (if (A.2.1 (ix x1)).1 = -1 then -11 else nI ((A.2.1 (ix x1)).2.1.natAbs / 2 ^ (x2.toInt + 2148).toNat % 2)) else -3
theorem keep_cS {k i : Nat} (hi : i < 3) : ¬ cS (keepC k + i) := by unfold cS keepC; omega
theorem s_isWay {x : Int32} {Q : Int32 → St → Prop} {σ : St} (h1 : (0 ≤ x.toInt ∧ x.toInt ≤ 3) → Q 1 σ) (h0 : ¬ (0 ≤ x.toInt ∧ x.toInt ≤ 3) → Q 0 σ) : w_X4_isWay Q x σ := by
  unfold w_X4_isWay
  refine ⟨fun q => h0 ?_, fun q => ⟨fun q2 => h0 ?_, fun q2 => h1 ?_⟩⟩
  · rw [i_lt, t0] at q; rintro ⟨a, -⟩; omega
  · rw [i_lt, k3] at q2; rintro ⟨-, a⟩; omega
  · rw [i_lt, t0] at q; rw [i_lt, k3] at q2; constructor <;> omega
theorem s_tellC {A : AS} {N : Nat} {x1 x2 x3 : Int32} {Q : UInt64 → St → Prop} {σ : St} (hR : RC A σ) (ho : OK N A) (hN : N ≤ 512) (h : ∀ σ', RC A σ' → Q (t_tell A x1 x2 x3) σ') : w_X4_tell Q x1 x2 x3 σ := by
  unfold w_X4_tell
  unfold t_tell at h
  have bad : ¬ (isK x1 ∧ (A.2.1 (ix x1)).1 ≠ -1 ∧ (0 ≤ x2.toInt ∧ x2.toInt ≤ 3)) → Q FP.dconst0 σ := by
    intro c
    rw [if_neg c] at h
    rw [u_zero]; exact h σ hR
  refine s_findingOf hR (fun c g => ⟨fun z => absurd rfl z, fun _ => s_isWay (fun w => ⟨fun _ => ?_, fun z => absurd z n10⟩) (fun w => ⟨fun z => absurd rfl z, fun _ => bad (fun z => w z.2.2)⟩)⟩) (fun c g => ⟨fun _ => bad (fun z => z.2.1 g), fun z => absurd z (by decide)⟩) (fun c => ⟨fun _ => bad (fun z => c z.1), fun z => absurd z (by decide)⟩)
  rw [if_pos ⟨c, g, w⟩] at h
  obtain ⟨e1, l1⟩ := isK_nI c
  refine ⟨by rw [e1]; exact in_nI l1 (by decide), ?_⟩
  exact s_sharedOut (n := 1) (fun i hi => keep_cS hi) (hR.2.1 _ l1) ((ho.2.1 _ l1).rng hN) (by decide) (by decide) (fun σ' f => h σ' (hR.scr f))
theorem s_meanC {A : AS} {N : Nat} {x1 x2 x3 : Int32} {Q : UInt64 → St → Prop} {σ : St} (hR : RC A σ) (ho : OK N A) (hN : N ≤ 512) (h : ∀ σ', RC A σ' → Q (t_mean A x1 x2 x3) σ') : w_X4_mean Q x1 x2 x3 σ := by
  unfold w_X4_mean
  unfold t_mean at h
  have bad : ¬ (isK x1 ∧ (A.2.1 (ix x1)).1 ≠ -1 ∧ (0 ≤ x3.toInt ∧ x3.toInt ≤ 3) ∧ (1 ≤ x2.toInt ∧ x2.toInt ≤ 1000000)) → Q FP.dconst0 σ := by
    intro c
    rw [if_neg c] at h
    rw [u_zero]; exact h σ hR
  have km : (1000000 : Int32).toInt = 1000000 := by decide
  refine s_findingOf hR (fun c g => ⟨fun z => absurd rfl z, fun _ => s_isWay (fun w => ⟨fun z => absurd z n10, fun _ => ⟨fun q => bad ?_, fun q => ⟨fun q2 => ?_, fun q2 => bad ?_⟩⟩⟩) (fun w => ⟨fun _ => bad (fun z => w z.2.2.1), fun z => absurd rfl z⟩)⟩) (fun c g => ⟨fun _ => bad (fun z => z.2.1 g), fun z => absurd z (by decide)⟩) (fun c => ⟨fun _ => bad (fun z => c z.1), fun z => absurd z (by decide)⟩)
  · rw [i_lt, t1] at q; rintro ⟨-, -, -, a, -⟩; omega
  · rw [i_lt, t1] at q; rw [i_le, km] at q2
    rw [if_pos ⟨c, g, w, by omega, q2⟩] at h
    obtain ⟨e1, l1⟩ := isK_nI c
    have i2 : (ix x2 : Int) = x2.toInt := by rw [ix_toInt]; omega
    have e2 : x2 = nI (ix x2) := i_of (by omega) (by omega)
    refine ⟨by rw [e1]; exact in_nI l1 (by decide), ?_⟩
    rw [e2]
    exact s_sharedOut (fun i hi => keep_cS hi) (hR.2.1 _ l1) ((ho.2.1 _ l1).rng hN) (by omega) (by omega) (fun σ' f => h σ' (hR.scr f))
  · rw [i_le, km] at q2; rintro ⟨-, -, -, -, a⟩; exact q2 a
theorem s_signC {A : AS} {x1 : Int32} {Q : Int32 → St → Prop} {σ : St} (hR : RC A σ) (h : ∀ σ', RC A σ' → Q (t_sign A x1) σ') : w_X4_sign Q x1 σ := by
  unfold w_X4_sign
  unfold t_sign at h
  have h := h σ hR
  refine s_findingOf hR (fun c g => ⟨fun _ => ?_, fun z => absurd rfl z⟩) (fun c g => ⟨fun z => absurd z (by decide), fun _ => by rw [if_pos c, if_pos g] at h; exact h⟩) (fun c => ⟨fun z => absurd z (by decide), fun _ => by rw [if_neg c] at h; exact h⟩)
  rw [if_pos c, if_neg g] at h
  obtain ⟨e1, l1⟩ := isK_nI c
  refine ⟨by rw [e1]; exact in_nI l1 (by decide), s_isBelowC (hR.2.1 _ l1) ?_⟩
  by_cases a : (A.2.1 (ix x1)).2.1 < 0
  · rw [if_pos a] at h ⊢
    exact ⟨fun z => absurd z n10, fun _ => h⟩
  · rw [if_neg a] at h ⊢
    refine ⟨fun _ => s_isNought (hR.2.1 _ l1) ?_, fun z => absurd rfl z⟩
    by_cases b : (A.2.1 (ix x1)).2.1 = 0
    · rw [if_pos b] at h ⊢
      exact ⟨fun z => absurd z n10, fun _ => h⟩
    · rw [if_neg b] at h ⊢
      exact ⟨fun _ => h, fun z => absurd rfl z⟩
theorem s_highC {A : AS} {N : Nat} {x1 : Int32} {Q : Int32 → St → Prop} {σ : St} (hR : RC A σ) (ho : OK N A) (hN : N ≤ 512) (h : ∀ σ', RC A σ' → Q (t_high A x1) σ') : w_X4_high Q x1 σ := by
  unfold w_X4_high
  unfold t_high at h
  refine s_findingOf hR (fun c g => ⟨fun _ => ?_, fun z => absurd rfl z⟩) (fun c g => ⟨fun z => absurd z (by decide), fun _ => by rw [if_pos c, if_pos g] at h; exact h σ hR⟩) (fun c => ⟨fun z => absurd z (by decide), fun _ => by rw [if_neg c] at h; exact h σ hR⟩)
  rw [if_pos c, if_neg g] at h
  obtain ⟨e1, l1⟩ := isK_nI c
  have b := (ho.2.1 _ l1).rng hN
  have hM := p4800 b.1 b.2
  have hb := bl_le.mpr hM
  refine ⟨by rw [e1]; exact in_nI l1 (by decide), s_load (by unfold keepC; omega) (hR.2.1 _ l1) b (fun L hL => s_topBit hM (by rw [gJ_wJ_eq]; exact hL) (fun e he => ?_))⟩
  have h := h _ (hR.scr (frc_wJ (f := L) (Or.inl rfl)))
  have k2148 : (-2148 : Int32).toInt = -2148 := by decide
  have k2149 : (2149 : Int32).toInt = 2149 := by decide
  refine ⟨fun q => ?_, fun q => ?_⟩
  · have q := i_ge0.mp q
    have hn0 : (A.2.1 (ix x1)).2.1 ≠ 0 := fun z => by
      rw [z] at he
      have : bl (0 : Int).natAbs = 0 := by decide
      omega
    rw [if_neg hn0] at h
    have e2 : e + (-2148 : Int32) = nI (bl (A.2.1 (ix x1)).2.1.natAbs) - 2149 := by
      refine i_ext ?_
      have e3 : (nI (bl (A.2.1 (ix x1)).2.1.natAbs)).toInt = (bl (A.2.1 (ix x1)).2.1.natAbs : Int) := nI_toInt (by omega)
      rw [i_add (by omega) (by omega), i_sub (by omega) (by omega), he, e3, k2148, k2149]; omega
    rw [e2]; exact h
  · have hq : ¬ 0 ≤ e.toInt := fun z => q (i_ge0.mpr z)
    have hn0 : (A.2.1 (ix x1)).2.1 = 0 := by
      rcases Nat.eq_zero_or_pos (A.2.1 (ix x1)).2.1.natAbs with z | z
      · omega
      · have := bl_pos z
        omega
    rw [if_pos hn0] at h; exact h
theorem s_bitC {A : AS} {N : Nat} {x1 x2 : Int32} {Q : Int32 → St → Prop} {σ : St} (hR : RC A σ) (ho : OK N A) (hN : N ≤ 512) (h : ∀ σ', RC A σ' → Q (t_bit A x1 x2) σ') : w_X4_bit Q x1 x2 σ := by
  unfold w_X4_bit
  unfold t_bit at h
  have bad : ¬ (isK x1 ∧ (-2148 ≤ x2.toInt ∧ x2.toInt ≤ 2200)) → Q (-3) σ := by
    intro c
    rw [if_neg c] at h
    exact h σ hR
  have k2148 : (-2148 : Int32).toInt = -2148 := by decide
  have k2200 : (2200 : Int32).toInt = 2200 := by decide
  refine s_isKeeperC (fun c1 => ⟨fun z => absurd z n10, fun _ => ⟨fun q => bad ?_, fun q => ⟨fun q2 => ?_, fun q2 => bad ?_⟩⟩⟩) (fun c1 => ⟨fun _ => bad (fun z => c1 z.1), fun z => absurd rfl z⟩)
  · rw [i_lt, k2148] at q; rintro ⟨-, a, -⟩; omega
  · rw [i_lt, k2148] at q; rw [i_le, k2200] at q2
    rw [if_pos ⟨c1, by omega, q2⟩] at h
    obtain ⟨e1, l1⟩ := isK_nI c1
    have hK := hR.2.1 _ l1
    rw [hK.gone]
    refine ⟨by rw [e1]; exact in_nI l1 (by decide), fun g => ?_, fun g => by rw [if_pos g] at h; exact h σ hR⟩
    rw [if_neg g] at h
    have b := (ho.2.1 _ l1).rng hN
    have hM := p4800 b.1 b.2
    have ep : x2 - (-2148 : Int32) = nI (x2.toInt + 2148).toNat := by
      refine i_of ?_ (by omega)
      rw [i_sub (by omega) (by omega), k2148]; omega
    rw [ep]
    refine s_load (by unfold keepC; omega) hK b (fun L hL => s_bitAtC (by omega) hM (by rw [gJ_wJ_eq]; exact hL) ?_)
    exact h _ (hR.scr (frc_wJ (f := L) (Or.inl rfl)))
  · rw [i_le, k2200] at q2; rintro ⟨-, -, a⟩; exact q2 a
/-! counting -/
def cnt (f : Nat → Nat) : Nat → Nat | 0 => 0 | n + 1 => cnt f n + f n
def t_count (A : AS) (x : Int32) : Int32 :=
  if x = 0 then nI (cnt (fun r => if (A.1 r).1 = -1 then 0 else 1) 12) else if x = 1 then nI (cnt (fun k => if (A.2.1 k).1 = -1 then 0 else 1) 6)
  else if x = 2 then nI A.2.2.1.length else if x = 3 then nI (cnt (fun r => if (A.1 r).1 = -1 then 0 else (A.1 r).2.1) 12) else if x = 4 then A.2.2.2
  else if x = 5 then nI (cnt (fun k => if (A.2.1 k).1 = -1 then 0 else if sortK (A.2.1 k).2.2 = 3 then 1 else 0) 6) else -3
theorem s_countC {A : AS} {x : Int32} {Q : Int32 → St → Prop} {σ : St} (hR : RC A σ) (h : ∀ σ', RC A σ' → Q (t_count A x) σ') : w_X4_count Q x σ := by
  unfold w_X4_count
  unfold t_count at h
  have h := h σ hR
  refine ⟨fun z => ?_, fun z => ?_, fun z => ?_, fun z => ?_, fun z => ?_, fun z => ?_, fun z0 z1 z2 z3 z4 z5 => ?_⟩
  · rw [if_pos z] at h
    unfold w_X4_rowsThere
    have loop : ∀ (d i : Nat), i + d = 12 → w_X4_rowsThere_13 (fun r2 σ1 => Q r2 σ1) (d + 1) (nI (cnt (fun r => if (A.1 r).1 = -1 then 0 else 1) i)) 12 (nI i) σ := by
      intro d
      induction d with
      | zero =>
        intro i hi
        have : i = 12 := by omega
        subst this
        rw [w_X4_rowsThere_13]
        exact ⟨fun _ => h, fun q => absurd (by decide) q⟩
      | succ d ih =>
        intro i hi
        rw [w_X4_rowsThere_13]
        refine ⟨fun q => ?_, fun _ => ⟨in_nI (by omega) (by decide), ?_⟩⟩
        · have := (nI_leI (a := 12) (b := i) (by decide) (by omega)).mp q
          omega
        · rw [ix_nI (by omega), (hR.1 i (by omega)).gone]
          have nx := ih (i + 1) (by omega)
          have es : cnt (fun r => if (A.1 r).1 = -1 then 0 else 1) (i + 1) = cnt (fun r => if (A.1 r).1 = -1 then 0 else 1) i + (if (A.1 i).1 = -1 then 0 else 1) := rfl
          rw [es] at nx
          refine ⟨fun g => ?_, fun g => ?_⟩
          · rintro y2 rfl y3 rfl
            rw [if_pos g, Nat.add_zero] at nx
            rw [nI_1, Int32.add_zero]; exact nx
          · rintro y2 rfl y3 rfl
            rw [if_neg g] at nx
            rw [nI_1, nI_1]; exact nx
    exact ⟨13, loop 12 0 rfl⟩
  · rw [if_neg (by rw [z]; decide), if_pos z] at h
    unfold w_X4_keepersThere
    have loop : ∀ (d i : Nat), i + d = 6 → w_X4_keepersThere_14 (fun r2 σ1 => Q r2 σ1) (d + 1) 0 (nI (cnt (fun k => if (A.2.1 k).1 = -1 then 0 else 1) i)) 6 (nI i) σ := by
      intro d
      induction d with
      | zero =>
        intro i hi
        have : i = 6 := by omega
        subst this
        rw [w_X4_keepersThere_14]
        exact ⟨fun _ => h, fun q => absurd (by decide) q⟩
      | succ d ih =>
        intro i hi
        rw [w_X4_keepersThere_14]
        refine ⟨fun q => ?_, fun _ => ⟨in_nI (by omega) (by decide), ?_⟩⟩
        · have := (nI_leI (a := 6) (b := i) (by decide) (by omega)).mp q
          omega
        · rw [ix_nI (by omega), (hR.2.1 i (by omega)).gone]
          have nx := ih (i + 1) (by omega)
          have es : cnt (fun k => if (A.2.1 k).1 = -1 then 0 else 1) (i + 1) = cnt (fun k => if (A.2.1 k).1 = -1 then 0 else 1) i + (if (A.2.1 i).1 = -1 then 0 else 1) := rfl
          rw [es] at nx
          refine ⟨fun g => ?_, fun g => ⟨fun _ => ?_, fun y => absurd rfl y⟩⟩
          · rintro y2 rfl
            rw [if_pos g, Nat.add_zero] at nx
            rw [nI_1]; exact nx
          · rintro y3 rfl y4 rfl
            rw [if_neg g] at nx
            rw [nI_1, nI_1]; exact nx
    exact ⟨7, loop 6 0 rfl⟩
  · rw [if_neg (by rw [z]; decide), if_neg (by rw [z]; decide), if_pos z] at h
    rw [hR.2.2.1.1]; exact h
  · rw [if_neg (by rw [z]; decide), if_neg (by rw [z]; decide), if_neg (by rw [z]; decide), if_pos z] at h
    unfold w_X4_placesThere
    have loop : ∀ (d i : Nat), i + d = 12 → w_X4_placesThere_13 (fun r2 σ1 => Q r2 σ1) (d + 1) (nI (cnt (fun r => if (A.1 r).1 = -1 then 0 else (A.1 r).2.1) i)) 12 (nI i) σ := by
      intro d
      induction d with
      | zero =>
        intro i hi
        have : i = 12 := by omega
        subst this
        rw [w_X4_placesThere_13]
        exact ⟨fun _ => h, fun q => absurd (by decide) q⟩
      | succ d ih =>
        intro i hi
        rw [w_X4_placesThere_13]
        refine ⟨fun q => ?_, fun _ => ⟨in_nI (by omega) (by decide), ?_⟩⟩
        · have := (nI_leI (a := 12) (b := i) (by decide) (by omega)).mp q
          omega
        · rw [ix_nI (by omega), (hR.1 i (by omega)).gone]
          have nx := ih (i + 1) (by omega)
          have es : cnt (fun r => if (A.1 r).1 = -1 then 0 else (A.1 r).2.1) (i + 1) = cnt (fun r => if (A.1 r).1 = -1 then 0 else (A.1 r).2.1) i + (if (A.1 i).1 = -1 then 0 else (A.1 i).2.1) := rfl
          rw [es] at nx
          refine ⟨fun g => ?_, fun g => ?_⟩
          · rintro y2 rfl y3 rfl
            rw [if_pos g, Nat.add_zero] at nx
            rw [nI_1, Int32.add_zero]; exact nx
          · rintro y2 rfl y3 rfl
            rw [if_neg g] at nx
            rw [nI_1, ((hR.1 i (by omega)).2.2 g).2.2.2.2.1, nI_add]; exact nx
    exact ⟨13, loop 12 0 rfl⟩
  · rw [if_neg (by rw [z]; decide), if_neg (by rw [z]; decide), if_neg (by rw [z]; decide), if_neg (by rw [z]; decide), if_pos z] at h
    rw [hR.2.2.2.1]; exact h
  · rw [if_neg (by rw [z]; decide), if_neg (by rw [z]; decide), if_neg (by rw [z]; decide), if_neg (by rw [z]; decide), if_neg (by rw [z]; decide), if_pos z] at h
    unfold w_X4_keepersThere
    have loop : ∀ (d i : Nat), i + d = 6 → w_X4_keepersThere_14 (fun r2 σ1 => Q r2 σ1) (d + 1) 1 (nI (cnt (fun k => if (A.2.1 k).1 = -1 then 0 else if sortK (A.2.1 k).2.2 = 3 then 1 else 0) i)) 6 (nI i) σ := by
      intro d
      induction d with
      | zero =>
        intro i hi
        have : i = 6 := by omega
        subst this
        rw [w_X4_keepersThere_14]
        exact ⟨fun _ => h, fun q => absurd (by decide) q⟩
      | succ d ih =>
        intro i hi
        rw [w_X4_keepersThere_14]
        refine ⟨fun q => ?_, fun _ => ⟨in_nI (by omega) (by decide), ?_⟩⟩
        · have := (nI_leI (a := 6) (b := i) (by decide) (by omega)).mp q
          omega
        · rw [ix_nI (by omega), (hR.2.1 i (by omega)).gone]
          have nx := ih (i + 1) (by omega)
          have es : cnt (fun k => if (A.2.1 k).1 = -1 then 0 else if sortK (A.2.1 k).2.2 = 3 then 1 else 0) (i + 1) = cnt (fun k => if (A.2.1 k).1 = -1 then 0 else if sortK (A.2.1 k).2.2 = 3 then 1 else 0) i + (if (A.2.1 i).1 = -1 then 0 else if sortK (A.2.1 i).2.2 = 3 then 1 else 0) := rfl
          rw [es] at nx
          have hl := sortK_lt (A.2.1 i).2.2
          refine ⟨fun g => ?_, fun g => ⟨fun y => absurd y n10, fun _ => s_state (hR.2.1 i (by omega)) ?_⟩⟩
          · rintro y2 rfl
            rw [if_pos g, Nat.add_zero] at nx
            rw [nI_1]; exact nx
          · rw [if_neg g] at nx
            refine ⟨fun q => ?_, fun q => ?_⟩
            · rintro y7 rfl
              rw [if_neg (fun y => q (by rw [y]; rfl)), Nat.add_zero] at nx
              rw [nI_1]; exact nx
            · rintro y8 rfl y9 rfl
              have : sortK (A.2.1 i).2.2 = 3 := (nI_eq (b := 3) (by omega) (by decide)).mp q
              rw [if_pos this] at nx
              rw [nI_1, nI_1]; exact nx
    exact ⟨7, loop 6 0 rfl⟩
  · rw [if_neg z0, if_neg z1, if_neg z2, if_neg z3, if_neg z4, if_neg z5] at h; exact h
