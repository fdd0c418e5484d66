/-! what the calls of keepers answer, and what they leave -/
def sortK (E : Nat → Int32) : Nat := if 0 < (E 0).toInt ∨ (0 < (E 1).toInt ∧ 0 < (E 2).toInt) then 3 else if 0 < (E 1).toInt then 1 else if 0 < (E 2).toInt then 2 else 0
def gathK (K : KpA) (t : Bool) (it : Nat → Nat × Int) (n : Nat) : KpA := (K.1, (itr t it n (K.2.1, K.2.2)).1, (itr t it n (K.2.1, K.2.2)).2)
def addIt (kd : Int) (R : RwA) (pl j : Nat) : Nat × Int := if kd = 2 then prS (valP R.1 (R.2.2 (pl + j))) (valP R.1 (R.2.2 (pl + j))) else prS (valP R.1 (R.2.2 (pl + j))) (0, 2 ^ 1074)
def pairIt (R O : RwA) (pl j : Nat) : Nat × Int := prS (valP R.1 (R.2.2 (pl + j))) (valP O.1 (O.2.2 (pl + j)))
def mergK (K O : KpA) : KpA := (K.1, K.2.1 + O.2.1, fun w => cap (K.2.2 w + O.2.2 w))
def plL (kd : Int) (f : Nat → Pl) : Nat → Nat → UInt64 → UInt64
  | 0, _, s => s
  | d + 1, i, s => if srtP kd (f i) = 3 ∨ (s = dInf ∧ dblP kd (f i) = dMinf) ∨ (s = dMinf ∧ dblP kd (f i) = dInf) then U false 0 else plL kd f d (i + 1) (FP.dadd s (dblP kd (f i)))
def plainD (R : RwA) (pl n : Nat) : UInt64 := plL R.1 R.2.2 n pl (U false 0)
def valD (d : UInt64) : Nat × Int := if d = dInf then (1, 0) else if d = dMinf then (2, 0) else (0, dk d)
def errK (R : RwA) (pl n : Nat) : KpA := gathK (gathK (zeroK 0) false (addIt 0 R pl) n) true (fun _ => prS (valD (plainD R pl n)) (0, 2 ^ 1074)) 1
abbrev areN (R : RwA) (x : Int32) (n : Nat) : Prop := 0 ≤ x.toInt ∧ x.toInt + n ≤ R.2.1
def t_keeper (A : AS) (x1 x2 : Int32) : Int32 × AS := if isK x1 ∧ (0 ≤ x2.toInt ∧ x2.toInt ≤ 2) then (0, setK (pushH A (ix x1)) (ix x1) (zeroK x2.toInt)) else (-3, A)
def t_add (A : AS) (x1 x2 x3 x4 : Int32) : Int32 × AS :=
  if isK x1 ∧ isR x2 ∧ (-40 ≤ x4.toInt ∧ x4.toInt ≤ 40) then
    (if (A.2.1 (ix x1)).1 = -1 ∨ (A.1 (ix x2)).1 = -1 then (-11, A) else if (A.2.1 (ix x1)).1 = 1 then (-12, A) else if areN (A.1 (ix x2)) x3 x4.toInt.natAbs then
      (nI x4.toInt.natAbs, setG (setK (pushH A (ix x1)) (ix x1) (gathK (A.2.1 (ix x1)) (decide (¬ 0 ≤ x4)) (addIt (A.2.1 (ix x1)).1 (A.1 (ix x2)) (ix x3)) x4.toInt.natAbs)) (A.2.2.2 + nI x4.toInt.natAbs)) else (-13, A)) else (-3, A)
def t_pair (A : AS) (x1 x2 x3 x4 x5 : Int32) : Int32 × AS :=
  if isK x1 ∧ isR x2 ∧ isR x3 ∧ (-40 ≤ x5.toInt ∧ x5.toInt ≤ 40) then
    (if (A.2.1 (ix x1)).1 = -1 ∨ (A.1 (ix x2)).1 = -1 ∨ (A.1 (ix x3)).1 = -1 then (-11, A) else if (A.2.1 (ix x1)).1 = 0 then (-12, A) else if areN (A.1 (ix x2)) x4 x5.toInt.natAbs ∧ areN (A.1 (ix x3)) x4 x5.toInt.natAbs then
      (nI x5.toInt.natAbs, setG (setK (pushH A (ix x1)) (ix x1) (gathK (A.2.1 (ix x1)) (decide (¬ 0 ≤ x5)) (pairIt (A.1 (ix x2)) (A.1 (ix x3)) (ix x4)) x5.toInt.natAbs)) (A.2.2.2 + nI x5.toInt.natAbs)) else (-13, A)) else (-3, A)
def t_merge (A : AS) (x1 x2 : Int32) : Int32 × AS :=
  if isK x1 ∧ isK x2 then
    (if (A.2.1 (ix x1)).1 = -1 ∨ (A.2.1 (ix x2)).1 = -1 then (-11, A) else if ((A.2.1 (ix x1)).1 = 0 ↔ (A.2.1 (ix x2)).1 = 0) then (0, setK (pushH A (ix x1)) (ix x1) (mergK (A.2.1 (ix x1)) (A.2.1 (ix x2)))) else (-12, A)) else (-3, A)
def t_clear (A : AS) (x1 : Int32) : Int32 × AS := if isK x1 then (if (A.2.1 (ix x1)).1 = -1 then (-11, A) else (0, setK (pushH A (ix x1)) (ix x1) (zeroK (A.2.1 (ix x1)).1))) else (-3, A)
def t_error (A : AS) (x1 x2 x3 x4 : Int32) : Int32 × AS :=
  if isK x1 ∧ isR x2 ∧ (0 ≤ x4.toInt ∧ x4.toInt ≤ 40) then
    (if (A.2.1 (ix x1)).1 = -1 ∨ (A.1 (ix x2)).1 = -1 then (-11, A) else if (A.2.1 (ix x1)).1 = 0 then (if areN (A.1 (ix x2)) x3 (ix x4) then
      (x4, setG (setK (pushH A (ix x1)) (ix x1) (errK (A.1 (ix x2)) (ix x3) (ix x4))) (A.2.2.2 + x4)) else (-13, A)) else (-12, A)) else (-3, A)
def t_plain (A : AS) (x1 x2 x3 : Int32) : UInt64 := if isR x1 ∧ (0 ≤ x3.toInt ∧ x3.toInt ≤ 40) ∧ (A.1 (ix x1)).1 ≠ -1 ∧ areN (A.1 (ix x1)) x2 (ix x3) then plainD (A.1 (ix x1)) (ix x2) (ix x3) else U false 0
def t_sort (A : AS) (x1 : Int32) : Int32 := if isK x1 then (if (A.2.1 (ix x1)).1 = -1 then -11 else nI (sortK (A.2.1 (ix x1)).2.2)) else -3
def t_seen (A : AS) (x1 x2 : Int32) : Int32 := if isK x1 ∧ (0 ≤ x2.toInt ∧ x2.toInt ≤ 2) then (if (A.2.1 (ix x1)).1 = -1 then -11 else (A.2.1 (ix x1)).2.2 (ix x2)) else -3
def t_order (A : AS) (x1 x2 : Int32) : Int32 := if isK x1 ∧ isK x2 then (if (A.2.1 (ix x1)).1 = -1 ∨ (A.2.1 (ix x2)).1 = -1 then -11 else if (A.2.1 (ix x1)).2.1 = (A.2.1 (ix x2)).2.1 then 1 else if (A.2.1 (ix x1)).2.1 < (A.2.1 (ix x2)).2.1 then 2 else 3) else -3
def t_undo (A : AS) : Int32 × AS := match A.2.2.1 with | [] => (-1, A) | e :: t => (nI e.1, setH (setK A e.1 e.2) t)
/-! small steps of the class over keepers -/
theorem KpC.gone {σ : St} {c : Nat} {K : KpA} (h : KpC σ c K) : gI σ c 0 = 0 ↔ K.1 = -1 := h.2.1.symm
theorem s_state {k : Nat} {K : KpA} {Q : Int32 → St → Prop} {σ : St} (hK : KpC σ k K) (h : Q (nI (sortK K.2.2)) σ) : w_X1_state k Q σ := by
  have e0 := hK.2.2.2.2 0 (by decide)
  have e1 := hK.2.2.2.2 1 (by decide)
  have e2 := hK.2.2.2.2 2 (by decide)
  unfold sortK at h
  have g29 : ¬ 0 < (K.2.2 0).toInt → ¬ (0 < (K.2.2 1).toInt ∧ 0 < (K.2.2 2).toInt) → w_X1_state_29 k Q σ := by
    intro a b
    unfold w_X1_state_29
    rw [show ix (1 : Int32) = 1 from rfl, show ix (2 : Int32) = 2 from rfl, e1, e2]
    rw [if_neg (by rintro (z | z); exact a z; exact b z)] at h
    refine ⟨fun q => ⟨fun q2 => ?_, fun q2 => ?_⟩, fun q => ?_⟩
    · rw [i_le, t0] at q q2
      rw [if_neg (by omega), if_neg (by omega)] at h; exact h
    · rw [i_le, t0] at q q2
      rw [if_neg (by omega), if_pos (by omega)] at h; exact h
    · rw [i_le, t0] at q
      rw [if_pos (by omega)] at h; exact h
  unfold w_X1_state
  rw [show ix (0 : Int32) = 0 from rfl, show ix (1 : Int32) = 1 from rfl, show ix (2 : Int32) = 2 from rfl, e0, e1, e2]
  refine ⟨fun q => ?_, fun q => ⟨fun q2 => g29 ?_ ?_, fun q2 => ⟨fun q3 => g29 ?_ ?_, fun q3 => ?_⟩⟩⟩
  · rw [i_lt, t0] at q
    rw [if_pos (Or.inl q)] at h; exact h
  · rw [i_lt, t0] at q; exact q
  · rw [i_le, t0] at q2; omega
  · rw [i_lt, t0] at q; exact q
  · rw [i_le, t0] at q3; omega
  · rw [i_le, t0] at q2 q3
    rw [if_pos (Or.inr ⟨by omega, by omega⟩)] at h; exact h
theorem s_isBelowC {k : Nat} {K : KpA} {Q : Int32 → St → Prop} {σ : St} (hK : KpC σ k K) (h : Q (if K.2.1 < 0 then 1 else 0) σ) : w_X1_isBelow k Q σ := by
  unfold w_X1_isBelow
  have e := hK.2.2.2.1.2
  rw [show ix (149 : Int32) = 149 from rfl]
  have hb : 0 ≤ gJ σ (k + 2) 149 ↔ ¬ K.2.1 < 0 := by
    rw [l_ge0, e, ← div_neg_iff (k := 32 * 149)]; exact Int.not_lt.symm
  refine ⟨fun q => ?_, fun q => ?_⟩
  · rw [if_neg (hb.mp q)] at h; exact h
  · rw [if_pos (Decidable.byContradiction (fun z => q (hb.mpr z)))] at h; exact h
theorem sm_zero {F : Nat → Int} {n : Nat} (h : ∀ i, i < n → F i = 0) : sm F n = 0 := by
  induction n with
  | zero => rfl
  | succ n ih =>
    show sm F n + F n * 2 ^ (32 * n) = 0
    rw [ih (fun i hi => h i (by omega)), h n (by omega), Int.zero_mul]; rfl
theorem s_isNought {k : Nat} {K : KpA} {Q : Int32 → St → Prop} {σ : St} (hK : KpC σ k K) (h : Q (if K.2.1 = 0 then 1 else 0) σ) : w_X1_isNought k Q σ := by
  unfold w_X1_isNought
  have hv := hK.2.2.2.1
  have hz : ∀ i, i < 150 → K.2.1 = 0 → (gJ σ (k + 2) i).toInt = 0 := by
    intro i hi z
    by_cases c : i = 149
    · rw [c, hv.2, z]; exact Int.zero_ediv _
    · rw [hv.1 i (by omega), z]; exact dgI0 i
  have loop : ∀ (d i : Nat), i + d = 150 → (∀ j, j < i → (gJ σ (k + 2) j).toInt = 0) → w_X1_isNought_10 k Q (d + 1) 150 (nI i) σ := by
    intro d
    induction d with
    | zero =>
      intro i hi hj
      have : i = 150 := by omega
      subst this
      rw [w_X1_isNought_10]
      refine ⟨fun _ => ?_, fun q => absurd (by decide) q⟩
      have : K.2.1 = 0 := by rw [← KV_sm hv]; exact sm_zero hj
      rw [if_pos this] at h; exact h
    | succ d ih =>
      intro i hi hj
      rw [w_X1_isNought_10]
      refine ⟨fun q => ?_, fun _ => ⟨in_nI (by omega) (by decide), ?_⟩⟩
      · have := (nI_leI (a := 150) (b := i) (by decide) (by omega)).mp q
        omega
      · rintro y2 rfl
        rw [ix_nI (by omega)]
        refine ⟨fun q => ?_, fun q => ?_⟩
        · rintro y3 rfl
          rw [nI_1]
          refine ih (i + 1) (by omega) (fun j hj2 => ?_)
          by_cases c : j = i
          · rw [c]; exact l_zero.mp q
          · exact hj j (by omega)
        · rw [if_neg (fun z => q (l_zero.mpr (hz i (by omega) z)))] at h; exact h
  exact ⟨151, loop 150 0 rfl (fun j hj => absurd hj (by omega))⟩
theorem nI_dn (i : Nat) (h : i < 2147483647) : nI (i + 1) + (-1 : Int32) = nI i := nI_m (k := 1) (by decide) (by omega) (by omega)
theorem s_comparedWith {k k2 : Nat} {K M : KpA} {Q : Int32 → St → Prop} {σ : St} (hK : KpC σ k K) (hM : KpC σ k2 M) (h : Q (if K.2.1 = M.2.1 then 0 else if K.2.1 < M.2.1 then -1 else 1) σ) : w_X1_comparedWith k Q k2 σ := by
  unfold w_X1_comparedWith
  have hv := hK.2.2.2.1
  have hw := hM.2.2.2.1
  have lt : K.2.1 < M.2.1 → Q (-1) σ := fun q => by rw [if_neg (by omega), if_pos q] at h; exact h
  have gt : M.2.1 < K.2.1 → Q 1 σ := fun q => by rw [if_neg (by omega), if_neg (by omega)] at h; exact h
  have loop : ∀ (i : Nat), i < 149 → K.2.1 / 2 ^ (32 * (i + 1)) = M.2.1 / 2 ^ (32 * (i + 1)) → w_X1_comparedWith_4 k Q (i + 2) k2 (nI i) σ := by
    intro i
    induction i with
    | zero =>
      intro hi he
      rw [w_X1_comparedWith_4]
      have hin : vp_in (nI 0) 150 := in_nI (by omega) (by decide)
      refine ⟨fun q => absurd q (by decide), fun _ => ⟨hin, hin, fun q => ?_, fun q => ⟨hin, hin, fun q2 => ?_, fun q2 => ?_⟩⟩⟩
      · rintro y3 rfl
        rw [w_X1_comparedWith_4]
        refine ⟨fun _ => ?_, fun q => absurd (by decide) q⟩
        rw [ix_nI (by decide)] at q
        have e1 := hv.1 0 (by decide)
        have e2 := hw.1 0 (by decide)
        have a := dg_split K.2.1 0
        have b := dg_split M.2.1 0
        rw [q] at e1
        rw [he] at a
        have : K.2.1 / 2 ^ (32 * 0) = M.2.1 / 2 ^ (32 * 0) := by omega
        rw [Nat.mul_zero, Int.pow_zero, Int.ediv_one, Int.ediv_one] at this
        rw [if_pos this] at h; exact h
      · rw [ix_nI (by decide)] at q q2
        rw [l_le, hv.1 0 (by decide), hw.1 0 (by decide)] at q2
        refine gt (lt_digits he.symm ?_)
        have : dgI K.2.1 0 ≠ dgI M.2.1 0 := fun z => q (l_ext (by rw [hv.1 0 (by decide), hw.1 0 (by decide), z]))
        omega
      · rw [ix_nI (by decide)] at q2
        rw [l_le, hv.1 0 (by decide), hw.1 0 (by decide)] at q2
        exact lt (lt_digits he (by omega))
    | succ i ih =>
      intro hi he
      rw [w_X1_comparedWith_4]
      have hin : vp_in (nI (i + 1)) 150 := in_nI (by omega) (by decide)
      rw [ix_nI (by omega)]
      have e1 := hv.1 (i + 1) (by omega)
      have e2 := hw.1 (i + 1) (by omega)
      refine ⟨fun q => absurd q (nI_pos (by omega)), fun _ => ⟨hin, hin, fun q => ?_, fun q => ⟨hin, hin, fun q2 => ?_, fun q2 => ?_⟩⟩⟩
      · rintro y3 rfl
        rw [nI_dn _ (by omega)]
        refine ih (by omega) ?_
        have a := dg_split K.2.1 (i + 1)
        have b := dg_split M.2.1 (i + 1)
        rw [q] at e1
        rw [he] at a
        omega
      · rw [l_le, e1, e2] at q2
        refine gt (lt_digits he.symm ?_)
        have : dgI K.2.1 (i + 1) ≠ dgI M.2.1 (i + 1) := fun z => q (l_ext (by rw [e1, e2, z]))
        omega
      · rw [l_le, e1, e2] at q2
        exact lt (lt_digits he (by omega))
  refine ⟨151, ?_⟩
  rw [w_X1_comparedWith_4, show ix (149 : Int32) = 149 from rfl]
  have hin : vp_in (149 : Int32) 150 := in_nI (i := 149) (by omega) (by decide)
  refine ⟨fun q => absurd q (by decide), fun _ => ⟨hin, hin, fun q => ?_, fun q => ⟨hin, hin, fun q2 => ?_, fun q2 => ?_⟩⟩⟩
  · rintro y3 rfl
    have e1 := hv.2
    have e2 := hw.2
    rw [q] at e1
    exact loop 148 (by decide) (e1.symm.trans e2)
  · rw [l_le, hv.2, hw.2] at q2
    refine gt (lt_tops (k := 32 * 149) ?_)
    have : K.2.1 / 2 ^ (32 * 149) ≠ M.2.1 / 2 ^ (32 * 149) := fun z => q (l_ext (by rw [hv.2, hw.2, z]))
    rcases Int.lt_or_eq_of_le q2 with g | g
    · exact g
    · exact absurd g.symm this
  · rw [l_le, hv.2, hw.2] at q2
    exact lt (lt_tops (k := 32 * 149) (Int.not_le.mp q2))
theorem KV_rng {L : Nat → Int64} {N : Int} (h : KV L N) (h1 : -2 ^ (32 * 149) ≤ N) (h2 : N < 2 ^ (32 * 149)) : ∀ i, i < 150 → -1 ≤ (L i).toInt ∧ (L i).toInt < 4294967296 := by
  intro i hi
  by_cases c : i = 149
  · subst c
    rw [h.2]
    rcases ilg N 0 with g | g
    · rw [div_m1_of g h1]; decide
    · rw [div_zero_of g h2]; decide
  · rw [h.1 i (by omega)]
    have := dg_rng N i
    omega
theorem s_gainAll {k k2 : Nat} {K M : KpA} {Q : St → Prop} {σ : St} (hd : k2 = k ∨ k2 + 3 ≤ k ∨ k + 3 ≤ k2) (hK : KpC σ k K) (hM : KpC σ k2 M) (b1 : -2 ^ (32 * 149) ≤ K.2.1 ∧ K.2.1 < 2 ^ (32 * 149)) (b2 : -2 ^ (32 * 149) ≤ M.2.1 ∧ M.2.1 < 2 ^ (32 * 149))
    (h : ∀ σ', FrC (fun c => k ≤ c ∧ c < k + 3) σ σ' → KpC σ' k (mergK K M) → Q σ') : w_X1_gainAll k Q k2 σ := by
  unfold w_X1_gainAll
  have hv := hK.2.2.2.1
  have hw := hM.2.2.2.1
  have rv := KV_rng hv b1.1 b1.2
  have rw_ := KV_rng hw b2.1 b2.2
  have fin36 : ∀ (L' : Nat → Int64), KV L' (K.2.1 + M.2.1) → ∀ (d i : Nat) (E : Nat → Int32), i + d = 3 → (∀ j, j < i → E j = cap (gI σ (k + 1) j + gI σ (k2 + 1) j)) → (∀ j, i ≤ j → E j = gI σ (k + 1) j) → w_X1_gainAll_36 k Q (d + 1) k2 (nI i) (wI (wJ σ (k + 2) L') (k + 1) E) := by
    intro L' hL d
    induction d with
    | zero =>
      intro i E hi ha hb
      have : i = 3 := by omega
      subst this
      rw [w_X1_gainAll_36]
      refine ⟨fun _ => ?_, fun q => absurd (by decide) q⟩
      refine h _ ((frc_wJ (by constructor <;> omega)).tr (frc_wI (by constructor <;> omega))) ?_
      unfold KpC mergK
      rw [gI_wI_ne (by omega), gI_wJ, gI_wI_eq, gJ_wI, gJ_wJ_eq]
      refine ⟨hK.1, hK.2.1, hK.2.2.1, hL, fun w hw3 => ?_⟩
      rw [ha w hw3, hK.2.2.2.2 w hw3, hM.2.2.2.2 w hw3]
    | succ d ih =>
      intro i E hi ha hb
      rw [w_X1_gainAll_36]
      have hin : vp_in (nI i) 3 := in_nI (by omega) (by decide)
      refine ⟨fun q => ?_, fun _ => ⟨hin, hin, ?_⟩⟩
      · have := (nI_leI (a := 3) (b := i) (by decide) (by omega)).mp q
        omega
      · rintro y4 rfl
        refine ⟨hin, ?_⟩
        rintro σ6 rfl y7 rfl
        have e2 : gI (wI (wJ σ (k + 2) L') (k + 1) E) (k2 + 1) i = gI σ (k2 + 1) i := by
          rcases hd with g | g
          · rw [g, gI_wI_eq, hb i (Nat.le_refl _)]
          · rw [gI_wI_ne (by omega)]; rfl
        rw [ix_nI (by omega), e2, uI_w, wI_wI, gI_wI_eq, nI_1, hb i (Nat.le_refl _)]
        refine ih (i + 1) _ (by omega) (fun j hj => ?_) (fun j hj => ?_)
        · by_cases c : j = i
          · rw [c, upd_eq]; rfl
          · rw [upd_ne c]; exact ha j (by omega)
        · rw [upd_ne (by omega)]; exact hb j (by omega)
  have loop : ∀ (d i : Nat) (L : Nat → Int64), i + d = 150 → (∀ j, j < i → L j = gJ σ (k + 2) j + gJ σ (k2 + 2) j) → (∀ j, i ≤ j → L j = gJ σ (k + 2) j) → w_X1_gainAll_2 k Q (d + 1) k2 (nI i) (wJ σ (k + 2) L) := by
    intro d
    induction d with
    | zero =>
      intro i L hi ha hb
      have : i = 150 := by omega
      subst this
      rw [w_X1_gainAll_2]
      refine ⟨fun _ => ?_, fun q => absurd (by decide) q⟩
      have eL : ∀ j, j < 150 → (L j).toInt = (gJ σ (k + 2) j).toInt + (gJ σ (k2 + 2) j).toInt := by
        intro j hj
        have a := rv j hj
        have b := rw_ j hj
        rw [ha j hj, l_add (by omega) (by omega)]
      refine s_carry (fun j hj => ?_) (fun L' hL' => ?_)
      · have a := rv j hj
        have b := rw_ j hj
        rw [eL j hj]; omega
      · rw [sm_congr (fun i hi => eL i hi), sm_add (fun j => (gJ σ (k + 2) j).toInt) (fun j => (gJ σ (k2 + 2) j).toInt), KV_sm hv, KV_sm hw] at hL'
        have key := fin36 L' hL' 3 0 (gI σ (k + 1)) rfl (fun j hj => absurd hj (by omega)) (fun j _ => rfl)
        have e : wI (wJ σ (k + 2) L') (k + 1) (gI σ (k + 1)) = wJ σ (k + 2) L' := wI_self (wJ σ (k + 2) L') (k + 1)
        rw [e] at key
        exact ⟨4, key⟩
    | succ d ih =>
      intro i L hi ha hb
      rw [w_X1_gainAll_2]
      have hin : vp_in (nI i) 150 := in_nI (by omega) (by decide)
      refine ⟨fun q => ?_, fun _ => ⟨hin, hin, hin, ?_⟩⟩
      · have := (nI_leI (a := 150) (b := i) (by decide) (by omega)).mp q
        omega
      · rintro σ12 rfl y13 rfl
        have e2 : gJ (wJ σ (k + 2) L) (k2 + 2) i = gJ σ (k2 + 2) i := by
          rcases hd with g | g
          · rw [g, gJ_wJ_eq, hb i (Nat.le_refl _)]
          · rw [gJ_wJ_ne (by omega)]
        rw [ix_nI (by omega), e2, uJ_w, wJ_wJ, gJ_wJ_eq, nI_1, hb i (Nat.le_refl _)]
        refine ih (i + 1) _ (by omega) (fun j hj => ?_) (fun j hj => ?_)
        · by_cases c : j = i
          · rw [c, updL_eq]
          · rw [updL_ne c]; exact ha j (by omega)
        · rw [updL_ne (by omega)]; exact hb j (by omega)
  have key := loop 150 0 (gJ σ (k + 2)) rfl (fun j hj => absurd hj (by omega)) (fun j _ => rfl)
  rw [wJ_self] at key
  exact ⟨151, key⟩
/-- a place of a row of the class, gathered -/
theorem plc_ok {kd : Int} {S : Nat → Int32} {W : Nat → Int64} {P : Nat → Int32} {p : Nat} {v : Pl} (hv : PlC kd (S p) (W p) (P p) v) (ho : okP kd v) : okPl S W P p ∧ plA S W P p = valP kd v := by
  unfold PlC at hv
  unfold okP at ho
  unfold okPl plA valP
  by_cases c : kd < 4
  · rw [if_pos c] at hv ho
    obtain ⟨e1, e2, e3⟩ := hv
    rw [if_pos c, e1, e2, e3]
    refine ⟨Or.inl ⟨rfl, ho, by decide, by decide⟩, ?_⟩
    rw [if_pos (Or.inl rfl)]; rfl
  · rw [if_neg c] at hv ho
    rw [if_neg c]
    rcases hv with ⟨z, ⟨s0, a1, a2, a3, a4⟩ | ⟨s4, w0, p0, a4⟩⟩ | ⟨z, e1, w0, p0⟩
    · refine ⟨Or.inl ⟨s0, a1, a2, a3⟩, ?_⟩
      rw [if_pos (Or.inl s0), if_pos z, z, a4, dk_U (rn_of a1 (by omega))]
      congr 1
      have hp := p2 ((P p).toInt + 1074).toNat
      rcases ilg (W p).toInt 0 with g | g
      · rw [decide_eq_true g]
        show _ = -(((W p).toInt.natAbs * 2 ^ ((P p).toInt + 1074).toNat : Nat) : Int)
        rw [Int.natCast_mul, p2c, show (((W p).toInt.natAbs : Nat) : Int) = -(W p).toInt by omega, Int.neg_mul, Int.neg_neg]
      · rw [decide_eq_false (by omega)]
        show _ = (((W p).toInt.natAbs * 2 ^ ((P p).toInt + 1074).toNat : Nat) : Int)
        rw [Int.natCast_mul, p2c, show (((W p).toInt.natAbs : Nat) : Int) = (W p).toInt by omega]
    · refine ⟨Or.inr (Or.inl ⟨s4, w0, p0⟩), ?_⟩
      rw [if_pos (Or.inr s4), if_pos z, z, a4, dk_U rn_zero, w0]
      congr 1
      rw [Int64.toInt_zero, Int.zero_mul]; rfl
    · have hs : S p = 1 ∨ S p = 2 ∨ S p = 3 := by
        rcases z with z | z | z <;> rw [z] at e1
        · exact Or.inl e1
        · exact Or.inr (Or.inl e1)
        · exact Or.inr (Or.inr e1)
      refine ⟨Or.inr (Or.inr ⟨hs, w0, p0⟩), ?_⟩
      rw [if_neg (by rcases hs with q | q | q <;> rw [q] <;> decide), if_neg (by omega), e1, ix_nI (by omega)]
theorem ones_pl {A : AS} {σ : St} (hR : RC A σ) {p : Nat} (hp : p < 40) : okPl (gI σ 47) (gJ σ 45) (gI σ 46) p ∧ plA (gI σ 47) (gJ σ 45) (gI σ 46) p = (0, 2 ^ 1074) := by
  obtain ⟨a, b, c⟩ := hR.2.2.2.2 p hp
  unfold okPl plA
  rw [a, b, c]
  refine ⟨Or.inl ⟨rfl, by decide, by decide, by decide⟩, ?_⟩
  have e : (1 : Int64).toInt * 2 ^ ((0 : Int32).toInt + 1074).toNat = 2 ^ 1074 := by
    rw [show (1 : Int64).toInt = 1 by decide, show ((0 : Int32).toInt + 1074).toNat = 1074 by decide, Int.one_mul]
  rw [if_pos (Or.inl rfl), e]
theorem BB_lt {n : Nat} (h : n ≤ 512) : BB n < 2 ^ (32 * 149) := by
  unfold BB
  have h1 : 2 ^ (4203 + n) < 2 ^ (32 * 149) := Nat.pow_lt_pow_right (a := 2) (by decide) (by omega)
  have h2 : ((2 ^ (4203 + n) : Nat) : Int) < ((2 ^ (32 * 149) : Nat) : Int) := Int.ofNat_lt.mpr h1
  rwa [p2c, p2c] at h2
theorem okKp.rng {n : Nat} {K : KpA} (h : okKp (BB n) K) (hn : n ≤ 512) : -2 ^ (32 * 149) ≤ K.2.1 ∧ K.2.1 < 2 ^ (32 * 149) := by
  have h1 := BB_lt hn
  obtain ⟨-, -, h2, h3, -⟩ := h
  constructor <;> omega
theorem s_gatherK {k k1 k2 place many : Nat} {taken : Int32} {t : Bool} {K : KpA} {Q : St → Prop} {σ : St} (it : Nat → Nat × Int) (hpm : place + many ≤ 40) (ht : bz taken) (htt : decide (¬ taken = 0) = t)
    (d1 : k1 + 4 ≤ k ∨ k + 3 ≤ k1) (d2 : k2 + 4 ≤ k ∨ k + 3 ≤ k2) (hK : KpC σ k K) (b : -2 ^ (32 * 149) ≤ K.2.1 ∧ K.2.1 < 2 ^ (32 * 149))
    (ok1 : ∀ p, place ≤ p → p < place + many → okPl (gI σ (k1 + 3)) (gJ σ (k1 + 1)) (gI σ (k1 + 2)) p) (ok2 : ∀ p, place ≤ p → p < place + many → okPl (gI σ (k2 + 3)) (gJ σ (k2 + 1)) (gI σ (k2 + 2)) p)
    (hit : ∀ j, j < many → it j = prS (plA (gI σ (k1 + 3)) (gJ σ (k1 + 1)) (gI σ (k1 + 2)) (place + j)) (plA (gI σ (k2 + 3)) (gJ σ (k2 + 1)) (gI σ (k2 + 2)) (place + j)))
    (h : ∀ σ', FrC (fun c => k ≤ c ∧ c < k + 3) σ σ' → KpC σ' k (gathK K t it many) → Q σ') : w_X1_gather k Q k1 k2 (nI place) (nI many) taken σ := by
  have hE : ∀ w, w < 3 → gI σ (k + 1) w = K.2.2 w := hK.2.2.2.2
  have itr2 : ∀ (m : Nat) (N : Int) (E E' : Nat → Int32), (∀ w, w < 3 → E w = E' w) → (itr t it m (N, E)).1 = (itr t it m (N, E')).1 ∧ ∀ w, w < 3 → (itr t it m (N, E)).2 w = (itr t it m (N, E')).2 w := by
    intro m N E E' he
    induction m with
    | zero => exact ⟨rfl, he⟩
    | succ m ih =>
      show (stp t (it m) _).1 = (stp t (it m) _).1 ∧ ∀ w, w < 3 → (stp t (it m) _).2 w = (stp t (it m) _).2 w
      unfold stp
      split
      · refine ⟨?_, ih.2⟩
        show _ + _ = _ + _
        rw [ih.1]
      · refine ⟨ih.1, fun w hw => ?_⟩
        have hx : widx (it m).1 t < 3 := by unfold widx; split <;> (try split) <;> (try split) <;> omega
        show mt _ _ w = mt _ _ w
        unfold mt
        by_cases c : w = widx (it m).1 t
        · subst c
          rw [upd_eq, upd_eq, ih.2 _ hx]
        · rw [upd_ne c, upd_ne c]; exact ih.2 w hw
  have g := itr2 many K.2.1 (gI σ (k + 1)) K.2.2 hE
  refine s_gather hpm ht ⟨by omega, by omega, by omega⟩ ⟨by omega, by omega, by omega⟩ ok1 ok2 it hit hK.2.2.2.1 b.1 b.2 (fun L' hL' => ?_)
  rw [htt] at hL' ⊢
  refine h _ ((frc_wI (by constructor <;> omega)).tr (frc_wJ (by constructor <;> omega))) ?_
  unfold KpC gathK
  rw [gI_wJ, gI_wI_ne (by omega), gI_wI_eq, gJ_wJ_eq]
  refine ⟨hK.1, hK.2.1, hK.2.2.1, ?_, fun w hw => g.2 w hw⟩
  rw [← g.1]; exact hL'
