/-! the class sums plainly, and writes a double -/
abbrev dMost : UInt64 := 9218868437227405311
def MOSTN : Nat := (2 ^ 53 - 1) * 2 ^ 2045
theorem dMost_eq : dMost = U false MOSTN := u_most
theorem rn_le {n : Nat} (h : Rn n) : n ≤ MOSTN := by
  obtain ⟨c, k, h1, h2, rfl⟩ := h
  unfold MOSTN
  exact Nat.mul_le_mul (by omega) (Nat.pow_le_pow_right (by decide) h2)
theorem most_top : (MOSTN : Int) < TOP := by
  unfold TOP
  have h : MOSTN < TOPN := by
    have h1 : MOSTN < 2 ^ 53 * 2 ^ 2045 := by
      unfold MOSTN
      exact Nat.mul_lt_mul_of_pos_right (by decide) (Nat.two_pow_pos _)
    rw [← Nat.pow_add] at h1
    exact h1
  omega
theorem rn_MOST : Rn MOSTN := rn_most
theorem dk_most : dk dMost = (MOSTN : Int) := by rw [dMost_eq, dk_U rn_MOST]; rfl
theorem nn_most : nn dMost := by rw [dMost_eq]; exact nn_U _ _
theorem gt_most {x : UInt64} (h : nn x) : dk dMost < dk x ↔ x = dInf := by
  have h1 := most_top
  rw [dk_most]
  refine ⟨fun q => ?_, fun q => by rw [q, dk_inf]; exact h1⟩
  rcases nn_cases h with ⟨s, n, hn, rfl⟩ | rfl | rfl
  · exfalso
    have := rn_le hn
    rw [dk_U hn] at q
    cases s
    · rw [sg_f] at q; omega
    · have e : sg true n = -(n : Int) := rfl
      omega
  · rfl
  · have h2 := TOP_pos
    rw [dk_minf] at q; omega
theorem lt_most {x : UInt64} (h : nn x) : dk x < -dk dMost ↔ x = dMinf := by
  have h1 := most_top
  rw [dk_most]
  refine ⟨fun q => ?_, fun q => by rw [q, dk_minf]; omega⟩
  rcases nn_cases h with ⟨s, n, hn, rfl⟩ | rfl | rfl
  · exfalso
    have := rn_le hn
    rw [dk_U hn] at q
    cases s
    · rw [sg_f] at q; omega
    · have e : sg true n = -(n : Int) := rfl
      omega
  · have h2 := TOP_pos
    rw [dk_inf] at q; omega
  · rfl
theorem inf_ne : (dInf : UInt64) ≠ dMinf := by decide
theorem s_opposed {x y : UInt64} {Q : Int32 → St → Prop} {σ : St} (hx : nn x) (hy : nn y) (h1 : (x = dInf ∧ y = dMinf) ∨ (x = dMinf ∧ y = dInf) → Q 1 σ) (h0 : ¬ ((x = dInf ∧ y = dMinf) ∨ (x = dMinf ∧ y = dInf)) → Q 0 σ) : w_X2_areOpposedEndless Q x y σ := by
  unfold w_X2_areOpposedEndless w_X4_greatest
  have c1 : ∀ {z : UInt64}, nn z → (dcmpF z (9218868437227405311 : UInt64) .l ≤ 0 ↔ ¬ z = dInf) := fun hz => by
    rw [dc_le hz nn_most, ← gt_most hz, Int.not_lt]
  have hneg : nn (FP.dneg (9218868437227405311 : UInt64)) := nn_neg nn_most
  have dn : dk (FP.dneg (9218868437227405311 : UInt64)) = -dk dMost := dk_neg _
  have c2 : ∀ {z : UInt64}, nn z → (dcmpF z (FP.dneg (9218868437227405311 : UInt64)) .g < 0 ↔ z = dMinf) := fun hz => by
    rw [dc_lt hz hneg, dn, lt_most hz]
  have c3 : ∀ {z : UInt64}, nn z → (0 ≤ dcmpF z (FP.dneg (9218868437227405311 : UInt64)) .g ↔ ¬ z = dMinf) := fun hz => by
    rw [dc_ge hz hneg, dn, ← lt_most hz, Int.not_lt]
  have g21 : ¬ (x = dInf ∧ y = dMinf) → w_X2_areOpposedEndless_21 Q x y (9218868437227405311 : UInt64) σ := by
    intro n
    unfold w_X2_areOpposedEndless_21
    rw [c3 hx, c1 hy]
    exact ⟨fun q => h0 (by rintro (z | z); exact n z; exact q z.1), fun q => ⟨fun q2 => h0 (by rintro (z | z); exact n z; exact q2 z.2), fun q2 => h1 (Or.inr ⟨Decidable.byContradiction q, Decidable.byContradiction q2⟩)⟩⟩
  refine ⟨fun _ => ?_, fun z => absurd rfl z⟩
  show _ ∧ _
  rw [c1 hx, c2 hy]
  exact ⟨fun q => g21 (fun z => q z.1), fun q => ⟨fun q2 => h1 (Or.inl ⟨Decidable.byContradiction q, q2⟩), fun q2 => g21 (fun z => q2 z.2)⟩⟩
theorem s_summed {k pl n : Nat} {R : RwA} {Q : UInt64 → St → Prop} {σ : St} (hpn : pl + n ≤ 40) (hR : RowC σ k R) (g : R.1 ≠ -1) (ho : okRow R) (h : nn (plainD R pl n) → Q (plainD R pl n) σ) : w_X2_summedPlainly k Q (nI pl) (nI n) σ := by
  unfold w_X2_summedPlainly
  obtain ⟨r1, r2, r3, r4, r5, r6⟩ := hR.2.2 g
  have loop : ∀ (d i : Nat) (s : UInt64), i + d = pl + n → nn s → (nn (plL R.1 R.2.2 d i s) → Q (plL R.1 R.2.2 d i s) σ) → w_X2_summedPlainly_5 k Q (d + 1) (nI pl) (nI n) s (nI i) σ := by
    intro d
    induction d with
    | zero =>
      intro i s hi hs hq
      have : i = pl + n := by omega
      subst this
      rw [w_X2_summedPlainly_5, nI_add]
      exact ⟨fun _ => hq hs, fun q => absurd (Int32.le_refl _) q⟩
    | succ d ih =>
      intro i s hi hs hq
      have hp : i < 40 := by omega
      have hv := r6 i hp
      have ok := ho g i hp
      have hd := nn_dblP _ _ ok
      rw [w_X2_summedPlainly_5, nI_add]
      refine ⟨fun q => ?_, fun _ => ?_⟩
      · have := (nI_leI (a := pl + n) (b := i) (by omega) (by omega)).mp q
        omega
      · refine s_asDouble hp hv ok ?_
        rw [ix_nI (by omega)]
        have h3 : gI σ (k + 3) i = 3 ↔ srtP R.1 (R.2.2 i) = 3 := by
          unfold PlC at hv
          unfold srtP
          by_cases c : R.1 < 4
          · rw [if_pos c] at hv ⊢
            rw [hv.1]; decide
          · rw [if_neg c] at hv ⊢
            rcases hv with ⟨z, ⟨s0, -⟩ | ⟨s4, -⟩⟩ | ⟨z, e1, -⟩
            · rw [s0, z]; decide
            · rw [s4, z]; decide
            · rw [e1]
              exact nI_eq (b := 3) (by omega) (by decide)
        have hq2 : ∀ c : Prop, (srtP R.1 (R.2.2 i) = 3 ∨ (s = dInf ∧ dblP R.1 (R.2.2 i) = dMinf) ∨ (s = dMinf ∧ dblP R.1 (R.2.2 i) = dInf)) → Q (U false 0) σ := by
          intro _ z
          have e : plL R.1 R.2.2 (d + 1) i s = U false 0 := if_pos z
          rw [e] at hq
          exact hq (nn_U _ _)
        refine ⟨in_nI hp (by decide), fun q => ?_, fun q => ?_⟩
        · rw [u_zero]; exact hq2 True (Or.inl (h3.mp q))
        · have n3 : ¬ srtP R.1 (R.2.2 i) = 3 := fun z => q (h3.mpr z)
          refine s_opposed hs hd (fun z => ⟨fun y => absurd y n10, fun _ => ?_⟩) (fun z => ⟨fun _ => ?_, fun y => absurd rfl y⟩)
          · rw [u_zero]; exact hq2 True (Or.inr z)
          · have hn := nn_add hs hd (fun y => z (Or.inl y)) (fun y => z (Or.inr y))
            refine ⟨nn_vf hn, ?_⟩
            rintro y6 rfl y7 rfl
            rw [nI_1]
            have e : plL R.1 R.2.2 (d + 1) i s = plL R.1 R.2.2 d (i + 1) (FP.dadd s (dblP R.1 (R.2.2 i))) := if_neg (by rintro (y | y); exact n3 y; exact z y)
            rw [e] at hq
            exact ih (i + 1) _ (by omega) hn hq
  rw [u_zero]
  exact ⟨n + 1, loop n pl _ rfl (nn_U _ _) h⟩
theorem s_topPower {n : Nat} {Q : Int32 → St → Prop} {σ : St} (hn : Rn n) (h0 : 0 < n) (h : ∀ e : Int32, e.toInt = (bl n : Int) - 1 - 1074 → Q e σ) : w_X2_topPower Q (U false n) σ := by
  unfold w_X2_topPower
  have hb : bl n ≤ 2098 := bl_le.mpr (rn_lt hn)
  have k1024 : (1024 : Int32).toInt = 1024 := by decide
  have loop : ∀ (j : Nat) (x2 : Int32) (T : Nat), j ≤ 11 → x2.toInt = (T : Int) - 1074 → 2 ^ T ≤ n → bl n ≤ T + 2 ^ (j + 1) → T ≤ 2098 → w_X2_topPower_8 Q (j + 2) (U false n) x2 (nI (2 ^ j)) σ := by
    intro j
    have fin : ∀ (x : Int32) (T : Nat), x.toInt = (T : Int) - 1074 → 2 ^ T ≤ n → bl n ≤ T + 1 → ∀ z : Int32, z = 0 → w_X2_topPower_8 Q 1 (U false n) x z σ := by
      intro x T hx h1 h2 z hz
      rw [w_X2_topPower_8]
      refine ⟨fun _ => h x ?_, fun q => absurd (by rw [hz]; decide) q⟩
      have := bl_gt.mpr h1
      omega
    induction j with
    | zero =>
      intro x2 T hj hx h1 h2 hT
      rw [w_X2_topPower_8]
      have sh : nI (2 ^ 0) >>> ((1 : Int32) &&& 31) = 0 := by decide
      have hT2 := bl_gt.mpr h1
      have ey : (x2 + nI (2 ^ 0)).toInt = (T : Int) - 1074 + 1 := by
        have e1 : (nI (2 ^ 0)).toInt = 1 := by decide
        rw [i_add (by omega) (by omega), hx, e1]
      refine ⟨fun q => absurd q (by decide), fun _ => ?_⟩
      rintro y1 rfl
      refine ⟨fun q => ?_, fun q => ?_⟩
      · rw [i_le, k1024, ey] at q
        rintro y2 rfl
        exact fin x2 T hx h1 (by omega) _ sh
      · rw [i_le, k1024, ey] at q
        refine s_power (k := T + 1) (by omega) (by omega) (by omega) ?_
        have cmp : dcmpF (U false n) (U false (2 ^ (T + 1))) .l < 0 ↔ n < 2 ^ (T + 1) := by
          rw [dc_lt (nn_U _ _) (nn_U _ _), dk_U hn, dk_U (rn_pow (by omega)), sg_f, sg_f]; exact Int.ofNat_lt
        rw [cmp]
        refine ⟨fun q2 => ?_, fun q2 => ?_⟩
        · rintro y5 rfl
          exact fin x2 T hx h1 (bl_le.mpr q2) _ sh
        · rintro y6 rfl
          exact fin _ (T + 1) (by rw [ey]; omega) (Nat.not_lt.mp q2) (by rw [Nat.zero_add] at h2; omega) _ sh
    | succ j ih =>
      intro x2 T hj hx h1 h2 hT
      rw [w_X2_topPower_8]
      have hp : 2 ^ (j + 1) ≤ 2 ^ 11 := Nat.pow_le_pow_right (by decide) hj
      have hpp := Nat.two_pow_pos (j + 1)
      have sh : nI (2 ^ (j + 1)) >>> ((1 : Int32) &&& 31) = nI (2 ^ j) := by
        rw [pk_shrN (by omega) _ 1 (by decide), Nat.pow_succ]
        congr 1
        omega
      have hT2 := bl_gt.mpr h1
      have e2 : 2 ^ (j + 1 + 1) = 2 ^ (j + 1) * 2 := Nat.pow_succ _ _
      have e1 : (nI (2 ^ (j + 1))).toInt = ((2 ^ (j + 1) : Nat) : Int) := nI_toInt (by omega)
      have ey : (x2 + nI (2 ^ (j + 1))).toInt = (T : Int) - 1074 + ((2 ^ (j + 1) : Nat) : Int) := by
        rw [i_add (by omega) (by omega), hx, e1]
      refine ⟨fun q => absurd q (nI_nle hpp (by omega)), fun _ => ?_⟩
      rintro y1 rfl
      rw [sh]
      refine ⟨fun q => ?_, fun q => ?_⟩
      · rw [i_le, k1024, ey] at q
        rintro y2 rfl
        exact ih x2 T (by omega) hx h1 (by omega) hT
      · rw [i_le, k1024, ey] at q
        refine s_power (k := T + 2 ^ (j + 1)) (by omega) (by omega) (by omega) ?_
        have cmp : dcmpF (U false n) (U false (2 ^ (T + 2 ^ (j + 1)))) .l < 0 ↔ n < 2 ^ (T + 2 ^ (j + 1)) := by
          rw [dc_lt (nn_U _ _) (nn_U _ _), dk_U hn, dk_U (rn_pow (by omega)), sg_f, sg_f]; exact Int.ofNat_lt
        rw [cmp]
        refine ⟨fun q2 => ?_, fun q2 => ?_⟩
        · rintro y5 rfl
          exact ih x2 T (by omega) hx h1 (bl_le.mpr q2) hT
        · rintro y6 rfl
          exact ih _ (T + 2 ^ (j + 1)) (by omega) (by rw [ey]; omega) (Nat.not_lt.mp q2) (by omega) (by omega)
  exact ⟨13, loop 11 (-1074) 0 (by omega) (by decide) (by rw [Nat.pow_zero]; exact h0) (by omega) (by omega)⟩
theorem s_writeDouble {d : UInt64} {Q : St → Prop} {σ : St} (hd : nn d) (h : ∀ σ', FrC (fun c => c = 49 ∨ c = 50 ∨ c = 51) σ σ' → okPl (gI σ' 51) (gJ σ' 49) (gI σ' 50) 0 → plA (gI σ' 51) (gJ σ' 49) (gI σ' 50) 0 = valD d → Q σ') : w_X2_writeDouble 48 Q 0 d σ := by
  have fin : ∀ (W : Int64) (P S : Int32), (S = 0 ∧ W.toInt.natAbs < 2 ^ 53 ∧ -1074 ≤ P.toInt ∧ P.toInt ≤ 971 ∧ valD d = (0, W.toInt * 2 ^ (P.toInt + 1074).toNat)) ∨ ((S = 1 ∨ S = 2 ∨ S = 3) ∧ W = 0 ∧ P = 0 ∧ valD d = (ix S, 0)) → ∀ σ', WrC σ σ' 48 0 W P S → Q σ' := by
    intro W P S hv σ' w
    obtain ⟨f, w1, w2, w3⟩ := w
    have w1 : gJ σ' 49 = vp_updL (gJ σ 49) 0 W := w1
    have w2 : gI σ' 50 = upd (gI σ 50) 0 P := w2
    have w3 : gI σ' 51 = upd (gI σ 51) 0 S := w3
    refine h σ' f ?_ ?_
    · unfold okPl
      rw [w1, w2, w3, updL_eq, upd_eq, upd_eq]
      rcases hv with ⟨a, b, c, e, -⟩ | ⟨a, b, c, -⟩
      · exact Or.inl ⟨a, b, c, e⟩
      · exact Or.inr (Or.inr ⟨a, b, c⟩)
    · unfold plA
      rw [w1, w2, w3, updL_eq, upd_eq, upd_eq]
      rcases hv with ⟨a, -, -, -, e⟩ | ⟨a, -, -, e⟩
      · rw [if_pos (Or.inl a), e]
      · rw [if_neg (by rcases a with q | q | q <;> rw [q] <;> decide), e]
  have z0 : (0 : Int32) = nI 0 := rfl
  have cM : ∀ {z : UInt64}, nn z → (dcmpF z (9218868437227405311 : UInt64) .l ≤ 0 ↔ ¬ z = dInf) := fun hz => by
    rw [dc_le hz nn_most, ← gt_most hz, Int.not_lt]
  have cS : 0 ≤ dcmpF d FP.dconst0 .g ↔ 0 ≤ dk d := by
    rw [u_zero, dc_ge hd (nn_U _ _), dk_U rn_zero]; rfl
  have nsort : ∀ (s0 : Int32), (s0 = 1 ∧ d = dInf) ∨ (s0 = 2 ∧ d = dMinf) → w_X2_writeDouble_37 48 Q s0 0 σ := by
    intro s0 hs
    unfold w_X2_writeDouble_37
    rw [z0]
    refine s_writeSort (by decide) (fun σ' w => fin _ _ _ (Or.inr ⟨?_, rfl, rfl, ?_⟩) σ' w)
    · rcases hs with ⟨rfl, -⟩ | ⟨rfl, -⟩
      · exact Or.inl rfl
      · exact Or.inr (Or.inl rfl)
    · unfold valD
      rcases hs with ⟨rfl, e⟩ | ⟨rfl, e⟩
      · rw [if_pos e]; rfl
      · rw [if_neg (fun z => inf_ne (z.symm.trans e)), if_pos e]; rfl
  have zero : d ≠ dInf → d ≠ dMinf → dk d = 0 → w_X2_writeNumber 48 (fun σ10 => Q σ10) 0 0 0 σ := by
    intro a b e
    rw [z0]
    refine s_writeNumber (by decide) (fun σ' w => fin _ _ _ (Or.inl ⟨rfl, by decide, by decide, by decide, ?_⟩) σ' w)
    unfold valD
    rw [if_neg a, if_neg b, e, Int64.toInt_zero, Int.zero_mul]
  have g12 : ∀ s0 : UInt64, nn s0 → (s0 = dInf ↔ d = dInf ∨ d = dMinf) → (dk s0 = 0 ↔ dk d = 0) → (∀ s n, Rn n → d = U s n → 0 < n → s0 = U false n ∧ (0 ≤ dk d ↔ s = false)) → w_X2_writeDouble_12 48 Q 0 d s0 σ := by
    intro s0 hn hi hz hu
    unfold w_X2_writeDouble_12 w_X4_greatest
    refine ⟨fun _ => ?_, fun z => absurd rfl z⟩
    show _ ∧ _
    rw [cM hn, cS]
    have cZ : dcmpF s0 FP.dconst0 .l = 0 ↔ dk d = 0 := by
      rw [u_zero, dc_eq hn (nn_U _ _), dk_U rn_zero, ← hz]; rfl
    rw [cZ]
    refine ⟨fun q => ⟨fun q2 => ?_, fun q2 => ?_⟩, fun q => ⟨fun q2 => ?_, fun q2 => ?_⟩⟩
    · have ni : d ≠ dInf := fun z => q (hi.mpr (Or.inl z))
      have nm : d ≠ dMinf := fun z => q (hi.mpr (Or.inr z))
      rcases nn_cases hd with ⟨s, n, hR, e⟩ | e | e
      · have hn0 : 0 < n := by
          rcases Nat.eq_zero_or_pos n with g | g
          · exfalso
            apply q2
            rw [e, dk_U hR, g]
            cases s <;> rfl
          · exact g
        obtain ⟨es, hs⟩ := hu s n hR e hn0
        rw [es]
        have hb : bl n ≤ 2098 := bl_le.mpr (rn_lt hR)
        have hb1 := bl_pos hn0
        refine s_topPower hR hn0 (fun tp htp => ?_)
        rintro y5 rfl
        have k53 : (53 : Int32).toInt = 53 := by decide
        have e1 : (tp - 53).toInt = (bl n : Int) - 1 - 1074 - 53 := by rw [i_sub (by omega) (by omega), htp, k53]
        have e2 : (tp - 53 + 1).toInt = (bl n : Int) - 1074 - 53 := by rw [i_add (by rw [t1]; omega) (by rw [t1]; omega), e1, t1]; omega
        generalize hy : (if tp - 53 + 1 < (-1074 : Int32) then (-1074 : Int32) else tp - 53 + 1) = y5
        have e5 : y5.toInt = ((bl n - 53 : Nat) : Int) - 1074 := by
          rw [← hy]
          split
          · rename_i c
            rw [i_lt, e2, kl] at c
            rw [kl]; omega
          · rename_i c
            rw [i_lt, e2, kl] at c
            rw [e2]; omega
        obtain ⟨c, k, hc, hk, en⟩ := hR
        have hR : Rn n := ⟨c, k, hc, hk, en⟩
        have hc0 : 0 < c := by
          rcases Nat.eq_zero_or_pos c with g | g
          · rw [g, Nat.zero_mul] at en; omega
          · exact g
        have hbc : bl n = bl c + k := by rw [en, bl_mulpow hc0]
        have hbc2 := bl_le.mpr hc
        have hpk : bl n - 53 ≤ k := by omega
        generalize hp : bl n - 53 = p at hpk e5
        have hw : n = n / 2 ^ p * 2 ^ p := by
          have : n = c * 2 ^ (k - p) * 2 ^ p := by
            rw [en, Nat.mul_assoc, ← Nat.pow_add]; exact congrArg (fun j => c * 2 ^ j) (by omega)
          conv => rhs; rw [this, Nat.mul_div_cancel _ (Nat.two_pow_pos p), ← this]
        have hw2 : n / 2 ^ p < 2 ^ 53 := by
          refine (Nat.div_lt_iff_lt_mul (Nat.two_pow_pos p)).mpr ?_
          rw [← Nat.pow_add]
          exact bl_le.mp (by omega)
        generalize hwd : n / 2 ^ p = w at hw hw2
        refine s_power (k := p) (by omega) (by omega) (by omega) ?_
        have hdiv : FP.ddiv (U false n) (U false (2 ^ p)) = U false (w * 2 ^ 1074) := by
          refine u_ddiv hR (by omega) ?_
          rw [Nat.mul_right_comm, ← hw]
        rw [hdiv]
        refine ⟨u_vf _ _, ?_⟩
        rintro y8 rfl
        have hd2 : FP.d2l (U false (w * 2 ^ 1074)) = lN (w) := by
          have h6 : w * 2 ^ 1074 / 2 ^ 1074 = w := Nat.mul_div_cancel _ (Nat.two_pow_pos _)
          have h7 : w < 2 ^ 63 := by omega
          refine l_of ?_ h7
          rw [u_d2l (rn_of hw2 (by decide)) (by rw [h6]; exact h7), h6]; rfl
        rw [hd2]
        have eW : (lN (w)).toInt = ((w : Nat) : Int) := pk_lT (by omega)
        have eM : (-lN (w)).toInt = -((w : Nat) : Int) := by rw [l_neg (by omega), eW]
        have hval : ((w : Nat) : Int) * 2 ^ p = n := by
          have h9 := congrArg (fun z : Nat => (z : Int)) hw
          rw [Int.natCast_mul, p2c] at h9
          exact h9.symm
        have hdk : dk d = sg s n := by rw [e, dk_U hR]
        refine ⟨fun q3 => ?_, fun q3 => ?_⟩ <;> unfold w_X2_writeDouble_101 <;> rw [z0]
        · have hsf := hs.mp q3
          refine s_writeNumber (by decide) (fun σ' wr => fin _ _ _ (Or.inl ⟨rfl, by rw [eW]; omega, by omega, by omega, ?_⟩) σ' wr)
          unfold valD
          rw [if_neg ni, if_neg nm, eW, e5, show ((p : Int) - 1074 + 1074).toNat = p by omega, hval, hdk, hsf]; rfl
        · have hst : s = true := by
            cases s
            · exact absurd (hs.mpr rfl) q3
            · rfl
          refine s_writeNumber (by decide) (fun σ' wr => fin _ _ _ (Or.inl ⟨rfl, by rw [eM]; omega, by omega, by omega, ?_⟩) σ' wr)
          unfold valD
          rw [if_neg ni, if_neg nm, eM, e5, show ((p : Int) - 1074 + 1074).toNat = p by omega, Int.neg_mul, hval, hdk, hst]; rfl
      · exact absurd e ni
      · exact absurd e nm
    · exact zero (fun z => q (hi.mpr (Or.inl z))) (fun z => q (hi.mpr (Or.inr z))) q2
    · have hT := TOP_pos
      rcases hi.mp (Decidable.byContradiction q) with e | e
      · exact nsort 1 (Or.inl ⟨rfl, e⟩)
      · rw [e, dk_minf] at q2; omega
    · have hT := TOP_pos
      rcases hi.mp (Decidable.byContradiction q) with e | e
      · rw [e, dk_inf] at q2; omega
      · exact nsort 2 (Or.inr ⟨rfl, e⟩)
  have hT := TOP_pos
  unfold w_X2_writeDouble
  rw [cS]
  refine ⟨fun q => g12 d hd ⟨fun z => Or.inl z, fun z => ?_⟩ Iff.rfl (fun s n hR e h0 => ?_), fun q => g12 _ (nn_neg hd) ⟨fun z => Or.inr ?_, fun z => ?_⟩ (by rw [dk_neg]; omega) (fun s n hR e h0 => ?_)⟩
  · rcases z with z | z
    · exact z
    · rw [z, dk_minf] at q; omega
  · cases s
    · exact ⟨e, fun _ => rfl, fun _ => q⟩
    · exfalso
      rw [e, dk_U hR] at q
      have e2 : sg true n = -(n : Int) := rfl
      omega
  · have h1 := (dk_is_inf (nn_neg hd)).mpr z
    rw [dk_neg] at h1
    exact (dk_is_minf hd).mp (by omega)
  · rcases z with z | z
    · rw [z, dk_inf] at q; omega
    · refine (dk_is_inf (nn_neg hd)).mp ?_
      rw [dk_neg, z, dk_minf]; omega
  · cases s
    · exfalso
      rw [e, dk_U hR, sg_f] at q; omega
    · exact ⟨by rw [e, u_neg _ _ hR]; rfl, fun z => absurd z q, fun z => absurd z (by decide)⟩
