/-! sizes: digits of natural numbers in the class's limbs -/
def LV (L : Nat → Int64) (M : Nat) : Prop := ∀ i, i < 150 → L i = lN (M / 2 ^ (32 * i) % 2 ^ 32)
theorem sm_neg (F : Nat → Int) : ∀ n, sm (fun i => -F i) n = -sm F n := by
  intro n
  induction n with
  | zero => rfl
  | succ n ih =>
    show sm (fun i => -F i) n + -F n * 2 ^ (32 * n) = -(sm F n + F n * 2 ^ (32 * n))
    rw [ih, Int.neg_mul, Int.neg_add]
theorem p4800 {N : Int} (h1 : -2 ^ (32 * 149) ≤ N) (h2 : N < 2 ^ (32 * 149)) : N.natAbs < 2 ^ (32 * 150) := by
  have h3 : (N.natAbs : Int) ≤ ((2 ^ (32 * 149) : Nat) : Int) := by rw [p2c]; omega
  have h4 : 2 ^ (32 * 149) < 2 ^ (32 * 150) := Nat.pow_lt_pow_right (a := 2) (by decide) (by decide)
  exact Nat.lt_of_le_of_lt (Int.ofNat_le.mp h3) h4
theorem s_load {k : Nat} {K : KpA} {Q : St → Prop} {σ : St} (hk : k + 2 ≠ 43) (hK : KpC σ k K) (b : -2 ^ (32 * 149) ≤ K.2.1 ∧ K.2.1 < 2 ^ (32 * 149)) (h : ∀ L, LV L K.2.1.natAbs → Q (wJ σ 43 L)) : w_X3_load Q k σ := by
  unfold w_X3_load
  have hv := hK.2.2.2.1
  have rv := KV_rng hv b.1 b.2
  refine s_isBelowC hK ?_
  have hneg : ∀ x2 : Int32, (x2 = 0 ↔ ¬ K.2.1 < 0) → ∃ fu, w_X3_load_10 Q fu k x2 0 0 σ := by
    intro x2 hx2
    generalize hF : (fun i => if K.2.1 < 0 then -(gJ σ (k + 2) i).toInt else (gJ σ (k + 2) i).toInt) = F
    have hs : sm F 150 = (K.2.1.natAbs : Int) := by
      rw [← hF]
      by_cases c : K.2.1 < 0
      · rw [sm_congr (G := fun i => -(gJ σ (k + 2) i).toInt) (fun i _ => if_pos c), sm_neg (fun i => (gJ σ (k + 2) i).toInt), KV_sm hv]
        omega
      · rw [sm_congr (G := fun i => (gJ σ (k + 2) i).toInt) (fun i _ => if_neg c), KV_sm hv]
        omega
    have hFr : ∀ i, i < 150 → -4294967296 < F i ∧ F i < 4294967296 := by
      intro i hi
      have := rv i hi
      rw [← hF]
      show _ < (if K.2.1 < 0 then _ else _) ∧ (if K.2.1 < 0 then _ else _) < _
      split <;> omega
    have loop : ∀ (d i : Nat) (L : Nat → Int64) (x3 : Int64), i + d = 150 → (∀ j, j < i → (L j).toInt = dgI (sm F 150) j) → x3.toInt = sm F i / 2 ^ (32 * i) → -2147483648 ≤ x3.toInt → x3.toInt ≤ 2147483648 → w_X3_load_10 Q (d + 1) k x2 x3 (nI i) (wJ σ 43 L) := by
      intro d
      induction d with
      | zero =>
        intro i L x3 hi hL hx hb1 hb2
        have : i = 150 := by omega
        subst this
        rw [w_X3_load_10]
        refine ⟨fun _ => h L (fun j hj => ?_), fun q => absurd (by decide) q⟩
        refine l_of ?_ (by omega)
        rw [hL j hj, hs, dgN]
      | succ d ih =>
        intro i L x3 hi hL hx hb1 hb2
        rw [w_X3_load_10]
        have hin : vp_in (nI i) 150 := in_nI (by omega) (by decide)
        have e2 : gJ (wJ σ 43 L) (k + 2) = gJ σ (k + 2) := gJ_wJ_ne hk
        have r1 := rv i (by omega)
        have r2 := hFr i (by omega)
        have go : ∀ s0 : Int64, s0.toInt = F i → w_X3_load_40 (fun k1 x2 x3 x5 σ => w_X3_load_10 Q (d + 1) k1 x2 x3 x5 σ) Q k x2 x3 (nI i) s0 (wJ σ 43 L) := by
          intro s0 hs0
          unfold w_X3_load_40
          rintro y4 rfl
          refine ⟨hin, ?_⟩
          rintro σ6 rfl y7 rfl y8 rfl
          rw [uJ_w, wJ_wJ, gJ_wJ_eq, ix_nI (by omega), nI_1]
          have hy : (s0 + x3).toInt = F i + sm F i / 2 ^ (32 * i) := by
            rw [l_add (by omega) (by omega), hs0, hx]
          have hov := sm_over F 0 i
          rw [Int.zero_add, Int.zero_add] at hov
          have hsy := sm_stay F 0 i
          rw [Int.zero_add, Int.zero_add] at hsy
          have hdg := sm_dig F 0 (show i < 150 by omega)
          rw [Int.zero_add, Int.zero_add] at hdg
          refine ih (i + 1) _ _ (by omega) (fun j hj => ?_) ?_ ?_ ?_
          · by_cases hji : j = i
            · subst hji
              rw [updL_eq, l_low, hy, hdg, hsy]
            · rw [updL_ne hji]; exact hL j (by omega)
          · rw [l_high, hy, hov]
          · rw [l_high, hy]; omega
          · rw [l_high, hy]; omega
        refine ⟨fun q => ?_, fun _ => ⟨fun q => ⟨hin, ?_⟩, fun q => ⟨hin, ?_⟩⟩⟩
        · have := (nI_leI (a := 150) (b := i) (by decide) (by omega)).mp q
          omega
        · rw [e2, ix_nI (by omega)]
          refine go _ ?_
          rw [← hF]
          show _ = if K.2.1 < 0 then _ else _
          rw [if_neg (hx2.mp q)]
        · rw [e2, ix_nI (by omega)]
          refine go _ ?_
          rw [← hF, l_neg (by omega)]
          show _ = if K.2.1 < 0 then _ else _
          rw [if_pos (Decidable.byContradiction (fun z => q (hx2.mpr z)))]
    have key := loop 150 0 (gJ σ 43) 0 rfl (fun j hj => absurd hj (by omega)) (by rw [Int64.toInt_zero]; rfl) (by decide) (by decide)
    rw [wJ_self] at key
    exact ⟨151, key⟩
  by_cases c : K.2.1 < 0
  · rw [if_pos c]
    exact hneg 1 ⟨fun z => absurd z n10, fun z => absurd c z⟩
  · rw [if_neg c]
    exact hneg 0 ⟨fun _ => c, fun _ => rfl⟩
theorem dv_digit {M n i : Nat} (hn : 0 < n) : ((M / 2 ^ (32 * (i + 1)) % n) * 2 ^ 32 + M / 2 ^ (32 * i) % 2 ^ 32) / n = M / n / 2 ^ (32 * i) % 2 ^ 32 ∧ ((M / 2 ^ (32 * (i + 1)) % n) * 2 ^ 32 + M / 2 ^ (32 * i) % 2 ^ 32) % n = M / 2 ^ (32 * i) % n := by
  have h1 : M / 2 ^ (32 * (i + 1)) = M / 2 ^ (32 * i) / 2 ^ 32 := by
    rw [Nat.div_div_eq_div_mul, ← Nat.pow_add]; exact congrArg (fun k => M / 2 ^ k) (by omega)
  have h2 : M / n / 2 ^ (32 * i) = M / 2 ^ (32 * i) / n := by
    rw [Nat.div_div_eq_div_mul, Nat.mul_comm, ← Nat.div_div_eq_div_mul]
  rw [h1, h2]
  generalize M / 2 ^ (32 * i) = X
  have hX := Nat.div_add_mod X (2 ^ 32)
  have hd := Nat.mod_lt X (show 0 < 2 ^ 32 by decide)
  generalize X / 2 ^ 32 = Y at hX ⊢
  generalize X % 2 ^ 32 = d at hX hd ⊢
  have hY := Nat.div_add_mod Y n
  have hR := Nat.mod_lt Y hn
  generalize Y / n = q at hY
  generalize Y % n = R at hY hR ⊢
  have e : X = R * 2 ^ 32 + d + n * (q * 2 ^ 32) := by
    rw [← hX, ← hY, Nat.mul_comm (2 ^ 32) (n * q + R), Nat.add_mul, Nat.mul_assoc]; omega
  have hlt : (R * 2 ^ 32 + d) / n < 2 ^ 32 := by
    refine (Nat.div_lt_iff_lt_mul hn).mpr ?_
    have : (R + 1) * 2 ^ 32 ≤ n * 2 ^ 32 := Nat.mul_le_mul_right _ hR
    omega
  constructor
  · rw [e, Nat.add_mul_div_left _ _ hn, Nat.add_mul_mod_self_right, Nat.mod_eq_of_lt hlt]
  · rw [e, Nat.add_mul_mod_self_left]
theorem s_divideBy {M n : Nat} {Q : Int32 → St → Prop} {σ : St} {L : Nat → Int64} (hn : 1 ≤ n) (hn2 : n ≤ 1000000) (hM : M < 2 ^ (32 * 150)) (hL : LV L M) (h : ∀ L', LV L' (M / n) → Q (if M % n = 0 then 0 else 1) (wJ σ 43 L')) : w_X3_divideBy Q (nI n) (wJ σ 43 L) := by
  unfold w_X3_divideBy
  refine ⟨fun q => ?_, fun q => ?_⟩
  · have en : (nI n).toInt64 = lN n := nI_l (by omega)
    have fin : ∀ L', LV L' (M / n) → ∀ r : Nat, r = M % n → ∀ x4 : Int32, x4 < 0 → w_X3_divideBy_14 Q 1 (nI n) (lN r) x4 (wJ σ 43 L') := by
      rintro L' hL' r rfl x4 hx
      have hr := Nat.mod_lt M (show 0 < n by omega)
      have h := h L' hL'
      rw [w_X3_divideBy_14]
      refine ⟨fun _ => ⟨fun z => ?_, fun z => ?_⟩, fun z => absurd hx z⟩
      · have : M % n = 0 := (pk_lEQ (b := 0) (by omega) (by decide)).mp z
        rw [if_pos this] at h; exact h
      · rw [if_neg (fun y => z (by rw [y]; rfl))] at h; exact h
    have loop : ∀ (i : Nat) (L' : Nat → Int64), i < 150 → (∀ j, i < j → j < 150 → L' j = lN (M / n / 2 ^ (32 * j) % 2 ^ 32)) → (∀ j, j ≤ i → L' j = lN (M / 2 ^ (32 * j) % 2 ^ 32)) → w_X3_divideBy_14 Q (i + 2) (nI n) (lN (M / 2 ^ (32 * (i + 1)) % n)) (nI i) (wJ σ 43 L') := by
      intro i
      have body : ∀ (i N : Nat) (L' : Nat → Int64), i < 150 → (∀ j, j ≤ i → L' j = lN (M / 2 ^ (32 * j) % 2 ^ 32)) → (∀ L2 : Nat → Int64, L2 = vp_updL L' i (lN (M / n / 2 ^ (32 * i) % 2 ^ 32)) → w_X3_divideBy_14 Q N (nI n) (lN (M / 2 ^ (32 * i) % n)) (nI i + -1) (wJ σ 43 L2)) → w_X3_divideBy_14 Q (N + 1) (nI n) (lN (M / 2 ^ (32 * (i + 1)) % n)) (nI i) (wJ σ 43 L') := by
        intro i N L' hi ha hk
        rw [w_X3_divideBy_14]
        have hin : vp_in (nI i) 150 := in_nI hi (by decide)
        refine ⟨fun z => absurd z (nI_pos (by omega)), fun _ => ⟨hin, ?_⟩⟩
        rintro y2 rfl
        rw [gJ_wJ_eq, ix_nI (by omega), ha i (Nat.le_refl _), show (32 : Int32) = nI 32 from rfl, lshl_N _ (by decide), en]
        have hr := Nat.mod_lt (M / 2 ^ (32 * (i + 1))) (show 0 < n by omega)
        have hd := Nat.mod_lt (M / 2 ^ (32 * i)) (show 0 < 2 ^ 32 by decide)
        have hdd := dv_digit (M := M) (n := n) (i := i) (by omega)
        rw [g_or (k := 32) rfl hd (by omega)]
        have hb : M / 2 ^ (32 * (i + 1)) % n * 2 ^ 32 + M / 2 ^ (32 * i) % 2 ^ 32 < 2 ^ 63 := by omega
        have n0 : ¬ lN n = 0 := fun z => by
          have := (pk_lEQ (b := 0) (by omega) (by decide)).mp z
          omega
        refine ⟨n0, hin, ?_⟩
        rintro σ4 rfl
        refine ⟨n0, ?_⟩
        rintro y5 rfl y6 rfl
        rw [pk_lDiv hb (by omega) (by omega), hdd.1, uJ_w, wJ_wJ, gJ_wJ_eq]
        have hrem := pk_lRem (b := n) hb (by omega) (by omega)
        rw [pk_lDiv hb (by omega) (by omega), hdd.1, hdd.2] at hrem
        rw [hrem]
        exact hk _ rfl
      induction i with
      | zero =>
        intro L' hi hb ha
        refine body 0 1 L' hi ha (fun L2 e => ?_)
        rw [e]
        refine fin _ (fun j hj => ?_) _ (by rw [Nat.mul_zero, Nat.pow_zero, Nat.div_one]) _ (by decide)
        by_cases c : j = 0
        · rw [c, updL_eq]
        · rw [updL_ne c]; exact hb j (by omega) hj
      | succ i ih =>
        intro L' hi hb ha
        refine body (i + 1) (i + 2) L' hi ha (fun L2 e => ?_)
        rw [e, nI_dn _ (by omega)]
        refine ih _ (by omega) (fun j hj hj2 => ?_) (fun j hj => ?_)
        · by_cases c : j = i + 1
          · rw [c, updL_eq]
          · rw [updL_ne c]; exact hb j (by omega) hj2
        · rw [updL_ne (by omega)]; exact ha j (by omega)
    have e0 : M / 2 ^ (32 * (149 + 1)) % n = 0 := by rw [Nat.div_eq_of_lt hM, Nat.zero_mod]
    have key := loop 149 L (by omega) (fun j hj hj2 => by omega) (fun j hj => hL j (by omega))
    rw [e0] at key
    exact ⟨151, key⟩
  · have n1 : n = 1 := by
      have : ¬ 1 < n := fun z => q ((nI_ltI (a := 1) (by decide) (by omega)).mpr z)
      omega
    subst n1
    have := h L (by rw [Nat.div_one]; exact hL)
    rw [if_pos (Nat.mod_one M)] at this
    exact this
theorem s_topBit {M : Nat} {Q : Int32 → St → Prop} {σ : St} (hM : M < 2 ^ (32 * 150)) (hL : LV (gJ σ 43) M) (h : ∀ e : Int32, e.toInt = (bl M : Int) - 1 → Q e σ) : w_X3_topBit Q σ := by
  unfold w_X3_topBit
  have hb := bl_le.mpr hM
  have loop : ∀ (i : Nat), i < 150 → M < 2 ^ (32 * (i + 1)) → w_X3_topBit_4 Q (i + 2) (nI i) σ := by
    intro i
    have body : ∀ (i N : Nat), i < 150 → M < 2 ^ (32 * (i + 1)) → (M < 2 ^ (32 * i) → w_X3_topBit_4 Q N (nI i + -1) σ) → w_X3_topBit_4 Q (N + 1) (nI i) σ := by
      intro i N hi hlt hk
      rw [w_X3_topBit_4]
      have hin : vp_in (nI i) 150 := in_nI hi (by decide)
      have hp := Nat.two_pow_pos (32 * i)
      have hdg : M / 2 ^ (32 * i) < 2 ^ 32 := by
        refine (Nat.div_lt_iff_lt_mul hp).mpr ?_
        rw [← Nat.pow_add]
        rwa [show 32 + 32 * i = 32 * (i + 1) by omega]
      refine ⟨fun z => absurd z (nI_pos (by omega)), fun _ => ⟨hin, ?_⟩⟩
      rw [ix_nI (by omega), hL i hi, Nat.mod_eq_of_lt hdg]
      refine ⟨fun z => ?_, fun z => ⟨hin, ?_⟩⟩
      · rintro y2 rfl
        refine hk ?_
        have : M / 2 ^ (32 * i) = 0 := (pk_lEQ (b := 0) (by omega) (by decide)).mp z
        exact (Nat.div_eq_zero_iff_lt hp).mp this
      · have hpos : M / 2 ^ (32 * i) ≠ 0 := fun y => z (by rw [y]; rfl)
        have hge : 2 ^ (32 * i) ≤ M := (Nat.div_pos_iff.mp (Nat.pos_of_ne_zero hpos)).2
        have hs := bl_shift hge
        have hb1 := bl_pos (Nat.pos_of_ne_zero hpos)
        refine s_bits (by omega) ?_
        refine h _ ?_
        have e1 : nI i * (32 : Int32) + nI (bl (M / 2 ^ (32 * i))) = nI (32 * i + bl (M / 2 ^ (32 * i))) := by
          rw [show (32 : Int32) = nI 32 from rfl, pk_mul, nI_add, Nat.mul_comm]
        have e2 : (nI (32 * i + bl (M / 2 ^ (32 * i)))).toInt = ((32 * i + bl (M / 2 ^ (32 * i)) : Nat) : Int) := nI_toInt (by omega)
        rw [e1, i_sub (by rw [t1]; omega) (by rw [t1]; omega), e2, t1, hs]
    induction i with
    | zero =>
      intro hi hlt
      refine body 0 1 hi hlt (fun hz => ?_)
      rw [w_X3_topBit_4]
      refine ⟨fun _ => h _ ?_, fun z => absurd (by decide) z⟩
      have : M = 0 := by rw [Nat.mul_zero, Nat.pow_zero] at hz; omega
      rw [this]; decide
    | succ i ih =>
      intro hi hlt
      refine body (i + 1) (i + 2) hi hlt (fun hz => ?_)
      rw [nI_dn _ (by omega)]
      exact ih (by omega) hz
  exact ⟨151, loop 149 (by omega) hM⟩
theorem s_limbAt {M i : Nat} {Q : Int64 → St → Prop} {σ : St} (hi : i < 100000) (hM : M < 2 ^ (32 * 150)) (hL : LV (gJ σ 43) M) (h : Q (lN (M / 2 ^ (32 * i) % 2 ^ 32)) σ) : w_X3_limbAt Q (nI i) σ := by
  unfold w_X3_limbAt
  refine ⟨fun z => absurd z (nI_pos (by omega)), fun _ => ⟨fun q => ?_, fun q => ?_⟩⟩
  · have := (nI_leI (a := 150) (b := i) (by decide) (by omega)).mp q
    have hlt : M < 2 ^ (32 * i) := Nat.lt_of_lt_of_le hM (Nat.pow_le_pow_right (by decide) (by omega))
    rw [Nat.div_eq_of_lt hlt, Nat.zero_mod] at h
    exact h
  · have hi2 : i < 150 := by
      rcases Nat.lt_or_ge i 150 with g | g
      · exact g
      · exact absurd ((nI_leI (a := 150) (b := i) (by decide) (by omega)).mpr g) q
    rw [ix_nI (by omega), hL i hi2]
    exact ⟨in_nI hi2 (by decide), h⟩
theorem bit_low {x j : Nat} (hj : j < 32) : x % 2 ^ 32 / 2 ^ j % 2 = x / 2 ^ j % 2 := by
  have e : 2 ^ 32 = 2 ^ j * 2 ^ (32 - j) := by rw [← Nat.pow_add]; exact congrArg (fun k => 2 ^ k) (by omega)
  have hdvd : 2 ∣ 2 ^ (32 - j) := ⟨2 ^ (31 - j), by rw [show 32 - j = (31 - j) + 1 by omega, Nat.pow_succ, Nat.mul_comm]⟩
  rw [e, Nat.mod_mul_right_div_self, Nat.mod_mod_of_dvd _ hdvd]
theorem div_at {M k : Nat} : M / 2 ^ (32 * (k / 32)) / 2 ^ (k % 32) = M / 2 ^ k := by
  rw [Nat.div_div_eq_div_mul, ← Nat.pow_add]; exact congrArg (fun j => M / 2 ^ j) (by omega)
theorem nI_dm {k : Nat} (hk : k < 1000000) : nI k / (32 : Int32) = nI (k / 32) ∧ nI k - nI k / (32 : Int32) * (32 : Int32) = nI (k % 32) := ⟨pk_div (d := 32) (by omega) (by decide) (by decide), pk_rem (d := 32) (by omega) (by decide) (by decide)⟩
theorem s_bitAtC {M k : Nat} {Q : Int32 → St → Prop} {σ : St} (hk : k < 1000000) (hM : M < 2 ^ (32 * 150)) (hL : LV (gJ σ 43) M) (h : Q (nI (M / 2 ^ k % 2)) σ) : w_X3_bitAt Q (nI k) σ := by
  unfold w_X3_bitAt
  rw [(nI_dm hk).1]
  refine s_limbAt (by omega) hM hL ?_
  have e2 := (nI_dm hk).2
  rw [(nI_dm hk).1] at e2
  rw [e2, lushr_N (by omega) (by omega), wb_a1 (Nat.lt_of_le_of_lt (Nat.div_le_self _ _) (by omega)), l2i_N, bit_low (by omega), div_at, Nat.mod_eq_of_lt (show M / 2 ^ k % 2 < 2 ^ 32 by omega)]
  exact h
theorem s_wholeFrom {M k : Nat} {Q : Int64 → St → Prop} {σ : St} (hk : k < 1000000) (hM : M < 2 ^ (32 * 150)) (hL : LV (gJ σ 43) M) (hw : M / 2 ^ k < 2 ^ 63) (h : Q (lN (M / 2 ^ k)) σ) : w_X3_wholeFrom Q (nI k) σ := by
  unfold w_X3_wholeFrom
  rintro y1 rfl y2 rfl
  have e2 := (nI_dm hk).2
  rw [(nI_dm hk).1] at e2 ⊢
  rw [e2, show nI (k / 32) + (1 : Int32) = nI (k / 32 + 1) from nI_1 _]
  refine s_limbAt (by omega) hM hL ?_
  refine s_limbAt (by omega) hM hL ?_
  have dX : M / 2 ^ k = M / 2 ^ (32 * (k / 32)) / 2 ^ (k % 32) := div_at.symm
  have d1 : M / 2 ^ (32 * (k / 32 + 1)) = M / 2 ^ (32 * (k / 32)) / 2 ^ 32 := by
    rw [Nat.div_div_eq_div_mul, ← Nat.pow_add]; exact congrArg (fun j => M / 2 ^ j) (by omega)
  have d2 : M / 2 ^ (32 * (k / 32 + 2)) = M / 2 ^ (32 * (k / 32)) / 2 ^ 64 := by
    rw [Nat.div_div_eq_div_mul, ← Nat.pow_add]; exact congrArg (fun j => M / 2 ^ j) (by omega)
  rw [dX] at h hw
  rw [d1]
  have hm : k % 32 < 32 := Nat.mod_lt _ (by decide)
  have l2 : ∀ (Q' : Int64 → St → Prop), Q' (lN (M / 2 ^ (32 * (k / 32)) / 2 ^ 64 % 2 ^ 32)) σ → w_X3_limbAt Q' (nI (k / 32) + 2) σ := by
    intro Q' hq
    rw [show nI (k / 32) + (2 : Int32) = nI (k / 32 + 2) from nI_add _ 2]
    refine s_limbAt (by omega) hM hL ?_
    rw [d2]; exact hq
  generalize M / 2 ^ (32 * (k / 32)) = X at h hw l2 ⊢
  generalize k % 32 = m at h hw hm ⊢
  have hXlt : X < 2 ^ 63 * 2 ^ m := (Nat.div_lt_iff_lt_mul (Nat.two_pow_pos m)).mp hw
  have hX94 : X < 2 ^ 94 := by
    refine Nat.lt_of_lt_of_le hXlt ?_
    rw [← Nat.pow_add]
    exact Nat.pow_le_pow_right (by decide) (by omega)
  have hlow : X / 2 ^ 32 % 2 ^ 32 * 2 ^ 32 + X % 2 ^ 32 = X % 2 ^ 64 := by omega
  rintro y7 rfl
  rw [show (32 : Int32) = nI 32 from rfl, lshl_N _ (by decide), g_or (k := 32) rfl (Nat.mod_lt _ (by decide)) (by omega), hlow, lushr_N (by omega) (by omega)]
  refine ⟨fun q => l2 _ ?_, fun q => ?_⟩
  · have hm0 : m ≠ 0 := fun z => q (by rw [z]; rfl)
    have e64 : (64 : Int32) - nI m = nI (64 - m) := pk_sub (a := 64) (by omega)
    rw [e64, lshl_N _ (by omega), Nat.mod_eq_of_lt (show X / 2 ^ 64 < 2 ^ 32 by omega)]
    have p64 : 2 ^ 64 = 2 ^ (64 - m) * 2 ^ m := by rw [← Nat.pow_add]; exact congrArg (fun j => 2 ^ j) (by omega)
    have hval : X / 2 ^ m = X % 2 ^ 64 / 2 ^ m + X / 2 ^ 64 * 2 ^ (64 - m) := by
      have h9 : X = X % 2 ^ 64 + 2 ^ m * (X / 2 ^ 64 * 2 ^ (64 - m)) := by
        have h8 : 2 ^ m * (X / 2 ^ 64 * 2 ^ (64 - m)) = X / 2 ^ 64 * 2 ^ 64 := by
          rw [Nat.mul_left_comm, ← Nat.pow_add, show m + (64 - m) = 64 by omega]
        omega
      conv => lhs; rw [h9, Nat.add_mul_div_left _ _ (Nat.two_pow_pos m)]
    have hsm : X % 2 ^ 64 / 2 ^ m < 2 ^ (64 - m) := by
      refine (Nat.div_lt_iff_lt_mul (Nat.two_pow_pos m)).mpr ?_
      rw [← p64]
      exact Nat.mod_lt _ (by decide)
    rw [g_or' (k := 64 - m) rfl hsm (by rw [← hval]; omega), ← hval]
    exact h
  · have hm0 : m = 0 := (nI_eq (b := 0) (by omega) (by decide)).mp q
    subst hm0
    rw [Nat.pow_zero, Nat.div_one] at h hw ⊢
    rw [Nat.mod_eq_of_lt (by omega)]
    exact h
theorem s_hasBitBelow {M k : Nat} {Q : Int32 → St → Prop} {σ : St} (hk : k < 1000000) (hM : M < 2 ^ (32 * 150)) (hL : LV (gJ σ 43) M) (h : Q (if M % 2 ^ k = 0 then 0 else 1) σ) : w_X3_hasBitBelow Q (nI k) σ := by
  unfold w_X3_hasBitBelow
  rintro y1 rfl
  have e2 := (nI_dm hk).2
  rw [(nI_dm hk).1] at e2 ⊢
  have hm : k % 32 < 32 := Nat.mod_lt _ (by decide)
  have pk : 2 ^ k = 2 ^ (32 * (k / 32)) * 2 ^ (k % 32) := by rw [← Nat.pow_add]; exact congrArg (fun j => 2 ^ j) (by omega)
  have hmod : M % 2 ^ k = M % 2 ^ (32 * (k / 32)) + 2 ^ (32 * (k / 32)) * (M / 2 ^ (32 * (k / 32)) % 2 ^ (k % 32)) := by rw [pk]; exact Nat.mod_mul
  have fin : M % 2 ^ (32 * (k / 32)) = 0 → w_X3_hasBitBelow_38 Q (nI k) (nI (k / 32)) σ := by
    intro hz
    unfold w_X3_hasBitBelow_38
    refine s_limbAt (by omega) hM hL ?_
    have mask : lshlF (1 : Int64) (nI (k % 32)) - (1 : Int64) = lN (2 ^ (k % 32) - 1) := by
      have e3 : lshlF (1 : Int64) (nI (k % 32)) = lN (2 ^ (k % 32)) := by
        have := lshl_N 1 (show k % 32 < 64 by omega)
        rw [Nat.one_mul] at this
        exact this
      rw [e3]
      exact lN_sub (b := 1) (Nat.two_pow_pos _)
    rw [(nI_dm hk).1, e2, mask, wb_mask (by omega) (by omega)]
    have hdm : M / 2 ^ (32 * (k / 32)) % 2 ^ 32 % 2 ^ (k % 32) = M / 2 ^ (32 * (k / 32)) % 2 ^ (k % 32) := Nat.mod_mod_of_dvd _ (Nat.pow_dvd_pow 2 (by omega))
    rw [hdm]
    have hlt : M / 2 ^ (32 * (k / 32)) % 2 ^ (k % 32) < 2 ^ 63 := Nat.lt_of_lt_of_le (Nat.mod_lt _ (Nat.two_pow_pos _)) (Nat.pow_le_pow_right (by decide) (by omega))
    rw [hz, Nat.zero_add] at hmod
    refine ⟨fun q => ?_, fun q => ?_⟩
    · have e4 : M / 2 ^ (32 * (k / 32)) % 2 ^ (k % 32) = 0 := (pk_lEQ (b := 0) hlt (by decide)).mp q
      rw [e4, Nat.mul_zero] at hmod
      rw [if_pos hmod] at h; exact h
    · have e4 : M / 2 ^ (32 * (k / 32)) % 2 ^ (k % 32) ≠ 0 := fun z => q (by rw [z]; rfl)
      rw [if_neg (by rw [hmod]; exact Nat.mul_ne_zero (Nat.ne_of_gt (Nat.two_pow_pos _)) e4)] at h; exact h
  have loop : ∀ (d i : Nat), i + d = k / 32 → M % 2 ^ (32 * i) = 0 → w_X3_hasBitBelow_7 Q (d + 1) (nI k) (nI (k / 32)) (nI i) σ := by
    intro d
    induction d with
    | zero =>
      intro i hi hz
      have : i = k / 32 := by omega
      subst this
      rw [w_X3_hasBitBelow_7]
      exact ⟨fun _ => fin hz, fun q => absurd (Int32.le_refl _) q⟩
    | succ d ih =>
      intro i hi hz
      rw [w_X3_hasBitBelow_7]
      refine ⟨fun q => ?_, fun _ => ⟨fun q => ?_, fun q => ?_⟩⟩
      · have := (nI_leI (a := k / 32) (b := i) (by omega) (by omega)).mp q
        omega
      · have := (nI_leI (a := 150) (b := i) (by decide) (by omega)).mp q
        have hlt : M < 2 ^ (32 * i) := Nat.lt_of_lt_of_le hM (Nat.pow_le_pow_right (by decide) (by omega))
        rw [Nat.mod_eq_of_lt hlt] at hz
        exact fin (by rw [hz, Nat.zero_mod])
      · have hi2 : i < 150 := by
          rcases Nat.lt_or_ge i 150 with g | g
          · exact g
          · exact absurd ((nI_leI (a := 150) (b := i) (by decide) (by omega)).mpr g) q
        rw [ix_nI (by omega), hL i hi2]
        have hstep : M % 2 ^ (32 * (i + 1)) = M % 2 ^ (32 * i) + 2 ^ (32 * i) * (M / 2 ^ (32 * i) % 2 ^ 32) := by
          rw [show 32 * (i + 1) = 32 * i + 32 by omega, Nat.pow_add]; exact Nat.mod_mul
        rw [hz, Nat.zero_add] at hstep
        refine ⟨in_nI hi2 (by decide), fun z => ?_, fun z => ?_⟩
        · rintro y5 rfl
          rw [nI_1]
          have e4 : M / 2 ^ (32 * i) % 2 ^ 32 = 0 := (pk_lEQ (b := 0) (by omega) (by decide)).mp z
          exact ih (i + 1) (by omega) (by rw [hstep, e4, Nat.mul_zero])
        · have e4 : M / 2 ^ (32 * i) % 2 ^ 32 ≠ 0 := fun y => z (by rw [y]; rfl)
          have n1 : M % 2 ^ (32 * (i + 1)) ≠ 0 := by rw [hstep]; exact Nat.mul_ne_zero (Nat.ne_of_gt (Nat.two_pow_pos _)) e4
          have n2 : M % 2 ^ k ≠ 0 := by
            intro y
            apply n1
            have hdv : 2 ^ (32 * (i + 1)) ∣ 2 ^ k := Nat.pow_dvd_pow 2 (by omega)
            rw [← Nat.mod_mod_of_dvd _ hdv, y, Nat.zero_mod]
          rw [if_neg n2] at h; exact h
  exact ⟨k / 32 + 1, loop (k / 32) 0 (by omega) (by rw [Nat.mul_zero, Nat.pow_zero, Nat.mod_one])⟩
