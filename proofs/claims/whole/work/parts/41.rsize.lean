/-! the reference's sizes -/
def HV (S : Nat → Int32) (M : Nat) : Prop := ∀ i, i < 152 → (S i).toInt % 4294967296 = ((M / 2 ^ (32 * i) % 2 ^ 32 : Nat) : Int)
theorem top_word {S : Nat → Int32} {k : Nat} {N : Int} (h : WK S k N) (b : -2 ^ (32 * 149) ≤ N ∧ N < 2 ^ (32 * 149)) : ((S (152 * k + 151)).toInt < 0 ↔ N < 0) ∧ (S (152 * k + 151)).toInt = N / 2 ^ (32 * 151) := by
  have e := h 151 (by decide)
  unfold dgI at e
  have hb := ib (S (152 * k + 151))
  have l1 : ((2 ^ (32 * 149) : Nat) : Int) ≤ ((2 ^ (32 * 151) : Nat) : Int) := Int.ofNat_le.mpr (Nat.pow_le_pow_right (by decide) (by decide))
  rw [p2c, p2c] at l1
  rcases ilg N 0 with g | g
  · rw [div_m1_of g (Int.le_trans (Int.neg_le_neg l1) b.1)] at e ⊢
    constructor <;> omega
  · rw [div_zero_of g (Int.lt_of_lt_of_le b.2 l1)] at e ⊢
    constructor <;> omega
theorem bmod_emod (x : Int) : x.bmod (2 ^ 32) % 4294967296 = x % 4294967296 := by
  rw [Int.bmod_def]
  split <;> omega
theorem notlow32 (x : Int32) : (x ^^^ (-1 : Int32)).toInt % 4294967296 = 4294967295 - x.toInt % 4294967296 := by
  rw [Int32.xor_neg_one, Int32.not_eq_neg_add, Int32.toInt_sub, bmod_emod, Int32.toInt_neg, t1]
  have := bmod_emod (-x.toInt)
  omega
theorem take_sum {N : Int} (b : -2 ^ (32 * 149) ≤ N ∧ N < 2 ^ (32 * 149)) : (if N < 0 then 1 else 0) + sm (fun i => if N < 0 then 4294967295 - dgI N i else dgI N i) 152 = (N.natAbs : Int) := by
  have h1 := sm_dg N 152
  have l1 : ((2 ^ (32 * 149) : Nat) : Int) ≤ ((2 ^ (32 * 152) : Nat) : Int) := Int.ofNat_le.mpr (Nat.pow_le_pow_right (by decide) (by decide))
  rw [p2c, p2c] at l1
  by_cases c : N < 0
  · rw [if_pos c, sm_congr (G := fun i => 4294967295 - dgI N i) (fun i _ => if_pos c), sm_ones]
    rw [div_m1_of c (Int.le_trans (Int.neg_le_neg l1) b.1)] at h1
    generalize (2 : Int) ^ (32 * 152) = W at h1 ⊢
    generalize sm (dgI N) 152 = s at h1 ⊢
    omega
  · rw [if_neg c, sm_congr (G := dgI N) (fun i _ => if_neg c)]
    rw [div_zero_of (by omega) (Int.lt_of_lt_of_le b.2 l1), Int.zero_mul] at h1
    omega
/-- what is taken of a keeper -/
def Tk (σ σ' : St) (N : Int) : Prop := Fr [] σ σ' ∧ HV (gI σ' 13) N.natAbs ∧ gI σ' 0 20 = (if N < 0 then 1 else 0) ∧ gI σ' 0 21 = 0
theorem s_take {k : Nat} {K : KpA} {Q : St → Prop} {σ : St} (hk : k < 6) (hK : KpR (gI σ 6) (gI σ 7) (gI σ 8) k K) (b : -2 ^ (32 * 149) ≤ K.2.1 ∧ K.2.1 < 2 ^ (32 * 149)) (h : ∀ σ', Tk σ σ' K.2.1 → Q σ') : w_X5_take Q (nI k) σ := by
  unfold w_X5_take
  have em : (152 : Int32) * nI k + 152 - 1 = nI (152 * k + 151) := by
    have e1 : (152 : Int32) * nI k + 152 = nI (152 * k + 152) := by
      rw [show (152 : Int32) = nI 152 from rfl, pk_mul, nI_add]
    rw [e1]
    exact pk_sub (a := 152 * k + 152) (b := 1) (by omega)
  rw [em, ix_nI (by omega)]
  have htop := (top_word hK.2.1 b).1
  have hsum := take_sum b
  have go : ∀ s0 : Int32, s0 = (if K.2.1 < 0 then 1 else 0) → w_X5_take_25 Q (nI k) s0 σ := by
    intro s0 hs0
    unfold w_X5_take_25
    refine ⟨by rw [hs0]; split; exact bz1; exact bz0, ?_⟩
    rintro σ2 rfl σ3 rfl
    generalize hτ : uI (uI σ 0 20 s0) 0 21 0 = τ
    have F : Fr [] σ τ := by rw [← hτ]; exact (fr_u (by decide)).tr (fr_u (by decide))
    have g20 : gI τ 0 20 = s0 := by rw [← hτ, uI_w, gI_wI_eq, upd_ne (by decide), uI_w, gI_wI_eq, upd_eq]
    have g21 : gI τ 0 21 = 0 := by rw [← hτ, uI_w, gI_wI_eq, upd_eq]
    rw [g20]
    generalize hF : (fun i => if K.2.1 < 0 then 4294967295 - dgI K.2.1 i else dgI K.2.1 i) = Fn at hsum
    generalize hc : (if K.2.1 < 0 then (1 : Int) else 0) = c at hsum
    have loop : ∀ (d i : Nat) (S : Nat → Int32) (o : Nat), i + d = 152 → (∀ j, j < i → (S j).toInt % 4294967296 = dgI (c + sm Fn 152) j) → (o : Int) = (c + sm Fn i) / 2 ^ (32 * i) → o ≤ 1 → w_X5_take_49 Q (d + 1) (nI k) (lN o) (nI i) (wI τ 13 S) := by
      intro d
      induction d with
      | zero =>
        intro i S o hi hlt ho ho1
        have : i = 152 := by omega
        subst this
        rw [w_X5_take_49]
        refine ⟨fun _ => h _ ⟨F.tr (fr_w (by decide)), fun j hj => ?_, ?_, ?_⟩, fun q => absurd (by decide) q⟩
        · rw [gI_wI_eq, hlt j hj, hsum, dgN]
        · rw [gI_wI_ne (by decide), g20, hs0]
        · rw [gI_wI_ne (by decide), g21]
      | succ d ih =>
        intro i S o hi hlt ho ho1
        rw [w_X5_take_49]
        refine ⟨fun q => ?_, fun _ => ?_⟩
        · have := (nI_leI (a := 152) (b := i) (by decide) (by omega)).mp q
          omega
        · rw [m152, ix_nI (by omega)]
          refine ⟨in_nI (by omega) (by decide), ?_⟩
          rintro y5 rfl
          have e7 : gI (wI τ 13 S) 7 = gI σ 7 := by rw [gI_wI_ne (by decide), F.i (c := 7) (by decide)]
          have e20 : gI (wI τ 13 S) 0 20 = s0 := by rw [gI_wI_ne (by decide), g20]
          rw [e7, e20]
          have hd := hK.2.1 i (by omega)
          have hr := dg_rng K.2.1 i
          have step : ∀ v : Int32, v.toInt % 4294967296 = Fn i → w_X5_take_88 (fun x1 x2 x4 σ => w_X5_take_49 Q (d + 1) x1 x2 x4 σ) Q (nI k) (lN o) (nI i) v (wI τ 13 S) := by
            intro v hv
            unfold w_X5_take_88
            obtain ⟨m, hm, e1, e2⟩ := low_nat v
            rintro y6 rfl
            rw [e1, lN_add]
            refine ⟨in_nI (by omega) (by decide), ?_⟩
            rintro σ8 rfl y9 rfl y10 rfl
            rw [nI_1, ix_nI (by omega), uI_w, wI_wI, gI_wI_eq, l2i_N, show (32 : Int32) = nI 32 from rfl, lushr_N (by omega) (by decide)]
            have hov := sm_over Fn c i
            have hst := sm_stay Fn c i
            have hdd := sm_dig Fn c (show i < 152 by omega)
            rw [← ho] at hov hst
            refine ih (i + 1) _ _ (by omega) (fun j hj => ?_) ?_ ?_
            · by_cases hji : j = i
              · subst hji
                rw [upd_eq, hdd, hst, nI_mod32, ← hv, e2]; omega
              · rw [upd_ne hji]; exact hlt j (by omega)
            · rw [hov, ← hv, e2]; omega
            · omega
          refine ⟨fun q => step _ ?_, fun q => step _ ?_⟩
          · rw [hd, ← hF]
            show _ = if K.2.1 < 0 then _ else _
            rw [if_neg (fun z => by rw [if_pos z] at hs0; rw [hs0] at q; exact n10 q)]
          · rw [notlow32, hd, ← hF]
            show _ = if K.2.1 < 0 then _ else _
            rw [if_pos (Decidable.byContradiction (fun z => by rw [if_neg z] at hs0; exact q hs0))]
    have hc01 : c = 0 ∨ c = 1 := by rw [← hc]; split; exact Or.inr rfl; exact Or.inl rfl
    have key : ∀ o : Nat, (o : Int) = c → ∃ fu, w_X5_take_49 Q fu (nI k) (lN o) 0 τ := by
      intro o hoc
      have := loop 152 0 (gI τ 13) o rfl (fun j hj => absurd hj (by omega)) (by rw [hoc]; simp [sm]) (by omega)
      rw [wI_self] at this
      exact ⟨153, this⟩
    refine ⟨fun q => ?_, fun q => ?_⟩ <;> unfold w_X5_take_45
    · refine key 0 ?_
      rw [← hc, if_neg (fun z => by rw [if_pos z] at hs0; rw [hs0] at q; exact n10 q)]; rfl
    · refine key 1 ?_
      rw [← hc, if_pos (Decidable.byContradiction (fun z => by rw [if_neg z] at hs0; exact q hs0))]; rfl
  refine ⟨in_nI (by omega) (by decide), fun q => go 0 ?_, fun q => go 1 ?_⟩
  · rw [i_ge0] at q
    rw [if_neg (fun z => by have := htop.mpr z; omega)]
  · rw [i_ge0] at q
    rw [if_pos (htop.mp (by omega))]
theorem i_and1 (x : Int32) : (x &&& 1).toInt = x.toInt % 2 := by
  have h1 : (x &&& 1).toBitVec.toNat = x.toBitVec.toNat % 2 ^ 1 := by
    rw [Int32.toBitVec_and, BitVec.toNat_and]
    exact Nat.and_two_pow_sub_one_eq_mod _ 1
  have h2 : ∀ y : Int32, y.toInt = y.toBitVec.toInt := fun _ => rfl
  rw [h2, h2, BitVec.toInt_eq_toNat_cond, BitVec.toInt_eq_toNat_cond, h1]
  have h3 : x.toBitVec.toNat < 2 ^ 32 := x.toBitVec.isLt
  generalize x.toBitVec.toNat = v at h3 ⊢
  split <;> split <;> omega
theorem i_shr (x : Int32) {j : Nat} (hj : j < 32) : (x >>> (nI j &&& 31)).toInt = x.toInt / 2 ^ j := by
  have ht : ∀ j, j < 32 → ((nI j &&& 31).toBitVec.smod 32).toNat = j := by decide +kernel
  have e : (x >>> (nI j &&& 31)).toBitVec = x.toBitVec.sshiftRight j := by
    rw [Int32.toBitVec_shiftRight]
    show x.toBitVec.sshiftRight ((nI j &&& 31).toBitVec.smod 32).toNat = _
    rw [ht j hj]
  have h2 : ∀ y : Int32, y.toInt = y.toBitVec.toInt := fun _ => rfl
  rw [h2, h2, e, BitVec.toInt_sshiftRight, Int.shiftRight_eq_div_pow]
  rfl
theorem i_bit (x : Int32) {w j : Nat} (hj : j < 32) (hw : x.toInt % 4294967296 = (w : Int)) : (x >>> (nI j &&& 31)) &&& 1 = nI (w / 2 ^ j % 2) := by
  refine i_of ?_ (by omega)
  rw [i_and1, i_shr x hj]
  have hb := ib x
  have hp := p2 j
  have p32 : (4294967296 : Int) = 2 ^ (31 - j) * 2 * 2 ^ j := by
    rw [Int.mul_assoc, Int.mul_comm 2, ← Int.pow_succ, ← Int.pow_add, show 31 - j + (j + 1) = 32 by omega]; rfl
  have hx : x.toInt = (w : Int) + (x.toInt / 4294967296) * 2 ^ (31 - j) * 2 * 2 ^ j := by
    have h9 : x.toInt = (w : Int) + (x.toInt / 4294967296) * 4294967296 := by omega
    have h8 : ∀ q : Int, q * 4294967296 = q * 2 ^ (31 - j) * 2 * 2 ^ j := fun q => by
      rw [p32]; simp only [Int.mul_assoc]
    rw [← h8]; exact h9
  generalize x.toInt / 4294967296 * 2 ^ (31 - j) = t at hx
  rw [hx, Int.add_mul_ediv_right _ _ (Int.ne_of_gt hp)]
  have e3 : (w : Int) / 2 ^ j = ((w / 2 ^ j : Nat) : Int) := by rw [Int.natCast_ediv, p2c]
  rw [e3]
  omega
theorem s_bitAtR {M k : Nat} {Q : Int32 → St → Prop} {σ : St} (hk : k < 1000000) (hM : M < 2 ^ (32 * 150)) (hL : HV (gI σ 13) M) (h : Q (nI (M / 2 ^ k % 2)) σ) : w_X5_bitAt Q (nI k) σ := by
  unfold w_X5_bitAt
  refine ⟨fun z => absurd z (nI_pos (by omega)), fun _ => ⟨fun q => ?_, fun q => ?_⟩⟩
  · have hk2 : k < 4864 := (nI_ltI (b := 4864) (by omega) (by decide)).mp q
    rw [(nI_dm hk).1]
    have e2 := (nI_dm hk).2
    rw [(nI_dm hk).1] at e2
    rw [e2, ix_nI (by omega), i_bit _ (by omega) (hL (k / 32) (by omega)), bit_low (by omega), div_at]
    exact ⟨in_nI (by omega) (by decide), h⟩
  · have hk2 : ¬ k < 4864 := fun z => q ((nI_ltI (b := 4864) (by omega) (by decide)).mpr z)
    have hlt : M < 2 ^ k := Nat.lt_of_lt_of_le hM (Nat.pow_le_pow_right (by decide) (by omega))
    rw [Nat.div_eq_of_lt hlt, Nat.zero_mod] at h
    exact h
theorem s_highestR {M : Nat} {Q : Int32 → St → Prop} {σ : St} (hM : M < 2 ^ (32 * 150)) (hL : HV (gI σ 13) M) (h : ∀ e : Int32, e.toInt = (bl M : Int) - 1 → Q e σ) : w_X5_highest Q σ := by
  unfold w_X5_highest
  have loop : ∀ (k : Nat), k < 4864 → M < 2 ^ (k + 1) → w_X5_highest_4 Q (k + 2) (nI k) σ := by
    intro k
    have body : ∀ (k N : Nat), k < 4864 → M < 2 ^ (k + 1) → (M < 2 ^ k → w_X5_highest_4 Q N (nI k + -1) σ) → w_X5_highest_4 Q (N + 1) (nI k) σ := by
      intro k N hk hlt hn
      rw [w_X5_highest_4]
      refine ⟨fun z => absurd z (nI_pos (by omega)), fun _ => s_bitAtR (by omega) hM hL ?_⟩
      have hq : M / 2 ^ k < 2 := (Nat.div_lt_iff_lt_mul (Nat.two_pow_pos k)).mpr (by rw [Nat.pow_succ] at hlt; omega)
      rw [Nat.mod_eq_of_lt hq]
      show _ ∧ _
      refine ⟨fun z => ?_, fun z => ?_⟩
      · rintro y3 rfl
        refine hn ?_
        have : M / 2 ^ k = 0 := by
          have : ¬ M / 2 ^ k = 1 := fun y => z (by rw [y]; rfl)
          generalize M / 2 ^ k = y at hq this ⊢
          omega
        exact (Nat.div_eq_zero_iff_lt (Nat.two_pow_pos k)).mp this
      · have : M / 2 ^ k = 1 := (nI_eq (b := 1) (by omega) (by decide)).mp z
        have hge : 2 ^ k ≤ M := (Nat.div_pos_iff.mp (by omega)).2
        refine h _ ?_
        rw [nI_toInt (by omega), bl_eq hge hlt]; omega
    induction k with
    | zero =>
      intro hk hlt
      refine body 0 1 hk hlt (fun hz => ?_)
      rw [w_X5_highest_4]
      refine ⟨fun _ => h _ ?_, fun z => absurd (by decide) z⟩
      have : M = 0 := by rw [Nat.pow_zero] at hz; omega
      rw [this]; decide
    | succ k ih =>
      intro hk hlt
      refine body (k + 1) (k + 2) hk hlt (fun hz => ?_)
      rw [nI_dn _ (by omega)]
      exact ih (by omega) hz
  exact ⟨4865, loop 4863 (by omega) (Nat.lt_of_lt_of_le hM (Nat.pow_le_pow_right (by decide) (by decide)))⟩
/-! the reference rounds -/
def rEnd (f : Bool) : Int := if f then 128 else 1024
theorem s_roundedR {M : Nat} {way bits least en : Int32} {f rest below : Bool} {Q : UInt64 → St → Prop} {σ : St} (hM : M < 2 ^ (32 * 150)) (hL : HV (gI σ 13) M) (hw0 : 0 ≤ way.toInt) (hw3 : way.toInt ≤ 3) (e20 : gI σ 0 20 = 0 ↔ below = false) (e21 : gI σ 0 21 = 0 ↔ rest = false) (hb : bits = nI (rBits f)) (hl : least.toInt = (rLeast f : Int) - 2148) (he : en.toInt = rEnd f) (h : Q (rnd M rest below way f) σ) : w_X5_rounded Q way bits least en σ := by
  have hbit := rBits_le f
  have hlst := rLeast_ge f
  have hrs := rStep_rng (f := f) hM
  have hbl := bl_le.mpr hM
  have hEnd : rEnd f = 128 ∨ rEnd f = 1024 := by unfold rEnd; cases f <;> simp
  have hpair : (rBits f = 24 ∧ rLeast f = 1999 ∧ rEnd f = 128) ∨ (rBits f = 53 ∧ rLeast f = 1074 ∧ rEnd f = 1024) := by cases f <;> simp [rBits, rLeast, rEnd]
  have hm : M / 2 ^ rStep M f < 2 ^ rBits f := rStep_lt
  have hm53 : 2 ^ rBits f ≤ 2 ^ 53 := Nat.pow_le_pow_right (by decide) hbit.1
  have hw4 : way = 0 ∨ way = 1 ∨ way = 2 ∨ way = 3 := by
    rcases (show way.toInt = 0 ∨ way.toInt = 1 ∨ way.toInt = 2 ∨ way.toInt = 3 by omega) with z | z | z | z
    · exact Or.inl (i_ext z)
    · exact Or.inr (Or.inl (i_ext z))
    · exact Or.inr (Or.inr (Or.inl (i_ext z)))
    · exact Or.inr (Or.inr (Or.inr (i_ext z)))
  have kb : bits.toInt = (rBits f : Int) := by rw [hb]; exact nI_toInt (by omega)
  have k2148 : (2148 : Int32).toInt = 2148 := by decide
  -- the value that is told in the end
  have g356 : ∀ n : Nat, Rn n → Q (if n = 0 then U false 0 else U below n) σ → w_X5_rounded_356 Q (U false n) σ := by
    intro n hn hq
    unfold w_X5_rounded_356
    have hz : dcmpF (U false n) FP.dconst0 .l = 0 ↔ n = 0 := by
      rw [u_zero, dc_eq (nn_U _ _) (nn_U _ _), dk_U hn, dk_U rn_zero, sg_f, sg_f]; omega
    rw [hz]
    refine ⟨fun a => ⟨fun b => ?_, fun b => ?_⟩, fun a => ?_⟩
    · rw [if_neg a, e20.mp b] at hq; exact hq
    · have : below = true := by
        cases below
        · exact absurd (e20.mpr rfl) b
        · rfl
      rw [if_neg a, this] at hq
      rw [u_neg _ _ hn]; exact hq
    · rw [if_pos a] at hq
      rw [u_zero]; exact hq
  have ginf : Q (if below then dMinf else dInf) σ → w_X5_rounded_356 Q (9218868437227405312 : UInt64) σ := by
    intro hq
    unfold w_X5_rounded_356
    have hz : ¬ dcmpF (9218868437227405312 : UInt64) FP.dconst0 .l = 0 := by
      rw [u_zero, dc_eq nn_inf (nn_U _ _), dk_inf, dk_U rn_zero, sg_f]
      have := TOP_pos
      omega
    refine ⟨fun _ => ⟨fun b => ?_, fun b => ?_⟩, fun a => absurd a hz⟩
    · rw [e20.mp b] at hq; exact hq
    · have : below = true := by
        cases below
        · exact absurd (e20.mpr rfl) b
        · rfl
      rw [this] at hq
      rw [minf_eq]; exact hq
  have pw : lshlF (1 : Int64) bits = lN (2 ^ rBits f) := by
    have := lshl_N 1 (show rBits f < 64 by omega)
    rw [Nat.one_mul] at this
    rw [hb]; exact this
  generalize hmd : M / 2 ^ rStep M f = m at hm
  have finish : ∀ (hi beyond up away : Int32) , hi.toInt = (bl M : Int) - 1 → (beyond = 0 ↔ (bl M : Int) - 1 < rEnd f + 2148) → (up = 0 ↔ rUp M rest below way f = false) → bz up → (away = 0 ↔ ¬ (way = (if below then 3 else 2))) →
      w_X5_rounded_252 Q way bits en (nI (rStep M f)) (lN m) away up beyond σ := by
    intro hi beyond up away hhi hbe hup hupz haw
    have hst : ∀ u : Nat, (u = if rUp M rest below way f then 1 else 0) → w_X5_rounded_266 Q way bits en (nI (rStep M f)) away beyond (lN u) (lN m) σ := by
      intro u hu
      have hu1 : u ≤ 1 := by rw [hu]; split <;> omega
      unfold rnd at h
      rw [hmd, ← hu] at h
      unfold w_X5_rounded_266
      rintro y6 rfl
      rw [lN_add, pw]
      have e1 : lN (2 ^ rBits f) - (1 : Int64) = lN (2 ^ rBits f - 1) := lN_sub (b := 1) (Nat.two_pow_pos _)
      have hp1 := Nat.two_pow_pos (rBits f)
      have e2 : (lN (2 ^ rBits f - 1)).toInt = ((2 ^ rBits f - 1 : Nat) : Int) := pk_lT (by omega)
      have e3 : (en - bits).toInt = rEnd f - rBits f := by rw [i_sub (by omega) (by omega), he, kb]
      have hble : bl (2 ^ rBits f - 1) ≤ rBits f := bl_le.mpr (by omega)
      rw [e1]
      refine s_made (by rw [e3]; omega) (by rw [e2, Int.natAbs_natCast]; omega) (by rw [e2, e3, Int.natAbs_natCast]; omega) ?_
      rw [e2, e3, Int.natAbs_natCast, decide_eq_false (by omega)]
      have hmost : (2 ^ rBits f - 1) * 2 ^ (rEnd f - (rBits f : Int) + 1074).toNat = (if f then (2 ^ 24 - 1) * 2 ^ 1178 else (2 ^ 53 - 1) * 2 ^ 2045) := by
        rcases hpair with ⟨a, b, c⟩ | ⟨a, b, c⟩
        · have ef : f = true := by cases f; exact absurd a (by decide); rfl
          rw [a, c, ef, if_pos rfl, show ((128 : Int) - ((24 : Nat) : Int) + 1074).toNat = 1178 by decide]
        · have ef : f = false := by cases f; rfl; exact absurd a (by decide)
          rw [a, c, ef, if_neg (by decide), show ((1024 : Int) - ((53 : Nat) : Int) + 1074).toNat = 2045 by decide]
      rw [hmost]
      have hlim : (if f then (128 : Int) else 1024) = rEnd f := rfl
      unfold finV at h
      rw [hlim] at h
      have hmb : bl m ≤ rBits f := bl_le.mpr hm
      have hmu : bl (m + u) ≤ rBits f + 1 := bl_le.mpr (by rw [Nat.pow_succ]; omega)
      have hstep : rStep M f = bl M - rBits f ∧ rLeast f ≤ bl M - rBits f ∨ rStep M f = rLeast f ∧ bl M - rBits f ≤ rLeast f := by unfold rStep; omega
      have hbig : rLeast f < bl M - rBits f → bl m = rBits f := by
        intro q
        have hs : rStep M f = bl M - rBits f := by unfold rStep; omega
        have hMp : 0 < M := by
          rcases Nat.eq_zero_or_pos M with z | z
          · rw [z] at q
            have : bl 0 = 0 := by decide
            omega
          · exact z
        have hge : 2 ^ rStep M f ≤ M := bl_gt.mp (by omega)
        have := bl_shift hge
        rw [hmd] at this
        omega
      have esl : (nI (rStep M f) - (2148 : Int32)).toInt = (rStep M f : Int) - 2148 := by
        have : (nI (rStep M f)).toInt = (rStep M f : Int) := nI_toInt (by omega)
        rw [i_sub (by omega) (by omega), this, k2148]
      have g343 : (bl (m + u) : Int) + ((rStep M f : Int) - 2148) ≤ rEnd f → w_X5_rounded_343 Q (nI (rStep M f)) (lN (m + u)) σ := by
        intro hle
        rw [if_neg (show ¬ rEnd f < (bl (m + u) : Int) + ((rStep M f : Int) - 2148) by omega)] at h
        unfold w_X5_rounded_343
        have eL : (lN (m + u)).toInt = ((m + u : Nat) : Int) := pk_lT (by omega)
        have hmu53 : m + u ≤ 2 ^ 53 := by omega
        refine s_made (by rw [esl]; omega) (by rw [eL, Int.natAbs_natCast]; exact hmu53) (by rw [eL, esl, Int.natAbs_natCast]; omega) ?_
        rw [eL, esl, Int.natAbs_natCast, decide_eq_false (by omega)]
        have hR : Rn ((m + u) * 2 ^ ((rStep M f : Int) - 2148 + 1074).toNat) := rn_bl hmu53 (by omega)
        refine g356 _ hR ?_
        by_cases z : m + u = 0
        · rw [if_pos z] at h
          rw [if_pos (by rw [z, Nat.zero_mul])]; exact h
        · rw [if_neg z] at h
          rw [if_neg (fun y => by
            rcases Nat.mul_eq_zero.mp y with g | g
            · exact z g
            · exact absurd g (Nat.ne_of_gt (Nat.two_pow_pos _)))]
          exact h
      have eqb : lN (m + u) = lN (2 ^ rBits f) ↔ m + u = 2 ^ rBits f := pk_lEQ (by omega) (by omega)
      have eqe : nI (rStep M f) - (2148 : Int32) + bits = en ↔ (rStep M f : Int) - 2148 + rBits f = rEnd f := by
        have e5 : (nI (rStep M f) - (2148 : Int32) + bits).toInt = (rStep M f : Int) - 2148 + rBits f := by rw [i_add (by omega) (by omega), esl, kb]
        exact ⟨fun q => by rw [← e5, q, he], fun q => i_ext (by rw [e5, q, he])⟩
      have haway : u = 1 → way = 0 ∨ way = (if below then 3 else 2) := by
        intro hu2
        have hup2 : rUp M rest below way f = true := by
          cases hc : rUp M rest below way f
          · rw [hc] at hu; rw [hu] at hu2; exact absurd hu2 (by decide)
          · rfl
        unfold rUp awy at hup2
        rcases hw4 with z | z | z | z
        · exact Or.inl z
        · rw [if_neg (by rw [z]; decide), if_neg (by rw [z]; decide), if_neg (by rw [z]; decide)] at hup2
          exact absurd hup2 (by decide)
        · rw [if_neg (by rw [z]; decide), if_pos z] at hup2
          cases below
          · exact Or.inr z
          · exact absurd hup2 (by simp)
        · rw [if_neg (by rw [z]; decide), if_neg (by rw [z]; decide), if_pos z] at hup2
          cases below
          · exact absurd hup2 (by simp)
          · exact Or.inr z
      show _ ∧ _
      rw [eqb, eqe]
      refine ⟨fun nb => ?_, fun yb => ?_⟩
      · have nb := hbe.mp nb
        have small : ¬ (m + u = 2 ^ rBits f ∧ (rStep M f : Int) - 2148 + rBits f = rEnd f) → (bl (m + u) : Int) + ((rStep M f : Int) - 2148) ≤ rEnd f := by
          intro z
          by_cases y : m + u = 2 ^ rBits f
          · have ne : ¬ (rStep M f : Int) - 2148 + rBits f = rEnd f := fun w => z ⟨y, w⟩
            omega
          · have : bl (m + u) ≤ rBits f := bl_le.mpr (by omega)
            omega
        refine ⟨fun y => g343 (small (fun z => y z.1)), fun y => ⟨fun z => g343 (small (fun w => z w.2)), fun z => ?_⟩⟩
        have hbl2 : bl (m + u) = rBits f + 1 := by rw [y]; exact bl_eq (Nat.le_refl _) (Nat.pow_lt_pow_right (by decide) (by omega))
        rw [if_neg (by omega), if_pos (by rw [hbl2]; omega), if_pos (haway (by omega))] at h
        exact ginf h
      · have yb : ¬ (bl M : Int) - 1 < rEnd f + 2148 := fun z => yb (hbe.mpr z)
        have hbm := hbig (by omega)
        have hpos : 0 < m := by
          rcases Nat.eq_zero_or_pos m with z | z
          · rw [z] at hbm
            have : bl 0 = 0 := by decide
            omega
          · exact z
        have hmono := bl_mono (show m ≤ m + u by omega)
        have hsM : rStep M f = bl M - rBits f := by omega
        rw [if_neg (by omega), if_pos (by omega)] at h
        have g300 : (way = 0 ∨ way = (if below then 3 else 2)) → w_X5_rounded_300 Q σ := by
          intro z
          rw [if_pos z] at h
          unfold w_X5_rounded_300 w_X5_rounded_308
          exact ginf h
        refine ⟨fun z => g300 (Or.inl z), fun z => ⟨fun w => ?_, fun w => g300 (Or.inr (Decidable.byContradiction (fun y => w (haw.mpr y))))⟩⟩
        have nz : ¬ (way = 0 ∨ way = (if below then 3 else 2)) := by
          rintro (y | y)
          · exact z y
          · exact haw.mp w y
        rw [if_neg nz] at h
        unfold w_X5_rounded_308
        refine g356 _ (by cases f; exact rn_most; exact rn_mostF) ?_
        rw [if_neg]
        · exact h
        · cases f
          · exact Nat.ne_of_gt (Nat.mul_pos (by decide) (Nat.two_pow_pos _))
          · exact Nat.ne_of_gt (Nat.mul_pos (by decide) (Nat.two_pow_pos _))
    unfold w_X5_rounded_252
    refine ⟨fun z => hst 0 (by rw [hup.mp z]; rfl), fun z => hst 1 ?_⟩
    cases hc : rUp M rest below way f
    · exact absurd (hup.mpr hc) z
    · rfl
  have ee : (en + (2148 : Int32)).toInt = rEnd f + 2148 := by rw [i_add (by omega) (by omega), he, k2148]
  have g234 : ∀ (hi up away : Int32), hi.toInt = (bl M : Int) - 1 → (up = 0 ↔ rUp M rest below way f = false) → bz up → (away = 0 ↔ ¬ (way = (if below then 3 else 2))) → w_X5_rounded_234 Q way bits en hi (nI (rStep M f)) (lN m) away up σ := by
    intro hi up away hhi hup hz haw
    unfold w_X5_rounded_234
    have cmp : hi < en + (2148 : Int32) ↔ (bl M : Int) - 1 < rEnd f + 2148 := by rw [i_lt, hhi, ee]
    rw [cmp]
    exact ⟨fun z => finish hi 0 up away hhi ⟨fun _ => z, fun _ => rfl⟩ hup hz haw, fun z => finish hi 1 up away hhi ⟨fun y => absurd y n10, fun y => absurd y z⟩ hup hz haw⟩
  have odd : lN m &&& (1 : Int64) = 1 ↔ m % 2 = 1 := by
    rw [wb_a1 (by omega)]
    exact pk_lEQ (b := 1) (by omega) (by decide)
  have g181 : ∀ (hi half more away : Int32), hi.toInt = (bl M : Int) - 1 → (half = 0 ↔ ¬ M / 2 ^ (rStep M f - 1) % 2 = 1) → (more = 0 ↔ (rest = false ∧ M % 2 ^ (rStep M f - 1) = 0)) → (away = 0 ↔ ¬ (way = (if below then 3 else 2))) → w_X5_rounded_181 Q way bits en hi (nI (rStep M f)) (lN m) half more away σ := by
    intro hi half more away hhi hh hmo haw
    unfold w_X5_rounded_181 w_X5_rounded_233 w_X5_rounded_229 w_X5_rounded_210 w_X5_rounded_206
    have eh : decide (M / 2 ^ (rStep M f - 1) % 2 = 1) = decide (¬ half = 0) := by
      by_cases c : half = 0
      · rw [decide_eq_false (hh.mp c), dF c]
      · rw [dT c, decide_eq_true (Decidable.byContradiction (fun z => c (hh.mpr z)))]
    have em : (rest || decide (M % 2 ^ (rStep M f - 1) ≠ 0)) = decide (¬ more = 0) := by
      by_cases c : more = 0
      · obtain ⟨a, b⟩ := hmo.mp c
        rw [dF c, a, b]; rfl
      · rw [dT c]
        cases hr : rest
        · have : M % 2 ^ (rStep M f - 1) ≠ 0 := fun z => c (hmo.mpr ⟨hr, z⟩)
          rw [decide_eq_true this]; rfl
        · rfl
    have eup : ∀ b : Bool, awy m (decide (¬ half = 0)) (decide (¬ more = 0)) below way = b → rUp M rest below way f = b := by
      intro b hb
      unfold rUp
      rw [hmd, eh, em]; exact hb
    rw [odd]
    refine ⟨fun nw => ⟨fun a => ?_, fun a => ⟨fun b => ?_, fun b => ⟨fun c => ?_, fun c => ?_⟩⟩⟩, fun yw => ⟨fun a => ?_, fun a => ⟨fun b => ?_, fun b => ⟨fun c => ?_, fun c => ?_⟩⟩⟩⟩
    · refine g234 hi 0 away hhi ⟨fun _ => eup false ?_, fun _ => rfl⟩ bz0 haw
      have naw := haw.mp a
      unfold awy
      rcases hw4 with z | z | z | z
      · exact absurd z nw
      · rw [if_neg nw, if_neg (by rw [z]; decide), if_neg (by rw [z]; decide)]
      · rw [if_neg nw, if_pos z]
        cases below
        · exact absurd z naw
        · rfl
      · rw [if_neg nw, if_neg (by rw [z]; decide), if_pos z]
        cases below
        · rfl
        · exact absurd z naw
    · refine g234 hi 1 away hhi ⟨fun z => absurd z n10, fun z => ?_⟩ bz1 haw
      exfalso
      have yaw : way = (if below then 3 else 2) := Decidable.byContradiction (fun y => a (haw.mpr y))
      have := eup true (by
        unfold awy
        rw [dT b, if_neg nw]
        cases below
        · have yaw : way = 2 := yaw
          rw [if_pos yaw]; rfl
        · have yaw : way = 3 := yaw
          rw [if_neg (by rw [yaw]; decide), if_pos yaw]; rfl)
      rw [this] at z; exact absurd z (by decide)
    · refine g234 hi 0 away hhi ⟨fun _ => eup false ?_, fun _ => rfl⟩ bz0 haw
      unfold awy
      rw [dF b, dF c, if_neg nw]
      cases below <;> simp
    · refine g234 hi 1 away hhi ⟨fun z => absurd z n10, fun z => ?_⟩ bz1 haw
      exfalso
      have yaw : way = (if below then 3 else 2) := Decidable.byContradiction (fun y => a (haw.mpr y))
      have := eup true (by
        unfold awy
        rw [dF b, dT c, if_neg nw]
        cases below
        · have yaw : way = 2 := yaw
          rw [if_pos yaw]; rfl
        · have yaw : way = 3 := yaw
          rw [if_neg (by rw [yaw]; decide), if_pos yaw]; rfl)
      rw [this] at z; exact absurd z (by decide)
    · refine g234 hi 0 away hhi ⟨fun _ => eup false ?_, fun _ => rfl⟩ bz0 haw
      unfold awy
      rw [dF a, if_pos yw]; rfl
    · refine g234 hi 1 away hhi ⟨fun z => absurd z n10, fun z => ?_⟩ bz1 haw
      exfalso
      have := eup true (by unfold awy; rw [dT a, dT b, if_pos yw]; rfl)
      rw [this] at z; exact absurd z (by decide)
    · refine g234 hi 0 away hhi ⟨fun _ => eup false ?_, fun _ => rfl⟩ bz0 haw
      unfold awy
      rw [dT a, dF b, if_pos yw, beq_eq_false_iff_ne.mpr c]; rfl
    · refine g234 hi 1 away hhi ⟨fun z => absurd z n10, fun z => ?_⟩ bz1 haw
      exfalso
      have := eup true (by unfold awy; rw [dT a, dF b, if_pos yw, c]; rfl)
      rw [this] at z; exact absurd z (by decide)
  have g152 : ∀ (hi half more : Int32), hi.toInt = (bl M : Int) - 1 → (half = 0 ↔ ¬ M / 2 ^ (rStep M f - 1) % 2 = 1) → (more = 0 ↔ (rest = false ∧ M % 2 ^ (rStep M f - 1) = 0)) → w_X5_rounded_152 Q way bits en hi (nI (rStep M f)) (lN m) half more σ := by
    intro hi half more hhi hh hmo
    have bf : ∀ {p : Prop}, below = false → ¬ below = true := fun a b => by rw [a] at b; exact absurd b (by decide)
    have g176 : way = (if below then 3 else 2) → w_X5_rounded_176 Q way bits en hi (nI (rStep M f)) (lN m) half more σ := fun z => by
      unfold w_X5_rounded_176
      exact g181 hi half more 1 hhi hh hmo ⟨fun y => absurd y n10, fun y => absurd z y⟩
    have g180 : ¬ way = (if below then 3 else 2) → w_X5_rounded_180 Q way bits en hi (nI (rStep M f)) (lN m) half more σ := fun z => by
      unfold w_X5_rounded_180
      exact g181 hi half more 0 hhi hh hmo ⟨fun _ => z, fun _ => rfl⟩
    have g164 : ¬ (way = 2 ∧ below = false) → w_X5_rounded_164 Q way bits en hi (nI (rStep M f)) (lN m) half more σ := by
      intro z
      unfold w_X5_rounded_164
      refine ⟨fun y => g180 ?_, fun y => ⟨fun w => g180 ?_, fun w => g176 ?_⟩⟩
      · cases hbb : below
        · rw [if_neg (by decide)]; exact fun w => z ⟨w, hbb⟩
        · rw [if_pos rfl]; exact y
      · rw [e20.mp w, if_neg (by decide), y]; decide
      · cases hbb : below
        · exact absurd (e20.mpr hbb) w
        · rw [if_pos rfl]; exact y
    unfold w_X5_rounded_152
    refine ⟨fun y => g164 (fun z => y z.1), fun y => ⟨fun w => g176 ?_, fun w => g164 (fun z => w (e20.mpr z.2))⟩⟩
    rw [e20.mp w, if_neg (by decide)]; exact y
  have ep : nI (rStep M f) - (1 : Int32) = nI (rStep M f - 1) := pk_sub (b := 1) (by omega)
  have g115 : ∀ (hi half : Int32), hi.toInt = (bl M : Int) - 1 → (half = 0 ↔ ¬ M / 2 ^ (rStep M f - 1) % 2 = 1) → w_X5_rounded_104 Q way bits en hi (nI (rStep M f)) (lN m) half σ := by
    intro hi half hhi hh
    have loop : ∀ (d k : Nat) (more : Int32), k + d = rStep M f - 1 → rest = false → (more = 0 → M % 2 ^ k = 0) → (¬ more = 0 → M % 2 ^ (rStep M f - 1) ≠ 0) → w_X5_rounded_115 Q (d + 1) way bits en hi (nI (rStep M f)) (lN m) half more (nI k) σ := by
      intro d
      induction d with
      | zero =>
        intro k more hk hr h1 h2
        have : k = rStep M f - 1 := by omega
        subst this
        rw [w_X5_rounded_115, ep]
        refine ⟨fun _ => g152 hi half more hhi hh ⟨fun z => ⟨hr, h1 z⟩, fun z => ?_⟩, fun q => absurd (Int32.le_refl _) q⟩
        exact Decidable.byContradiction (fun y => h2 y z.2)
      | succ d ih =>
        intro k more hk hr h1 h2
        rw [w_X5_rounded_115, ep]
        refine ⟨fun q => ?_, fun _ => ⟨fun z => g152 hi half more hhi hh ⟨fun y => absurd y z, fun y => absurd y.2 (h2 z)⟩, fun z => s_bitAtR (by omega) hM hL ?_⟩⟩
        · have := (nI_leI (a := rStep M f - 1) (b := k) (by omega) (by omega)).mp q
          omega
        · have hz := h1 z
          have hstep : M % 2 ^ (k + 1) = M % 2 ^ k + 2 ^ k * (M / 2 ^ k % 2) := Nat.mod_pow_succ
          rw [hz, Nat.zero_add] at hstep
          refine ⟨fun q => ?_, fun q => ?_⟩
          · rintro y13 rfl
            have e0 : M / 2 ^ k % 2 = 0 := by
              have : ¬ M / 2 ^ k % 2 = 1 := fun y => q (by rw [y]; rfl)
              omega
            rw [nI_1]
            exact ih (k + 1) 0 (by omega) hr (fun _ => by rw [hstep, e0, Nat.mul_zero]) (fun y => absurd rfl y)
          · rintro y14 rfl
            have e1 : M / 2 ^ k % 2 = 1 := (nI_eq (b := 1) (by omega) (by decide)).mp q
            rw [nI_1]
            refine ih (k + 1) 1 (by omega) hr (fun y => absurd y n10) (fun _ y => ?_)
            have hdv : 2 ^ (k + 1) ∣ 2 ^ (rStep M f - 1) := Nat.pow_dvd_pow 2 (by omega)
            have : M % 2 ^ (k + 1) = 0 := by rw [← Nat.mod_mod_of_dvd _ hdv, y, Nat.zero_mod]
            rw [hstep, e1, Nat.mul_one] at this
            exact absurd this (Nat.ne_of_gt (Nat.two_pow_pos _))
    unfold w_X5_rounded_104
    rintro y5 rfl
    by_cases hr : rest = false
    · have z := e21.mpr hr
      exact ⟨_, loop (rStep M f - 1) 0 (gI σ 0 21) (by omega) hr (fun _ => by rw [Nat.pow_zero, Nat.mod_one]) (fun y => absurd z y)⟩
    · have nz : ¬ gI σ 0 21 = 0 := fun z => hr (e21.mp z)
      refine ⟨1, ?_⟩
      have fin := g152 hi half (gI σ 0 21) hhi hh ⟨fun y => absurd y nz, fun y => absurd y.1 hr⟩
      rw [w_X5_rounded_115]
      exact ⟨fun _ => fin, fun _ => ⟨fun _ => fin, fun z => absurd z nz⟩⟩
  have g49 : ∀ hi : Int32, hi.toInt = (bl M : Int) - 1 → w_X5_rounded_49 Q way bits en hi (nI (rStep M f)) σ := by
    intro hi hhi
    unfold w_X5_rounded_49
    have kr : (nI (rStep M f)).toInt = (rStep M f : Int) := nI_toInt (by omega)
    have last : ∀ k : Int32, k.toInt < (rStep M f : Int) → w_X5_rounded_58 Q 1 way bits en hi (nI (rStep M f)) (lN m) k σ := by
      intro k hk
      rw [w_X5_rounded_58]
      refine ⟨fun _ => ?_, fun z => absurd (i_lt.mpr (by rw [kr]; exact hk)) z⟩
      rw [ep]
      refine s_bitAtR (by omega) hM hL ?_
      show _ ∧ _
      refine ⟨fun q => g115 hi 0 hhi ⟨fun _ z => q (by rw [z]; rfl), fun _ => rfl⟩, fun q => g115 hi 1 hhi ⟨fun z => absurd z n10, fun z => absurd ((nI_eq (b := 1) (by omega) (by decide)).mp q) z⟩⟩
    have loop : ∀ (d : Nat), w_X5_rounded_58 Q (d + 1) way bits en hi (nI (rStep M f)) (lN (M / 2 ^ (rStep M f + d))) (nI (rStep M f + d) + -1) σ ∨ 4800 < rStep M f + d := by
      intro d
      by_cases hc : 4800 < rStep M f + d
      · exact Or.inr hc
      · left
        revert hc
        induction d with
        | zero =>
          intro hc
          have e0 : rStep M f + 0 = rStep M f := Nat.add_zero _
          rw [e0, hmd]
          refine last _ ?_
          have : nI (rStep M f) + (-1 : Int32) = nI (rStep M f - 1) := nI_m (k := 1) (by decide) (by omega) (by omega)
          rw [this, nI_toInt (by omega)]; omega
        | succ d ih =>
          intro hc
          have e1 : nI (rStep M f + (d + 1)) + (-1 : Int32) = nI (rStep M f + d) := nI_dn (rStep M f + d) (by omega)
          rw [e1, w_X5_rounded_58]
          refine ⟨fun z => ?_, fun _ => s_bitAtR (by omega) hM hL ?_⟩
          · have := (nI_ltI (a := rStep M f + d) (b := rStep M f) (by omega) (by omega)).mp z
            omega
          · rintro y18 rfl y19 rfl
            have hx : M / 2 ^ (rStep M f + d) = 2 * (M / 2 ^ (rStep M f + (d + 1))) + M / 2 ^ (rStep M f + d) % 2 := by
              have : M / 2 ^ (rStep M f + (d + 1)) = M / 2 ^ (rStep M f + d) / 2 := by
                rw [Nat.div_div_eq_div_mul, ← Nat.pow_succ]; rfl
              rw [this]; omega
            have e2 : (2 : Int64) * lN (M / 2 ^ (rStep M f + (d + 1))) + (nI (M / 2 ^ (rStep M f + d) % 2)).toInt64 = lN (M / 2 ^ (rStep M f + d)) := by
              rw [show (2 : Int64) = lN 2 from rfl, nI_l (by omega), lN_mul, lN_add, ← hx]
            rw [e2]
            exact ih (by omega)
    by_cases hge : rStep M f ≤ bl M
    · rcases loop (bl M - rStep M f) with z | z
      · have e0 : M / 2 ^ (rStep M f + (bl M - rStep M f)) = 0 := by
          rw [show rStep M f + (bl M - rStep M f) = bl M by omega]
          exact Nat.div_eq_of_lt (bl_hi M)
        have e1 : nI (rStep M f + (bl M - rStep M f)) + (-1 : Int32) = hi := by
          refine i_ext ?_
          rw [show rStep M f + (bl M - rStep M f) = bl M by omega, i_add (by rw [km1, nI_toInt (by omega)]; omega) (by rw [km1, nI_toInt (by omega)]; omega), km1, nI_toInt (by omega), hhi]; omega
        rw [e0, e1] at z
        exact ⟨_, z⟩
      · omega
    · have m0 : m = 0 := by
        rw [← hmd]
        exact Nat.div_eq_of_lt (bl_le.mp (by omega))
      have := last hi (by omega)
      rw [m0] at this
      exact ⟨1, this⟩
  unfold w_X5_rounded
  refine s_highestR hM hL (fun hi hhi => ?_)
  have g21 : w_X5_rounded_21 Q way bits least en hi σ := by
    unfold w_X5_rounded_21
    have e1 : (hi - bits).toInt = (bl M : Int) - 1 - rBits f := by rw [i_sub (by omega) (by omega), hhi, kb]
    have e2 : (hi - bits + 1).toInt = (bl M : Int) - rBits f := by rw [i_add (by rw [t1]; omega) (by rw [t1]; omega), e1, t1]; omega
    have e3 : (least + (2148 : Int32)).toInt = (rLeast f : Int) := by rw [i_add (by omega) (by omega), hl, k2148]; omega
    refine ⟨fun z => ?_, fun z => ?_⟩
    · rw [i_le, e2, e3] at z
      have : least + (2148 : Int32) = nI (rStep M f) := i_of (by rw [e3]; unfold rStep; omega) (by omega)
      rw [this]; exact g49 hi hhi
    · rw [i_le, e2, e3] at z
      have : hi - bits + (1 : Int32) = nI (rStep M f) := i_of (by rw [e2]; unfold rStep; omega) (by omega)
      rw [this]; exact g49 hi hhi
  refine ⟨fun _ => g21, fun z => ⟨fun _ => g21, fun y => ?_⟩⟩
  have hM0 : M = 0 := by
    have : hi.toInt = -1 := by rw [z]; rfl
    rcases Nat.eq_zero_or_pos M with g | g
    · exact g
    · have := bl_pos g
      omega
  have hr := e21.mp y
  have : rnd M rest below way f = U false 0 := by
    unfold rnd finV
    rw [if_pos]
    have hup : rUp M rest below way f = false := by
      unfold rUp
      rw [hM0, hr, Nat.zero_div, Nat.zero_div, Nat.zero_mod, Nat.zero_mod]
      unfold awy
      cases below <;> simp
    rw [hup, hM0, Nat.zero_div]; rfl
  rw [this] at h
  rw [u_zero]; exact h
