/-! what the reference tells of its sums -/
theorem s_endlessBy {m : Nat} {Q : UInt64 → St → Prop} {σ : St} (hm : m < 4) (h : Q (if m = 1 then dInf else if m = 2 then dMinf else U false 0) σ) : w_X5_endlessBy Q (nI m) σ := by
  unfold w_X5_endlessBy
  have d1 : nI m = 1 ↔ m = 1 := nI_eq (b := 1) (by omega) (by decide)
  have d2 : nI m = 2 ↔ m = 2 := nI_eq (b := 2) (by omega) (by decide)
  rw [d1, d2]
  refine ⟨fun a => ⟨fun b => ?_, fun b => ?_⟩, fun a => ?_⟩
  · rw [if_neg a, if_neg b] at h
    rw [u_zero]; exact h
  · rw [if_neg a, if_pos b] at h; exact h
  · rw [if_pos a] at h; exact h
theorem share_no {K : KpA} {n : Nat} {way : Int32} {f : Bool} (h : sortK K.2.2 ≠ 0) : shareV K n way f = if sortK K.2.2 = 1 then dInf else if sortK K.2.2 = 2 then dMinf else U false 0 := by
  have := sortK_lt K.2.2
  unfold shareV
  by_cases a : sortK K.2.2 = 1
  · rw [if_pos a, if_pos a]
  · by_cases b : sortK K.2.2 = 2
    · rw [if_neg a, if_pos b, if_neg a, if_pos b]
    · rw [if_neg a, if_neg b, if_neg a, if_neg b, if_pos (by omega)]
theorem share_num {K : KpA} {n : Nat} {way : Int32} {f : Bool} (h : sortK K.2.2 = 0) : shareV K n way f = rnd (K.2.1.natAbs / n) (decide (K.2.1.natAbs % n ≠ 0)) (decide (K.2.1 < 0)) way f := by
  unfold shareV
  rw [if_neg (by omega), if_neg (by omega), if_neg (by omega)]
theorem min_flag {σ : St} {N : Int} (h : gI σ 0 20 = (if N < 0 then 1 else 0)) : gI σ 0 20 = 0 ↔ decide (N < 0) = false := by
  rw [h]
  by_cases c : N < 0
  · rw [if_pos c, decide_eq_true c]; exact ⟨fun z => absurd z n10, fun z => absurd z (by decide)⟩
  · rw [if_neg c, decide_eq_false c]; exact ⟨fun _ => rfl, fun _ => rfl⟩
theorem rnd_53 {M : Nat} {way : Int32} {rest below : Bool} {Q : UInt64 → St → Prop} {σ : St} (hM : M < 2 ^ (32 * 150)) (hL : HV (gI σ 13) M) (hw : 0 ≤ way.toInt ∧ way.toInt ≤ 3) (e20 : gI σ 0 20 = 0 ↔ below = false) (e21 : gI σ 0 21 = 0 ↔ rest = false) (h : Q (rnd M rest below way false) σ) : w_X5_rounded Q way 53 (-1074) 1024 σ :=
  s_roundedR (f := false) hM hL hw.1 hw.2 e20 e21 rfl (by decide) (by decide) h
theorem rnd_24 {M : Nat} {way : Int32} {rest below : Bool} {Q : UInt64 → St → Prop} {σ : St} (hM : M < 2 ^ (32 * 150)) (hL : HV (gI σ 13) M) (hw : 0 ≤ way.toInt ∧ way.toInt ≤ 3) (e20 : gI σ 0 20 = 0 ↔ below = false) (e21 : gI σ 0 21 = 0 ↔ rest = false) (h : Q (rnd M rest below way true) σ) : w_X5_rounded Q way 24 (-149) 128 σ :=
  s_roundedR (f := true) hM hL hw.1 hw.2 e20 e21 rfl (by decide) (by decide) h
theorem s_tellR {A : AS} {N : Nat} {x1 x2 x3 : Int32} {Q : UInt64 → St → Prop} {σ : St} (hR : RR A σ) (ho : OK N A) (hN : N ≤ 512) (h : ∀ σ', RR A σ' → Q (t_tell A x1 x2 x3) σ') : w_X5_tell Q x1 x2 x3 σ := by
  unfold w_X5_tell
  unfold t_tell at h
  rintro σ1 rfl
  have hR := hR.thr
  generalize uI σ 0 0 0 = σ at hR ⊢
  have bad : ¬ (isK x1 ∧ (A.2.1 (ix x1)).1 ≠ -1 ∧ (0 ≤ x2.toInt ∧ x2.toInt ≤ 3)) → Q FP.dconst0 σ := by
    intro c
    rw [if_neg c] at h
    rw [u_zero]; exact h σ hR
  have c0 : (0 : Int64).toInt = 0 := by decide
  have c3 : (3 : Int64).toInt = 3 := by decide
  refine s_isKeeperR (fun c1 => ⟨fun z => absurd z n10, fun _ => s_in (fun q => ⟨fun z => absurd z n10, fun _ => ?_⟩) (fun q => ⟨fun _ => bad ?_, fun z => absurd rfl z⟩)⟩) (fun c1 => ⟨fun _ => bad (fun z => c1 z.1), fun z => absurd rfl z⟩)
  · rw [i2l_toInt, c0, c3] at q
    obtain ⟨e1, l1⟩ := isK_nI c1
    have hK := hR.2.1 _ l1
    rw [hK.gone]
    refine ⟨by rw [e1]; exact in_nI (by omega) (by decide), fun g => ?_, fun g => bad (fun z => z.2.1 g)⟩
    rw [if_pos ⟨c1, g, q⟩] at h
    have b := (ho.2.1 _ l1).rng hN
    have hl := sortK_lt (A.2.1 (ix x1)).2.2
    rw [e1]
    refine s_sortOfK l1 hK ⟨fun z => ?_, fun z => ?_⟩
    · have z0 : sortK (A.2.1 (ix x1)).2.2 = 0 := (nI_eq (b := 0) (by omega) (by decide)).mp z
      rw [share_num z0, Nat.div_one, Nat.mod_one] at h
      refine s_take l1 hK b (fun σ9 tk => ?_)
      obtain ⟨f, hv, h20, h21⟩ := tk
      have h := h σ9 (hR.scr f)
      have e21 : gI σ9 0 21 = 0 ↔ decide ((0 : Nat) ≠ 0) = false := ⟨fun _ => rfl, fun _ => h21⟩
      refine ⟨fun y => ?_, fun y => ?_⟩
      · rw [dF y] at h
        exact rnd_53 (p4800 b.1 b.2) hv q (min_flag h20) e21 h
      · rw [dT y] at h
        exact rnd_24 (p4800 b.1 b.2) hv q (min_flag h20) e21 h
    · have z0 : sortK (A.2.1 (ix x1)).2.2 ≠ 0 := fun y => z (by rw [y]; rfl)
      rw [share_no z0] at h
      exact s_endlessBy hl (h σ hR)
  · rw [i2l_toInt, c0, c3] at q; rintro ⟨-, -, a⟩; exact q a
theorem s_meanLoop {M n : Nat} {way : Int32} {Q : UInt64 → St → Prop} {τ : St} {S : Nat → Int32} (hn : 1 ≤ n) (hn2 : n ≤ 1000000) (hM : M < 2 ^ (32 * 150)) (hS : HV S M) (h : ∀ S' s0, HV S' (M / n) → bz s0 → (s0 = 0 ↔ M % n = 0) → w_X5_rounded (fun r σ => Q r σ) way 53 (-1074) 1024 (uI (wI τ 13 S') 0 21 s0)) : ∃ fu, w_X5_mean_80 Q fu (nI n) way 0 151 (wI τ 13 S) := by
  have en : (nI n).toInt64 = lN n := nI_l (by omega)
  have fin : ∀ S', HV S' (M / n) → ∀ r : Nat, r = M % n → ∀ x4 : Int32, x4 < 0 → w_X5_mean_80 Q 1 (nI n) way (lN r) x4 (wI τ 13 S') := by
    rintro S' hS' r rfl x4 hx
    have hr := Nat.mod_lt M (show 0 < n by omega)
    rw [w_X5_mean_80]
    have e0 : lN (M % n) = 0 ↔ M % n = 0 := pk_lEQ (b := 0) (by omega) (by decide)
    rw [e0]
    refine ⟨fun _ => ⟨fun z => ?_, fun z => ?_⟩, fun z => absurd hx z⟩ <;> unfold w_X5_mean_144
    · refine ⟨bz0, ?_⟩
      rintro σ12 rfl
      exact h S' 0 hS' bz0 ⟨fun _ => z, fun _ => rfl⟩
    · refine ⟨bz1, ?_⟩
      rintro σ12 rfl
      exact h S' 1 hS' bz1 ⟨fun y => absurd y n10, fun y => absurd y z⟩
  have loop : ∀ (i : Nat) (S' : Nat → Int32), i < 152 → (∀ j, i < j → j < 152 → (S' j).toInt % 4294967296 = ((M / n / 2 ^ (32 * j) % 2 ^ 32 : Nat) : Int)) → (∀ j, j ≤ i → (S' j).toInt % 4294967296 = ((M / 2 ^ (32 * j) % 2 ^ 32 : Nat) : Int)) → w_X5_mean_80 Q (i + 2) (nI n) way (lN (M / 2 ^ (32 * (i + 1)) % n)) (nI i) (wI τ 13 S') := by
    intro i
    have body : ∀ (i N : Nat) (S' : Nat → Int32), i < 152 → (∀ j, j ≤ i → (S' j).toInt % 4294967296 = ((M / 2 ^ (32 * j) % 2 ^ 32 : Nat) : Int)) → (∀ w : Int32, w.toInt % 4294967296 = ((M / n / 2 ^ (32 * i) % 2 ^ 32 : Nat) : Int) → w_X5_mean_80 Q N (nI n) way (lN (M / 2 ^ (32 * i) % n)) (nI i + -1) (wI τ 13 (upd S' i w))) → w_X5_mean_80 Q (N + 1) (nI n) way (lN (M / 2 ^ (32 * (i + 1)) % n)) (nI i) (wI τ 13 S') := by
      intro i N S' hi ha hk
      rw [w_X5_mean_80]
      have hin : vp_in (nI i) 152 := in_nI hi (by decide)
      refine ⟨fun z => absurd z (nI_pos (by omega)), fun _ => ⟨hin, ?_⟩⟩
      rintro y2 rfl
      obtain ⟨m, hm, e1, e2⟩ := low_nat (S' i)
      have hmd : m = M / 2 ^ (32 * i) % 2 ^ 32 := by
        have := ha i (Nat.le_refl _)
        rw [e2] at this
        exact Int.ofNat_inj.mp this
      rw [gI_wI_eq, ix_nI (by omega), e1, show (32 : Int32) = nI 32 from rfl, lshl_N _ (by decide), en]
      have hr := Nat.mod_lt (M / 2 ^ (32 * (i + 1))) (show 0 < n by omega)
      have hdd := dv_digit (M := M) (n := n) (i := i) (by omega)
      rw [← hmd] at hdd
      rw [g_or (k := 32) rfl (show m < 2 ^ 32 by omega) (by omega)]
      have hb : M / 2 ^ (32 * (i + 1)) % n * 2 ^ 32 + m < 2 ^ 63 := by omega
      have n0 : ¬ lN n = 0 := fun z => by
        have := (pk_lEQ (b := 0) (by omega) (by decide)).mp z
        omega
      refine ⟨n0, hin, ?_⟩
      rintro σ4 rfl
      refine ⟨n0, ?_⟩
      rintro y5 rfl y6 rfl
      rw [pk_lDiv hb (by omega) (by omega), hdd.1, uI_w, wI_wI, gI_wI_eq, l2i_N]
      have hrem := pk_lRem (b := n) hb (by omega) (by omega)
      rw [pk_lDiv hb (by omega) (by omega), hdd.1, hdd.2] at hrem
      rw [hrem]
      refine hk _ ?_
      rw [nI_mod32]; omega
    induction i with
    | zero =>
      intro S' hi hb ha
      refine body 0 1 S' hi ha (fun w hw => ?_)
      refine fin _ (fun j hj => ?_) _ (by rw [Nat.mul_zero, Nat.pow_zero, Nat.div_one]) _ (by decide)
      by_cases c : j = 0
      · rw [c, upd_eq]; exact hw
      · rw [upd_ne c]; exact hb j (by omega) hj
    | succ i ih =>
      intro S' hi hb ha
      refine body (i + 1) (i + 2) S' hi ha (fun w hw => ?_)
      rw [nI_dn _ (by omega)]
      refine ih _ (by omega) (fun j hj hj2 => ?_) (fun j hj => ?_)
      · by_cases c : j = i + 1
        · rw [c, upd_eq]; exact hw
        · rw [upd_ne c]; exact hb j (by omega) hj2
      · rw [upd_ne (by omega)]; exact ha j (by omega)
  have e0 : M / 2 ^ (32 * (151 + 1)) % n = 0 := by
    have : M < 2 ^ (32 * (151 + 1)) := Nat.lt_of_lt_of_le hM (Nat.pow_le_pow_right (by decide) (by decide))
    rw [Nat.div_eq_of_lt this, Nat.zero_mod]
  have key := loop 151 S (by omega) (fun j hj hj2 => by omega) (fun j hj => hS j (by omega))
  rw [e0] at key
  exact ⟨153, key⟩
theorem s_meanR {A : AS} {N : Nat} {x1 x2 x3 : Int32} {Q : UInt64 → St → Prop} {σ : St} (hR : RR A σ) (ho : OK N A) (hN : N ≤ 512) (h : ∀ σ', RR A σ' → Q (t_mean A x1 x2 x3) σ') : w_X5_mean Q x1 x2 x3 σ := by
  unfold w_X5_mean
  unfold t_mean at h
  rintro σ1 rfl
  have hR := hR.thr
  generalize uI σ 0 0 0 = σ at hR ⊢
  have bad : ¬ (isK x1 ∧ (A.2.1 (ix x1)).1 ≠ -1 ∧ (0 ≤ x3.toInt ∧ x3.toInt ≤ 3) ∧ (1 ≤ x2.toInt ∧ x2.toInt ≤ 1000000)) → Q FP.dconst0 σ := by
    intro c
    rw [if_neg c] at h
    rw [u_zero]; exact h σ hR
  have c0 : (0 : Int64).toInt = 0 := by decide
  have c3 : (3 : Int64).toInt = 3 := by decide
  have d1 : (1 : Int64).toInt = 1 := by decide
  have dm : (1000000 : Int64).toInt = 1000000 := by decide
  refine s_isKeeperR (fun c1 => ⟨fun z => absurd z n10, fun _ => s_in (fun q => ⟨fun z => absurd z n10, fun _ => ?_⟩) (fun q => ⟨fun _ => bad ?_, fun z => absurd rfl z⟩)⟩) (fun c1 => ⟨fun _ => bad (fun z => c1 z.1), fun z => absurd rfl z⟩)
  · rw [i2l_toInt, c0, c3] at q
    obtain ⟨e1, l1⟩ := isK_nI c1
    have hK := hR.2.1 _ l1
    rw [hK.gone]
    refine ⟨by rw [e1]; exact in_nI (by omega) (by decide), fun g => bad (fun z => z.2.1 g), fun g => ?_⟩
    refine s_in (fun w => ⟨fun _ => ?_, fun z => absurd z n10⟩) (fun w => ⟨fun z => absurd rfl z, fun _ => bad ?_⟩)
    · rw [i2l_toInt, d1, dm] at w
      rw [if_pos ⟨c1, g, q, w⟩] at h
      have b := (ho.2.1 _ l1).rng hN
      have hl := sortK_lt (A.2.1 (ix x1)).2.2
      have i2 : (ix x2 : Int) = x2.toInt := by rw [ix_toInt]; omega
      have e2 : x2 = nI (ix x2) := i_of (by omega) (by omega)
      rw [e1]
      refine s_sortOfK l1 hK ⟨fun z => ?_, fun z => ?_⟩
      · have z0 : sortK (A.2.1 (ix x1)).2.2 = 0 := (nI_eq (b := 0) (by omega) (by decide)).mp z
        rw [share_num z0] at h
        refine s_take l1 hK b (fun σ9 tk => ?_)
        obtain ⟨f, hv, h20, h21⟩ := tk
        have hM := p4800 b.1 b.2
        have key := s_meanLoop (Q := Q) (τ := σ9) (way := x3) (S := gI σ9 13) (n := ix x2) (by omega) (by omega) hM hv (fun S' s0 hS' hz hs => by
          have F : Fr [] σ (uI (wI σ9 13 S') 0 21 s0) := (f.tr (fr_w (by decide))).tr (fr_u (by decide))
          have g13 : gI (uI (wI σ9 13 S') 0 21 s0) 13 = S' := by rw [uI_w, gI_wI_ne (by decide), gI_wI_eq]
          have g20 : gI (uI (wI σ9 13 S') 0 21 s0) 0 20 = gI σ9 0 20 := by rw [uI_w, gI_wI_eq, upd_ne (by decide), gI_wI_ne (by decide)]
          have g21 : gI (uI (wI σ9 13 S') 0 21 s0) 0 21 = s0 := by rw [uI_w, gI_wI_eq, upd_eq]
          refine rnd_53 (M := (A.2.1 (ix x1)).2.1.natAbs / ix x2) (rest := decide ((A.2.1 (ix x1)).2.1.natAbs % ix x2 ≠ 0)) (below := decide ((A.2.1 (ix x1)).2.1 < 0)) (Nat.lt_of_le_of_lt (Nat.div_le_self _ _) hM) (by rw [g13]; exact hS') q (by rw [g20]; exact min_flag h20) ?_ (h _ (hR.scr F))
          rw [g21, hs]
          by_cases c : (A.2.1 (ix x1)).2.1.natAbs % ix x2 = 0
          · rw [decide_eq_false (fun y : (A.2.1 (ix x1)).2.1.natAbs % ix x2 ≠ 0 => y c)]; exact ⟨fun _ => rfl, fun _ => c⟩
          · rw [decide_eq_true c]; exact ⟨fun y => absurd y c, fun y => absurd y (by decide)⟩)
        rw [wI_self, ← e2] at key
        exact key
      · have z0 : sortK (A.2.1 (ix x1)).2.2 ≠ 0 := fun y => z (by rw [y]; rfl)
        rw [share_no z0] at h
        exact s_endlessBy hl (h σ hR)
    · rw [i2l_toInt, d1, dm] at w; rintro ⟨-, -, -, a⟩; exact w a
  · rw [i2l_toInt, c0, c3] at q; rintro ⟨-, -, a, -⟩; exact q a
theorem s_signR {A : AS} {N : Nat} {x1 : Int32} {Q : Int32 → St → Prop} {σ : St} (hR : RR A σ) (ho : OK N A) (hN : N ≤ 512) (h : ∀ σ', RR A σ' → Q (t_sign A x1) σ') : w_X5_sign Q x1 σ := by
  unfold w_X5_sign
  unfold t_sign at h
  rintro σ1 rfl
  have hR := hR.thr
  generalize uI σ 0 0 0 = σ at hR ⊢
  refine s_isKeeperR (fun c1 => ⟨fun _ => ?_, fun z => absurd z n10⟩) (fun c1 => ⟨fun z => absurd rfl z, fun _ => by rw [if_neg c1] at h; exact h σ hR⟩)
  rw [if_pos c1] at h
  obtain ⟨e1, l1⟩ := isK_nI c1
  have hK := hR.2.1 _ l1
  rw [hK.gone]
  refine ⟨by rw [e1]; exact in_nI (by omega) (by decide), fun g => ?_, fun g => by rw [if_pos g] at h; exact h σ hR⟩
  rw [if_neg g] at h
  have b := (ho.2.1 _ l1).rng hN
  rw [e1]
  refine s_take l1 hK b (fun σ9 tk => ?_)
  obtain ⟨f, hv, h20, h21⟩ := tk
  have h := h σ9 (hR.scr f)
  refine s_highestR (p4800 b.1 b.2) hv (fun e he => ?_)
  have hm := min_flag h20
  have em : e = -1 ↔ (A.2.1 (ix x1)).2.1 = 0 := by
    have hz : e.toInt = -1 ↔ e = -1 := ⟨fun z => i_ext z, fun z => by rw [z]; rfl⟩
    rw [← hz, he]
    refine ⟨fun z => ?_, fun z => ?_⟩
    · rcases Nat.eq_zero_or_pos (A.2.1 (ix x1)).2.1.natAbs with y | y
      · omega
      · have := bl_pos y
        omega
    · rw [z]; decide
  rw [em, hm]
  refine ⟨fun z => ⟨fun y => ?_, fun y => ?_⟩, fun z => ?_⟩
  · rw [if_neg (of_decide_eq_false y), if_neg z] at h; exact h
  · rw [if_pos (Decidable.byContradiction (fun w => y (decide_eq_false w)))] at h; exact h
  · rw [if_neg (by omega), if_pos z] at h; exact h
theorem s_highR {A : AS} {N : Nat} {x1 : Int32} {Q : Int32 → St → Prop} {σ : St} (hR : RR A σ) (ho : OK N A) (hN : N ≤ 512) (h : ∀ σ', RR A σ' → Q (t_high A x1) σ') : w_X5_high Q x1 σ := by
  unfold w_X5_high
  unfold t_high at h
  rintro σ1 rfl
  have hR := hR.thr
  generalize uI σ 0 0 0 = σ at hR ⊢
  refine s_isKeeperR (fun c1 => ⟨fun _ => ?_, fun z => absurd z n10⟩) (fun c1 => ⟨fun z => absurd rfl z, fun _ => by rw [if_neg c1] at h; exact h σ hR⟩)
  rw [if_pos c1] at h
  obtain ⟨e1, l1⟩ := isK_nI c1
  have hK := hR.2.1 _ l1
  rw [hK.gone]
  refine ⟨by rw [e1]; exact in_nI (by omega) (by decide), fun g => ?_, fun g => by rw [if_pos g] at h; exact h σ hR⟩
  rw [if_neg g] at h
  have b := (ho.2.1 _ l1).rng hN
  rw [e1]
  refine s_take l1 hK b (fun σ9 tk => ?_)
  obtain ⟨f, hv, h20, h21⟩ := tk
  have h := h σ9 (hR.scr f)
  have hM := p4800 b.1 b.2
  have hb := bl_le.mpr hM
  refine s_highestR hM hv (fun e he => ?_)
  have k2148 : (2148 : Int32).toInt = 2148 := by decide
  have k2149 : (2149 : Int32).toInt = 2149 := by decide
  have em : e = -1 ↔ (A.2.1 (ix x1)).2.1 = 0 := by
    have hz : e.toInt = -1 ↔ e = -1 := ⟨fun z => i_ext z, fun z => by rw [z]; rfl⟩
    rw [← hz, he]
    refine ⟨fun z => ?_, fun z => ?_⟩
    · rcases Nat.eq_zero_or_pos (A.2.1 (ix x1)).2.1.natAbs with y | y
      · omega
      · have := bl_pos y
        omega
    · rw [z]; decide
  rw [em]
  refine ⟨fun z => ?_, fun z => ?_⟩
  · rw [if_neg z] at h
    have e2 : e - (2148 : Int32) = nI (bl (A.2.1 (ix x1)).2.1.natAbs) - 2149 := by
      refine i_ext ?_
      have e3 : (nI (bl (A.2.1 (ix x1)).2.1.natAbs)).toInt = (bl (A.2.1 (ix x1)).2.1.natAbs : Int) := nI_toInt (by omega)
      rw [i_sub (by omega) (by omega), i_sub (by omega) (by omega), he, e3, k2148, k2149]; omega
    rw [e2]; exact h
  · rw [if_pos z] at h; exact h
theorem s_bitR {A : AS} {N : Nat} {x1 x2 : Int32} {Q : Int32 → St → Prop} {σ : St} (hR : RR A σ) (ho : OK N A) (hN : N ≤ 512) (h : ∀ σ', RR A σ' → Q (t_bit A x1 x2) σ') : w_X5_bit Q x1 x2 σ := by
  unfold w_X5_bit
  unfold t_bit at h
  rintro σ1 rfl
  have hR := hR.thr
  generalize uI σ 0 0 0 = σ at hR ⊢
  have bad : ¬ (isK x1 ∧ (-2148 ≤ x2.toInt ∧ x2.toInt ≤ 2200)) → Q (-3) σ := by
    intro c
    rw [if_neg c] at h
    exact h σ hR
  have c0 : (-2148 : Int64).toInt = -2148 := by decide
  have c3 : (2200 : Int64).toInt = 2200 := by decide
  have k2148 : (2148 : Int32).toInt = 2148 := by decide
  refine s_isKeeperR (fun c1 => ⟨fun z => absurd z n10, fun _ => s_in (fun q => ⟨fun _ => ?_, fun z => absurd z n10⟩) (fun q => ⟨fun z => absurd rfl z, fun _ => bad ?_⟩)⟩) (fun c1 => ⟨fun _ => bad (fun z => c1 z.1), fun z => absurd rfl z⟩)
  · rw [i2l_toInt, c0, c3] at q
    rw [if_pos ⟨c1, q⟩] at h
    obtain ⟨e1, l1⟩ := isK_nI c1
    have hK := hR.2.1 _ l1
    rw [hK.gone]
    refine ⟨by rw [e1]; exact in_nI (by omega) (by decide), fun g => ?_, fun g => by rw [if_pos g] at h; exact h σ hR⟩
    rw [if_neg g] at h
    have b := (ho.2.1 _ l1).rng hN
    have ep : x2 + (2148 : Int32) = nI (x2.toInt + 2148).toNat := by
      refine i_of ?_ (by omega)
      rw [i_add (by omega) (by omega), k2148]; omega
    rw [e1, ep]
    refine s_take l1 hK b (fun σ9 tk => ?_)
    obtain ⟨f, hv, h20, h21⟩ := tk
    exact s_bitAtR (by omega) (p4800 b.1 b.2) hv (h σ9 (hR.scr f))
  · rw [i2l_toInt, c0, c3] at q; rintro ⟨-, a⟩; exact q a
theorem w_eq {x y : Int32} : x = y ↔ x.toInt % 4294967296 = y.toInt % 4294967296 := by
  refine ⟨fun q => by rw [q], fun q => i_ext ?_⟩
  have h1 := ib x
  have h2 := ib y
  omega
theorem s_orderR {A : AS} {N : Nat} {x1 x2 : Int32} {Q : Int32 → St → Prop} {σ : St} (hR : RR A σ) (ho : OK N A) (hN : N ≤ 512) (h : ∀ σ', RR A σ' → Q (t_order A x1 x2) σ') : w_X5_order Q x1 x2 σ := by
  unfold w_X5_order
  unfold t_order at h
  rintro σ1 rfl
  have hR := hR.thr
  generalize uI σ 0 0 0 = σ at hR ⊢
  have h := h σ hR
  refine s_isKeeperR (fun c1 => ⟨fun z => absurd z n10, fun _ => s_isKeeperR (fun c2 => ⟨fun _ => ?_, fun z => absurd z n10⟩) (fun c2 => ⟨fun z => absurd rfl z, fun _ => by rw [if_neg (fun z => c2 z.2)] at h; exact h⟩)⟩) (fun c1 => ⟨fun _ => by rw [if_neg (fun z => c1 z.1)] at h; exact h, fun z => absurd rfl z⟩)
  rw [if_pos ⟨c1, c2⟩] at h
  obtain ⟨e1, l1⟩ := isK_nI c1
  obtain ⟨e2, l2⟩ := isK_nI c2
  have hK := hR.2.1 _ l1
  have hM := hR.2.1 _ l2
  rw [hK.gone, hM.gone]
  refine ⟨by rw [e1]; exact in_nI (by omega) (by decide), fun g => by rw [if_pos (Or.inl g)] at h; exact h, fun g => ⟨by rw [e2]; exact in_nI (by omega) (by decide), fun g2 => ?_, fun g2 => by rw [if_pos (Or.inr g2)] at h; exact h⟩⟩
  rw [if_neg (by rintro (z | z); exact g z; exact g2 z)] at h
  have lt : (A.2.1 (ix x1)).2.1 < (A.2.1 (ix x2)).2.1 → Q 2 σ := fun q => by rw [if_neg (Int.ne_of_lt q), if_pos q] at h; exact h
  have gt : (A.2.1 (ix x2)).2.1 < (A.2.1 (ix x1)).2.1 → Q 3 σ := fun q => by rw [if_neg (Int.ne_of_gt q), if_neg (Int.not_lt.mpr (Int.le_of_lt q))] at h; exact h
  have eq : (A.2.1 (ix x1)).2.1 = (A.2.1 (ix x2)).2.1 → Q 1 σ := fun q => by rw [if_pos q] at h; exact h
  have b1 := (ho.2.1 _ l1).rng hN
  have b2 := (ho.2.1 _ l2).rng hN
  have hv := hK.2.1
  have hw := hM.2.1
  have tv := (top_word hv b1).2
  have tw := (top_word hw b2).2
  generalize hk1 : ix x1 = k1 at *
  generalize hk2 : ix x2 = k2 at *
  subst e1 e2
  have em : ∀ k : Nat, k < 6 → (152 : Int32) * nI k + 152 - 1 = nI (152 * k + 151) := by
    intro k hk
    have e1 : (152 : Int32) * nI k + 152 = nI (152 * k + 152) := by
      rw [show (152 : Int32) = nI 152 from rfl, pk_mul, nI_add]
    rw [e1]
    exact pk_sub (a := 152 * k + 152) (b := 1) (by omega)
  rintro y8 rfl y9 rfl
  rw [em k1 l1, em k2 l2, ix_nI (by omega), ix_nI (by omega)]
  have i1 : vp_in (nI (152 * k1 + 151)) 1064 := in_nI (by omega) (by decide)
  have i2 : vp_in (nI (152 * k2 + 151)) 1064 := in_nI (by omega) (by decide)
  refine ⟨i1, i2, fun q => ?_, fun q => ⟨i1, i2, fun q2 => ?_, fun q2 => ?_⟩⟩
  · have loop : ∀ (d i : Nat), i + d = 152 → 1 ≤ i → (A.2.1 k1).2.1 / 2 ^ (32 * (152 - i)) = (A.2.1 k2).2.1 / 2 ^ (32 * (152 - i)) → w_X5_order_111 Q (d + 1) (nI (152 * k1 + 151)) (nI (152 * k2 + 151)) (nI i) σ := by
      intro d
      induction d with
      | zero =>
        intro i hi hi1 he
        have : i = 152 := by omega
        subst this
        rw [w_X5_order_111]
        refine ⟨fun _ => ?_, fun q => absurd (by decide) q⟩
        rw [Nat.sub_self, Nat.mul_zero, Int.pow_zero, Int.ediv_one, Int.ediv_one] at he
        exact eq he
      | succ d ih =>
        intro i hi hi1 he
        rw [w_X5_order_111]
        have s1 : nI (152 * k1 + 151) - nI i = nI (152 * k1 + (151 - i)) := by
          rw [pk_sub (by omega), show 152 * k1 + 151 - i = 152 * k1 + (151 - i) by omega]
        have s2 : nI (152 * k2 + 151) - nI i = nI (152 * k2 + (151 - i)) := by
          rw [pk_sub (by omega), show 152 * k2 + 151 - i = 152 * k2 + (151 - i) by omega]
        rw [s1, s2, ix_nI (by omega), ix_nI (by omega)]
        have j1 : vp_in (nI (152 * k1 + (151 - i))) 1064 := in_nI (by omega) (by decide)
        have j2 : vp_in (nI (152 * k2 + (151 - i))) 1064 := in_nI (by omega) (by decide)
        have d1 := hv (151 - i) (by omega)
        have d2 := hw (151 - i) (by omega)
        have hx : 151 - i + 1 = 152 - i := by omega
        obtain ⟨m1, hm1, u1, v1⟩ := low_nat (gI σ 7 (152 * k1 + (151 - i)))
        obtain ⟨m2, hm2, u2, v2⟩ := low_nat (gI σ 7 (152 * k2 + (151 - i)))
        rw [w_eq, u1, u2, d1, d2]
        have cl : lN m2 ≤ lN m1 ↔ m2 ≤ m1 := pk_lLE (by omega) (by omega)
        rw [cl]
        refine ⟨fun q => ?_, fun _ => ⟨j1, j2, fun q => ?_, fun q => ⟨j1, j2, fun q2 => ?_, fun q2 => ?_⟩⟩⟩
        · have := (nI_leI (a := 152) (b := i) (by decide) (by omega)).mp q
          omega
        · rintro y14 rfl
          rw [nI_1]
          refine ih (i + 1) (by omega) (by omega) ?_
          have a := dg_split (A.2.1 k1).2.1 (151 - i)
          have b := dg_split (A.2.1 k2).2.1 (151 - i)
          rw [hx] at a b
          rw [he] at a
          rw [show 152 - (i + 1) = 151 - i by omega]
          omega
        · refine gt (lt_digits (i := 151 - i) (by rw [hx]; exact he.symm) ?_)
          omega
        · refine lt (lt_digits (i := 151 - i) (by rw [hx]; exact he) ?_)
          omega
    rw [q] at tv
    exact ⟨152, loop 151 1 (by omega) (by omega) (tv.symm.trans tw)⟩
  · rw [i_le, tv, tw] at q2
    refine gt (lt_tops (k := 32 * 151) ?_)
    have : (A.2.1 k1).2.1 / 2 ^ (32 * 151) ≠ (A.2.1 k2).2.1 / 2 ^ (32 * 151) := fun z => q (i_ext (by rw [tv, tw, z]))
    rcases Int.lt_or_eq_of_le q2 with y | y
    · exact y
    · exact absurd y.symm this
  · rw [i_le, tv, tw] at q2
    exact lt (lt_tops (k := 32 * 151) (Int.not_le.mp q2))
theorem s_undoR {A : AS} {N : Nat} {Q : Int32 → St → Prop} {σ : St} (hR : RR A σ) (ho : OK N A) (h : ∀ σ', RR (t_undo A).2 σ' → Q (t_undo A).1 σ') : w_X5_undo Q σ := by
  unfold w_X5_undo
  unfold t_undo at h
  rintro σ1 rfl
  have hR := hR.thr
  generalize uI σ 0 0 0 = σ at hR ⊢
  obtain ⟨h1, h2, ⟨b1, b2, l, hl, b3, b4⟩, h4⟩ := id hR
  rw [b1]
  have ho3 := ho.2.2
  cases hH : A.2.2.1 with
  | nil =>
    rw [hH] at h
    exact ⟨fun z => absurd rfl z, fun _ => h σ hR⟩
  | cons e t =>
    rw [hH] at h b2 b4 ho3
    rw [List.length_cons] at b2 ⊢
    refine ⟨fun _ => ?_, fun z => ?_⟩
    · obtain ⟨s1, s2⟩ := b4 0 e rfl
      have he := (ho3 0 e rfl).1
      have er : nI l + (12 : Int32) - 1 - (nI l + (12 : Int32) - 1) / (12 : Int32) * (12 : Int32) = nI ((l + 11) % 12) := by
        have e1 : nI l + (12 : Int32) - (1 : Int32) = nI (l + 11) := by
          rw [show (12 : Int32) = nI 12 from rfl, nI_add]
          exact pk_sub (b := 1) (by omega)
        rw [e1, nI_rem12 (by omega)]
      rintro σ2 rfl
      rw [b3, er]
      have e15 : gI (uI σ 0 14 (nI ((l + 11) % 12))) 0 15 - 1 = nI t.length := by
        rw [uI_w, gI_wI_eq, upd_ne (by decide), b1, hH]
        exact pk_sub (a := t.length + 1) (b := 1) (by omega)
      rw [e15]
      rintro σ3 rfl
      generalize hτ : uI (uI σ 0 14 (nI ((l + 11) % 12))) 0 15 (nI t.length) = τ
      have gi : ∀ c, c ≠ 0 → gI τ c = gI σ c := fun c a => by rw [← hτ, uI_w, gI_wI_ne a, uI_w, gI_wI_ne a]
      have g0 : gI τ 0 = upd (upd (gI σ 0) 14 (nI ((l + 11) % 12))) 15 (nI t.length) := by rw [← hτ, uI_w, gI_wI_eq, uI_w, gI_wI_eq]
      have gj : gJ τ = gJ σ := by rw [← hτ]; rfl
      have gd : gD τ = gD σ := by rw [← hτ]; rfl
      rintro y4 rfl
      have e14 : gI τ 0 14 = nI ((l + 11) % 12) := by rw [g0, upd_ne (by decide), upd_eq]
      rw [e14, ix_nI (by omega)]
      have hs0 : (l + 11 - 0) % 12 = (l + 11) % 12 := rfl
      rw [hs0] at s1 s2
      generalize hl' : (l + 11) % 12 = l' at *
      have hl2 : l' < 12 := by omega
      refine ⟨in_nI hl2 (by decide), ?_⟩
      rintro y6 rfl
      rw [gi 9 (by decide), s1, ix_nI (by omega), gi 10 (by decide)]
      refine ⟨in_nI hl2 (by decide), in_nI (by omega) (by decide), ?_⟩
      rintro σ9 rfl
      have fin : Q (nI e.1) (wI (wI (uI τ 6 e.1 (gI σ 10 l')) 7 (va_cpy (gI σ 11) (gI σ 7) (152 * l') (152 * e.1) 152)) 8 (va_cpy (gI σ 12) (gI σ 8) (3 * l') (3 * e.1) 3)) := by
        generalize hυ : wI (wI (uI τ 6 e.1 (gI σ 10 l')) 7 (va_cpy (gI σ 11) (gI σ 7) (152 * l') (152 * e.1) 152)) 8 (va_cpy (gI σ 12) (gI σ 8) (3 * l') (3 * e.1) 3) = υ
        have ui : ∀ c, c ≠ 6 → c ≠ 7 → c ≠ 8 → gI υ c = gI τ c := fun c a b d => by rw [← hυ, gI_wI_ne d, gI_wI_ne b, uI_w, gI_wI_ne a]
        have u6 : gI υ 6 = upd (gI σ 6) e.1 (gI σ 10 l') := by rw [← hυ, gI_wI_ne (by decide), gI_wI_ne (by decide), uI_w, gI_wI_eq, gi 6 (by decide)]
        have u7 : gI υ 7 = va_cpy (gI σ 11) (gI σ 7) (152 * l') (152 * e.1) 152 := by rw [← hυ, gI_wI_ne (by decide), gI_wI_eq]
        have u8 : gI υ 8 = va_cpy (gI σ 12) (gI σ 8) (3 * l') (3 * e.1) 3 := by rw [← hυ, gI_wI_eq]
        have uj : gJ υ = gJ σ := by rw [← hυ, ← gj]; rfl
        have ud : gD υ = gD σ := by rw [← hυ, ← gd]; rfl
        have ui2 : ∀ c, c ≠ 0 → c ≠ 6 → c ≠ 7 → c ≠ 8 → gI υ c = gI σ c := fun c z a b d => (ui c a b d).trans (gi c z)
        refine h υ ⟨fun r hr => ?_, fun j hj => ?_, ⟨?_, ?_, l', hl2, ?_, fun j x hx => ?_⟩, ?_⟩
        · have := h1 r hr
          show RowR υ r (A.1 r)
          unfold RowR at this ⊢
          rw [ui2 1 (by decide) (by decide) (by decide) (by decide), ui2 2 (by decide) (by decide) (by decide) (by decide), ui2 5 (by decide) (by decide) (by decide) (by decide), uj, ud]
          exact this
        · show KpR _ _ _ j (if j = e.1 then e.2 else A.2.1 j)
          rw [u6, u7, u8]
          by_cases c : j = e.1
          · subst c
            rw [if_pos rfl]
            exact s2.ext upd_eq (fun i hi => cpy_i hi) (fun i hi => cpy_i hi)
          · rw [if_neg c]
            exact (h2 j hj).ext (upd_ne c) (fun i hi => cpy_o (by omega)) (fun i hi => cpy_o (by omega))
        · rw [ui 0 (by decide) (by decide) (by decide), g0, upd_eq]; rfl
        · show t.length ≤ 12
          omega
        · rw [ui 0 (by decide) (by decide) (by decide), g0, upd_ne (by decide), upd_eq]
        · have hx : t[j]? = some x := hx
          obtain ⟨q1, q2⟩ := b4 (j + 1) x hx
          have hlen : j < t.length := (List.getElem?_eq_some_iff.mp hx).1
          have hs : (l' + 11 - j) % 12 = (l + 11 - (j + 1)) % 12 := by omega
          rw [hs, ui2 9 (by decide) (by decide) (by decide) (by decide), ui2 10 (by decide) (by decide) (by decide) (by decide), ui2 11 (by decide) (by decide) (by decide) (by decide), ui2 12 (by decide) (by decide) (by decide) (by decide)]
          exact ⟨q1, q2⟩
        · show gI υ 0 9 = A.2.2.2
          rw [ui 0 (by decide) (by decide) (by decide), g0, upd_ne (by decide), upd_ne (by decide)]; exact h4
      generalize hρ : uI τ 6 e.1 (gI σ 10 l') = ρ at fin ⊢
      have ri : ∀ c, c ≠ 0 → c ≠ 6 → gI ρ c = gI σ c := fun c a b => by rw [← hρ, uI_w, gI_wI_ne b, gi c a]
      have loop2 : ∀ (d i : Nat), i + d = 3 → w_X5_undo_105 Q (d + 1) (nI l') (nI e.1) (nI i) (wI (wI ρ 7 (va_cpy (gI σ 11) (gI σ 7) (152 * l') (152 * e.1) 152)) 8 (va_cpy (gI σ 12) (gI σ 8) (3 * l') (3 * e.1) i)) := by
        intro d
        induction d with
        | zero =>
          intro i hi
          have : i = 3 := by omega
          subst this
          rw [w_X5_undo_105]
          exact ⟨fun _ => fin, fun q => absurd (by decide) q⟩
        | succ d ih =>
          intro i hi
          rw [w_X5_undo_105]
          refine ⟨fun q => ?_, fun _ => ?_⟩
          · have := (nI_leI (a := 3) (b := i) (by decide) (by omega)).mp q
            omega
          · rw [m3, m3, ix_nI (by omega), ix_nI (by omega)]
            refine ⟨in_nI (by omega) (by decide), in_nI (by omega) (by decide), ?_⟩
            rintro σ12 rfl y13 rfl
            rw [nI_1, uI_w, wI_wI, gI_wI_eq, gI_wI_ne (by decide), gI_wI_ne (by decide), ri 12 (by decide) (by decide), upd_vf, cpy_up]
            exact ih (i + 1) (by omega)
      have loop1 : ∀ (d i : Nat), i + d = 152 → w_X5_undo_66 Q (d + 1) (nI l') (nI e.1) (nI i) (wI ρ 7 (va_cpy (gI σ 11) (gI σ 7) (152 * l') (152 * e.1) i)) := by
        intro d
        induction d with
        | zero =>
          intro i hi
          have : i = 152 := by omega
          subst this
          rw [w_X5_undo_66]
          refine ⟨fun _ => ?_, fun q => absurd (by decide) q⟩
          have key := loop2 3 0 rfl
          rw [cpy_00] at key
          have e8 : wI (wI ρ 7 (va_cpy (gI σ 11) (gI σ 7) (152 * l') (152 * e.1) 152)) 8 (gI σ 8) = wI ρ 7 (va_cpy (gI σ 11) (gI σ 7) (152 * l') (152 * e.1) 152) := by
            have := wI_self (wI ρ 7 (va_cpy (gI σ 11) (gI σ 7) (152 * l') (152 * e.1) 152)) 8
            rw [gI_wI_ne (by decide), ri 8 (by decide) (by decide)] at this
            exact this
          rw [e8] at key
          exact ⟨4, key⟩
        | succ d ih =>
          intro i hi
          rw [w_X5_undo_66]
          refine ⟨fun q => ?_, fun _ => ?_⟩
          · have := (nI_leI (a := 152) (b := i) (by decide) (by omega)).mp q
            omega
          · rw [m152, m152, ix_nI (by omega), ix_nI (by omega)]
            refine ⟨in_nI (by omega) (by decide), in_nI (by omega) (by decide), ?_⟩
            rintro σ17 rfl y18 rfl
            rw [nI_1, uI_w, wI_wI, gI_wI_eq, gI_wI_ne (by decide), ri 11 (by decide) (by decide), upd_vf, cpy_up]
            exact ih (i + 1) (by omega)
      have key := loop1 152 0 rfl
      rw [cpy_00] at key
      have e7 : wI ρ 7 (gI σ 7) = ρ := by
        have := wI_self ρ 7
        rw [ri 7 (by decide) (by decide)] at this
        exact this
      rw [e7] at key
      exact ⟨153, key⟩
    · exfalso
      have := (nI_eq (a := t.length + 1) (b := 0) (by omega) (by decide)).mp z
      omega
theorem s_countR {A : AS} {x : Int32} {Q : Int32 → St → Prop} {σ : St} (hR : RR A σ) (h : ∀ σ', RR A σ' → Q (t_count A x) σ') : w_X5_count Q x σ := by
  unfold w_X5_count
  unfold t_count at h
  rintro σ1 rfl
  have hR := hR.thr
  generalize uI σ 0 0 0 = σ at hR ⊢
  have h := h σ hR
  refine ⟨fun z => ?_, fun z => ?_, fun z => ?_, fun z => ?_, fun z => ?_, fun z => ?_, fun z0 z1 z2 z3 z4 z5 => ?_⟩
  · rw [if_pos z] at h
    have loop : ∀ (d i : Nat), i + d = 12 → w_X5_count_50 Q (d + 1) (nI (cnt (fun r => if (A.1 r).1 = -1 then 0 else 1) i)) (nI i) σ := by
      intro d
      induction d with
      | zero =>
        intro i hi
        have : i = 12 := by omega
        subst this
        rw [w_X5_count_50]
        exact ⟨fun _ => h, fun q => absurd (by decide) q⟩
      | succ d ih =>
        intro i hi
        rw [w_X5_count_50]
        refine ⟨fun q => ?_, fun _ => ?_⟩
        · have := (nI_leI (a := 12) (b := i) (by decide) (by omega)).mp q
          omega
        · have nx := ih (i + 1) (by omega)
          have es : cnt (fun r => if (A.1 r).1 = -1 then 0 else 1) (i + 1) = cnt (fun r => if (A.1 r).1 = -1 then 0 else 1) i + (if (A.1 i).1 = -1 then 0 else 1) := rfl
          rw [es] at nx
          refine s_isThereR (by omega) (hR.1 i (by omega)) (fun g => ⟨fun y => absurd y n10, fun _ => ?_⟩) (fun g => ⟨fun _ => ?_, fun y => absurd rfl y⟩)
          · rintro y6 rfl y7 rfl
            rw [if_neg g] at nx
            rw [nI_1, nI_1]; exact nx
          · rintro y4 rfl y5 rfl
            rw [if_pos g, Nat.add_zero] at nx
            rw [nI_1, Int32.add_zero]; exact nx
    exact ⟨13, loop 12 0 rfl⟩
  · rw [if_neg (by rw [z]; decide), if_pos z] at h
    have loop : ∀ (d i : Nat), i + d = 6 → w_X5_count_82 Q (d + 1) (nI (cnt (fun k => if (A.2.1 k).1 = -1 then 0 else 1) i)) (nI i) σ := by
      intro d
      induction d with
      | zero =>
        intro i hi
        have : i = 6 := by omega
        subst this
        rw [w_X5_count_82]
        exact ⟨fun _ => h, fun q => absurd (by decide) q⟩
      | succ d ih =>
        intro i hi
        rw [w_X5_count_82]
        refine ⟨fun q => ?_, fun _ => ⟨in_nI (by omega) (by decide), ?_⟩⟩
        · have := (nI_leI (a := 6) (b := i) (by decide) (by omega)).mp q
          omega
        · rw [ix_nI (by omega), (hR.2.1 i (by omega)).gone]
          have nx := ih (i + 1) (by omega)
          have es : cnt (fun k => if (A.2.1 k).1 = -1 then 0 else 1) (i + 1) = cnt (fun k => if (A.2.1 k).1 = -1 then 0 else 1) i + (if (A.2.1 i).1 = -1 then 0 else 1) := rfl
          rw [es] at nx
          refine ⟨fun g => ?_, fun g => ?_⟩
          · rintro y2 rfl y3 rfl
            rw [if_pos g, Nat.add_zero] at nx
            rw [nI_1, Int32.add_zero]; exact nx
          · rintro y3 rfl y4 rfl
            rw [if_neg g] at nx
            rw [nI_1, nI_1]; exact nx
    exact ⟨7, loop 6 0 rfl⟩
  · rw [if_neg (by rw [z]; decide), if_neg (by rw [z]; decide), if_pos z] at h
    rw [hR.2.2.1.1]; exact h
  · rw [if_neg (by rw [z]; decide), if_neg (by rw [z]; decide), if_neg (by rw [z]; decide), if_pos z] at h
    have loop : ∀ (d i : Nat), i + d = 12 → w_X5_count_121 Q (d + 1) (nI (cnt (fun r => if (A.1 r).1 = -1 then 0 else (A.1 r).2.1) i)) (nI i) σ := by
      intro d
      induction d with
      | zero =>
        intro i hi
        have : i = 12 := by omega
        subst this
        rw [w_X5_count_121]
        exact ⟨fun _ => h, fun q => absurd (by decide) q⟩
      | succ d ih =>
        intro i hi
        rw [w_X5_count_121]
        refine ⟨fun q => ?_, fun _ => ?_⟩
        · have := (nI_leI (a := 12) (b := i) (by decide) (by omega)).mp q
          omega
        · have nx := ih (i + 1) (by omega)
          have es : cnt (fun r => if (A.1 r).1 = -1 then 0 else (A.1 r).2.1) (i + 1) = cnt (fun r => if (A.1 r).1 = -1 then 0 else (A.1 r).2.1) i + (if (A.1 i).1 = -1 then 0 else (A.1 i).2.1) := rfl
          rw [es] at nx
          refine s_isThereR (by omega) (hR.1 i (by omega)) (fun g => ⟨fun y => absurd y n10, fun _ => ⟨in_nI (by omega) (by decide), ?_⟩⟩) (fun g => ⟨fun _ => ?_, fun y => absurd rfl y⟩)
          · rintro y6 rfl y7 rfl
            rw [if_neg g] at nx
            rw [nI_1, ix_nI (by omega), ((hR.1 i (by omega)).2 g).2.2.2.1, nI_add]; exact nx
          · rintro y4 rfl y5 rfl
            rw [if_pos g, Nat.add_zero] at nx
            rw [nI_1, Int32.add_zero]; exact nx
    exact ⟨13, loop 12 0 rfl⟩
  · rw [if_neg (by rw [z]; decide), if_neg (by rw [z]; decide), if_neg (by rw [z]; decide), if_neg (by rw [z]; decide), if_pos z] at h
    rw [hR.2.2.2]; exact h
  · rw [if_neg (by rw [z]; decide), if_neg (by rw [z]; decide), if_neg (by rw [z]; decide), if_neg (by rw [z]; decide), if_neg (by rw [z]; decide), if_pos z] at h
    have loop : ∀ (d i : Nat), i + d = 6 → w_X5_count_163 Q (d + 1) (nI (cnt (fun k => if (A.2.1 k).1 = -1 then 0 else if sortK (A.2.1 k).2.2 = 3 then 1 else 0) i)) (nI i) σ := by
      intro d
      induction d with
      | zero =>
        intro i hi
        have : i = 6 := by omega
        subst this
        rw [w_X5_count_163]
        exact ⟨fun _ => h, fun q => absurd (by decide) q⟩
      | succ d ih =>
        intro i hi
        rw [w_X5_count_163]
        refine ⟨fun q => ?_, fun _ => ⟨in_nI (by omega) (by decide), ?_⟩⟩
        · have := (nI_leI (a := 6) (b := i) (by decide) (by omega)).mp q
          omega
        · rw [ix_nI (by omega), (hR.2.1 i (by omega)).gone]
          have nx := ih (i + 1) (by omega)
          have es : cnt (fun k => if (A.2.1 k).1 = -1 then 0 else if sortK (A.2.1 k).2.2 = 3 then 1 else 0) (i + 1) = cnt (fun k => if (A.2.1 k).1 = -1 then 0 else if sortK (A.2.1 k).2.2 = 3 then 1 else 0) i + (if (A.2.1 i).1 = -1 then 0 else if sortK (A.2.1 i).2.2 = 3 then 1 else 0) := rfl
          rw [es] at nx
          have hl := sortK_lt (A.2.1 i).2.2
          refine ⟨fun g => ?_, fun g => s_sortOfK (by omega) (hR.2.1 i (by omega)) ?_⟩
          · rintro y2 rfl y3 rfl
            rw [if_pos g, Nat.add_zero] at nx
            rw [nI_1, Int32.add_zero]; exact nx
          · rw [if_neg g] at nx
            refine ⟨fun q => ?_, fun q => ?_⟩
            · rintro y7 rfl y8 rfl
              rw [if_neg (fun y => q (by rw [y]; rfl)), Nat.add_zero] at nx
              rw [nI_1, Int32.add_zero]; exact nx
            · rintro y8 rfl y9 rfl
              have : sortK (A.2.1 i).2.2 = 3 := (nI_eq (b := 3) (by omega) (by decide)).mp q
              rw [if_pos this] at nx
              rw [nI_1, nI_1]; exact nx
    exact ⟨7, loop 6 0 rfl⟩
  · rw [if_neg z0, if_neg z1, if_neg z2, if_neg z3, if_neg z4, if_neg z5] at h; exact h
