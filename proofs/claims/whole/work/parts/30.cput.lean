/-! rounding to the nearest in the class; putting to a float -/
def awy (w : Nat) (half more below : Bool) (way : Int32) : Bool := if way = 0 then half && (more || w % 2 == 1) else if way = 2 then !below && (half || more) else if way = 3 then below && (half || more) else false
theorem s_stepsAway {w : Nat} {half more below way : Int32} {Q : Int32 → St → Prop} {σ : St} (hw : w < 2 ^ 63) (h : Q (if awy w (decide (¬ half = 0)) (decide (¬ more = 0)) (decide (¬ below = 0)) way then 1 else 0) σ) : w_X4_stepsAway Q (lN w) half more below way σ := by
  have f : ∀ {x : Int32}, x = 0 → decide (¬ x = 0) = false := fun q => decide_eq_false (fun z => z q)
  have t : ∀ {x : Int32}, ¬ x = 0 → decide (¬ x = 0) = true := fun q => decide_eq_true q
  have odd : lN w &&& (1 : Int64) = 1 ↔ w % 2 = 1 := by
    rw [wb_a1 (by omega)]
    exact pk_lEQ (b := 1) (by omega) (by decide)
  unfold w_X4_stepsAway
  unfold awy at h
  rw [odd]
  refine ⟨fun e => ?_, fun e => ?_, fun e => ?_, fun e => ?_, fun n0 n1 n2 n3 => ?_⟩
  · rw [if_pos e] at h
    refine ⟨fun a => ?_, fun a => ⟨fun b => ?_, fun b => ⟨fun c => ?_, fun c => ?_⟩⟩⟩
    · rw [f a] at h; exact h
    · rw [t a, t b] at h; exact h
    · rw [t a, f b, beq_eq_false_iff_ne.mpr c] at h; exact h
    · rw [t a, f b, c] at h; exact h
  · subst e
    rw [if_neg (show ¬ (1 : Int32) = 0 by decide), if_neg (show ¬ (1 : Int32) = 2 by decide), if_neg (show ¬ (1 : Int32) = 3 by decide)] at h; exact h
  · subst e
    rw [if_neg (show ¬ (2 : Int32) = 0 by decide), if_pos (rfl : (2 : Int32) = 2)] at h
    refine ⟨fun a => ?_, fun a => ⟨fun b => ?_, fun b => ⟨fun c => ?_, fun c => ?_⟩⟩⟩
    · rw [t a] at h; exact h
    · rw [f a, t b] at h; exact h
    · rw [f a, f b, f c] at h; exact h
    · rw [f a, f b, t c] at h; exact h
  · subst e
    rw [if_neg (show ¬ (3 : Int32) = 0 by decide), if_neg (show ¬ (3 : Int32) = 2 by decide), if_pos (rfl : (3 : Int32) = 3)] at h
    refine ⟨fun a => ?_, fun a => ⟨fun b => ?_, fun b => ⟨fun c => ?_, fun c => ?_⟩⟩⟩
    · rw [f a] at h; exact h
    · rw [t a, t b] at h; exact h
    · rw [t a, f b, f c] at h; exact h
    · rw [t a, f b, t c] at h; exact h
  · rw [if_neg n0, if_neg n2, if_neg n3] at h; exact h
theorem near_big {w d : Nat} (hw : w < 2 ^ 53) (hd : 53 < d) : FP.Core.nearest w (2 ^ d) = 0 := by
  have hp : 2 ^ 54 ≤ 2 ^ d := Nat.pow_le_pow_right (by decide) (by omega)
  unfold FP.Core.nearest
  have e : w % 2 ^ d = w := Nat.mod_eq_of_lt (by omega)
  rw [e, if_pos (by omega), Nat.div_eq_of_lt (by omega)]
theorem near_awy {w d : Nat} : FP.Core.nearest w (2 ^ (d + 1)) = w / 2 ^ (d + 1) + (if awy (w / 2 ^ (d + 1)) (decide (w / 2 ^ d % 2 = 1)) (decide (w % 2 ^ d ≠ 0)) false 0 then 1 else 0) := by
  have h1 : w % 2 ^ (d + 1) = w % 2 ^ d + 2 ^ d * (w / 2 ^ d % 2) := Nat.mod_pow_succ
  have h2 : w % 2 ^ d < 2 ^ d := Nat.mod_lt _ (Nat.two_pow_pos d)
  unfold FP.Core.nearest awy
  rw [if_pos rfl, h1]
  have h3 : 2 ^ (d + 1) = 2 ^ d * 2 := Nat.pow_succ _ _
  generalize w / 2 ^ (d + 1) = z
  rw [h3]
  generalize w % 2 ^ d = r at h2 ⊢
  generalize 2 ^ d = P at h2 ⊢
  rcases Nat.mod_two_eq_zero_or_one (w / P) with hb | hb <;> rw [hb]
  · rw [Nat.mul_zero, Nat.add_zero, if_pos (by omega), decide_eq_false (by decide)]
    rfl
  · rw [Nat.mul_one, if_neg (by omega), decide_eq_true (rfl : (1 : Nat) = 1)]
    by_cases hr : r = 0
    · subst hr
      rw [if_neg (by omega), decide_eq_false (fun z => z rfl)]
      rcases Nat.mod_two_eq_zero_or_one z with g | g <;> rw [g] <;> rfl
    · rw [if_pos (by omega), decide_eq_true hr]
      rfl
theorem s_withoutBits {w : Nat} {d : Int32} {Q : Int64 → St → Prop} {σ : St} (hw : w < 2 ^ 53) (h : Q (lN (FP.Core.nearest w (2 ^ d.toInt.toNat))) σ) : w_X2_withoutBits Q (lN w) d σ := by
  unfold w_X2_withoutBits
  have k53 : (53 : Int32).toInt = 53 := by decide
  refine ⟨fun hp => ⟨fun h5 => ?_, fun h5 => ?_⟩, fun hp => ?_⟩
  · rw [i_lt, t0] at hp
    rw [i_le, k53] at h5
    obtain ⟨n, hn, rfl, hn2⟩ := i_nat (x := d) (by omega)
    have hn3 : ∃ m, n = m + 1 := ⟨n - 1, by omega⟩
    obtain ⟨m, rfl⟩ := hn3
    rw [hn2, show ((m + 1 : Nat) : Int).toNat = m + 1 from rfl, near_awy] at h
    rintro y1 rfl
    have e1 : nI (m + 1) - (1 : Int32) = nI m := pk_sub (b := 1) (by omega)
    rw [e1, lushr_N (by omega) (by omega), lushr_N (by omega) (by omega), wb_a1 (Nat.lt_of_le_of_lt (Nat.div_le_self _ _) (show w < 2 ^ 64 by omega))]
    have hz : w / 2 ^ (m + 1) < 2 ^ 53 := Nat.lt_of_le_of_lt (Nat.div_le_self _ _) hw
    have mask : lshlF (1 : Int64) (nI m) - (1 : Int64) = lN (2 ^ m - 1) := by
      have e2 : lshlF (1 : Int64) (nI m) = lN (2 ^ m) := by
        have := lshl_N 1 (show m < 64 by omega)
        rw [Nat.one_mul] at this
        exact this
      rw [e2]
      have hp2 := Nat.two_pow_pos m
      have hp3 : 2 ^ m < 2 ^ 63 := Nat.pow_lt_pow_right (by decide) (by omega)
      refine l_of ?_ (by omega)
      rw [l_sub (by rw [pk_lT (by omega)]; show _ ≤ _ - (1 : Int); omega) (by rw [pk_lT (by omega)]; show _ - (1 : Int) < _; omega), pk_lT (by omega)]
      show ((2 ^ m : Nat) : Int) - 1 = _
      omega
    have g35 : ∀ s0 : Int32, decide (¬ s0 = 0) = decide (w / 2 ^ m % 2 = 1) → w_X2_withoutBits_35 Q (lN w) (nI (m + 1)) (lN (w / 2 ^ (m + 1))) s0 σ := by
      intro s0 hs
      have g56 : ∀ s1 : Int32, decide (¬ s1 = 0) = decide (w % 2 ^ m ≠ 0) → w_X2_withoutBits_56 Q (lN (w / 2 ^ (m + 1))) s0 s1 σ := by
        intro s1 hs1
        unfold w_X2_withoutBits_56
        refine s_stepsAway (by omega) ?_
        rw [hs, hs1]
        show (((if awy (w / 2 ^ (m + 1)) (decide (w / 2 ^ m % 2 = 1)) (decide (w % 2 ^ m ≠ 0)) (decide (¬ (0 : Int32) = 0)) 0 then (1 : Int32) else 0) = 0 → _) ∧ _)
        rw [show decide (¬ (0 : Int32) = 0) = false from rfl]
        cases hA : awy (w / 2 ^ (m + 1)) (decide (w / 2 ^ m % 2 = 1)) (decide (w % 2 ^ m ≠ 0)) false 0 <;> rw [hA] at h
        · exact ⟨fun _ => h, fun q => absurd rfl q⟩
        · refine ⟨fun q => absurd q (by decide), fun _ => ?_⟩
          show Q (lN (w / 2 ^ (m + 1)) + lN 1) σ
          rw [lN_add]; exact h
      unfold w_X2_withoutBits_35
      rw [e1, mask, wb_mask (by omega) (by omega)]
      have hm : w % 2 ^ m < 2 ^ 63 := Nat.lt_of_le_of_lt (Nat.mod_le _ _) (by omega)
      refine ⟨fun q => g56 0 ?_, fun q => g56 1 ?_⟩
      · have : w % 2 ^ m = 0 := (pk_lEQ (b := 0) hm (by decide)).mp q
        rw [this]; rfl
      · have : w % 2 ^ m ≠ 0 := fun z => q (by rw [z]; rfl)
        rw [decide_eq_true this]; rfl
    refine ⟨fun q => g35 0 ?_, fun q => g35 1 ?_⟩
    · have : ¬ w / 2 ^ m % 2 = 1 := fun z => q (by rw [z]; rfl)
      rw [decide_eq_false this]; rfl
    · have : w / 2 ^ m % 2 = 1 := (pk_lEQ (b := 1) (by omega) (by decide)).mp q
      rw [this]; rfl
  · rw [i_le, k53] at h5
    rw [near_big hw (by omega)] at h
    exact h
  · rw [i_lt, t0] at hp
    rw [show d.toInt.toNat = 0 by omega, Nat.pow_zero] at h
    have := FP.Core.nearest_exact w (B := 1) (by decide)
    rw [Nat.mul_one] at this
    rw [this] at h
    exact h
theorem near_le {w d : Nat} : FP.Core.nearest w (2 ^ d) ≤ w := FP.Core.nearest_le (Nat.two_pow_pos d) (Nat.le_mul_of_pos_right _ (Nat.two_pow_pos d))
theorem s_writeFloat {k p : Nat} {m : Int64} {e : Int32} {Q : St → Prop} {σ : St} {kd : Int} (hk : ¬ kd < 4) (hp : p < 40) (hm : m.toInt.natAbs < 2 ^ 53) (he1 : -1074 ≤ e.toInt) (he2 : e.toInt ≤ 971)
    (h : ∀ σ' W P S, WrC σ σ' k p W P S → PlC kd S W P (fltP m e) → Q σ') : w_X2_writeFloat k Q (nI p) m e σ := by
  unfold w_X2_writeFloat
  rintro y1 rfl
  rw [labs m (by omega)]
  have hb := bl_le.mpr hm
  have hbn : (nI (bl m.toInt.natAbs)).toInt = (bl m.toInt.natAbs : Int) := nI_toInt (by omega)
  refine s_bits (by omega) ?_
  have k24 : (24 : Int32).toInt = 24 := by decide
  have k149 : (-149 : Int32).toInt = -149 := by decide
  have k128 : (128 : Int32).toInt = 128 := by decide
  have ea : (nI (bl m.toInt.natAbs) + e).toInt = (bl m.toInt.natAbs : Int) + e.toInt := by rw [i_add (by omega) (by omega), hbn]
  have eb : (nI (bl m.toInt.natAbs) + e - 24).toInt = (bl m.toInt.natAbs : Int) + e.toInt - 24 := by rw [i_sub (by omega) (by omega), ea, k24]
  rintro y4 rfl y5 rfl
  generalize hy4 : (if nI (bl m.toInt.natAbs) + e - 24 < (-149 : Int32) then (-149 : Int32) else nI (bl m.toInt.natAbs) + e - 24) = y4
  have e4 : y4.toInt = max ((bl m.toInt.natAbs : Int) + e.toInt - 24) (-149) := by
    rw [← hy4]
    split
    · rename_i c
      rw [i_lt, eb, k149] at c
      rw [k149]; omega
    · rename_i c
      rw [i_lt, eb, k149] at c
      rw [eb]; omega
  generalize hy5 : (if e < y4 then y4 else e) = y5
  have e5 : y5.toInt = fltW m e := by
    unfold fltW
    rw [← hy5]
    split
    · rename_i c
      rw [i_lt, e4] at c
      rw [e4]; omega
    · rename_i c
      rw [i_lt, e4] at c
      omega
  have hw1 : e.toInt ≤ fltW m e := by unfold fltW; omega
  have hw2 : fltW m e ≤ 1000 := by unfold fltW; omega
  have e6 : (y5 - e).toInt = fltW m e - e.toInt := by rw [i_sub (by omega) (by omega), e5]
  refine s_withoutBits hm ?_
  rw [e6]
  have hR : fltN m e ≤ m.toInt.natAbs := near_le
  rw [show FP.Core.nearest m.toInt.natAbs (2 ^ (fltW m e - e.toInt).toNat) = fltN m e from rfl]
  unfold fltP at h
  refine ⟨fun q => ?_, fun q => ?_⟩
  · have hn0 : fltN m e ≠ 0 := fun z => q (by rw [z]; rfl)
    have hbr := bl_mono hR
    have hb1 := bl_pos (Nat.pos_of_ne_zero hn0)
    refine s_bits (by omega) ?_
    have es : (nI (bl (fltN m e)) + y5).toInt = (bl (fltN m e) : Int) + fltW m e := by
      have : (nI (bl (fltN m e))).toInt = (bl (fltN m e) : Int) := nI_toInt (by omega)
      rw [i_add (by omega) (by omega), this, e5]
    refine ⟨fun q2 => ?_, fun q2 => ?_⟩
    · rw [i_le, es, k128] at q2
      rw [if_neg (by omega)] at h
      have eN : (lN (fltN m e)).toInt = (fltN m e : Int) := pk_lT (by omega)
      refine ⟨fun q3 => ?_, fun q3 => ?_⟩ <;> unfold w_X2_writeFloat_117
      · have q3 := l_ge0.mp q3
        refine s_writeNumber hp (fun σ' w => h σ' _ _ _ w (plf hk (Or.inl ⟨rfl, Or.inl ⟨rfl, ?_, ?_, ?_, ?_⟩⟩)))
        · rw [eN]; omega
        · rw [e5]; omega
        · rw [e5]; omega
        · show U (decide (m.toInt < 0)) (fltN m e * 2 ^ (fltW m e + 1074).toNat) = _
          rw [eN, e5, decide_eq_false (show ¬ m.toInt < 0 by omega), decide_eq_false (show ¬ ((fltN m e : Nat) : Int) < 0 by omega), Int.natAbs_natCast]
      · have q3 : m.toInt < 0 := by
          rcases ilg m.toInt 0 with g | g
          · exact g
          · exact absurd (l_ge0.mpr g) q3
        have eM : (-lN (fltN m e)).toInt = -(fltN m e : Int) := by rw [l_neg (by omega), eN]
        refine s_writeNumber hp (fun σ' w => h σ' _ _ _ w (plf hk (Or.inl ⟨rfl, Or.inl ⟨rfl, ?_, ?_, ?_, ?_⟩⟩)))
        · rw [eM]; omega
        · rw [e5]; omega
        · rw [e5]; omega
        · show U (decide (m.toInt < 0)) (fltN m e * 2 ^ (fltW m e + 1074).toNat) = _
          rw [eM, e5, decide_eq_true q3, decide_eq_true (show -((fltN m e : Nat) : Int) < 0 by omega), Int.natAbs_neg, Int.natAbs_natCast]
    · rw [i_le, es, k128] at q2
      rw [if_pos ⟨hn0, by omega⟩] at h
      refine ⟨fun q3 => ?_, fun q3 => ?_⟩ <;> unfold w_X2_writeFloat_95
      · have q3 := l_ge0.mp q3
        rw [if_neg (by omega), if_neg (by omega)] at h
        exact s_writeSort hp (fun σ' w => h σ' _ _ _ w (plf hk (Or.inr ⟨Or.inl rfl, rfl, rfl, rfl⟩)))
      · have q3 : m.toInt < 0 := by
          rcases ilg m.toInt 0 with g | g
          · exact g
          · exact absurd (l_ge0.mpr g) q3
        rw [if_pos q3, if_pos q3] at h
        exact s_writeSort hp (fun σ' w => h σ' _ _ _ w (plf hk (Or.inr ⟨Or.inr (Or.inl rfl), rfl, rfl, rfl⟩)))
  · have h0 : fltN m e = 0 := (pk_lEQ (b := 0) (by omega) (by decide)).mp q
    rw [if_neg (fun z => z.1 h0), h0, Nat.zero_mul] at h
    refine ⟨fun q3 => ?_, fun q3 => ?_⟩ <;> unfold w_X2_writeFloat_62
    · have q3 := l_ge0.mp q3
      rw [decide_eq_false (show ¬ m.toInt < 0 by omega)] at h
      refine s_writeSort hp (fun σ' w => h σ' _ _ _ w (plf hk (Or.inl ⟨rfl, Or.inl ⟨rfl, by decide, by decide, by decide, ?_⟩⟩)))
      show U false 0 = _
      rw [Int64.toInt_zero, Int.natAbs_zero, Nat.zero_mul]; rfl
    · have q3 : m.toInt < 0 := by
        rcases ilg m.toInt 0 with g | g
        · exact g
        · exact absurd (l_ge0.mpr g) q3
      rw [decide_eq_true q3] at h
      exact s_writeSort hp (fun σ' w => h σ' _ _ _ w (plf hk (Or.inl ⟨rfl, Or.inr ⟨rfl, rfl, rfl, rfl⟩⟩)))
theorem s_putC {A : AS} {x1 x2 : Int32} {m : Int64} {e : Int32} {Q : Int32 → St → Prop} {σ : St} (hR : RC A σ) (h : ∀ σ', RC (t_put A x1 x2 m e).2 σ' → Q (t_put A x1 x2 m e).1 σ') : w_X4_put Q x1 x2 m e σ := by
  unfold w_X4_put
  unfold t_put at h
  have bad : ¬ (isR x1 ∧ (-9007199254740991 ≤ m.toInt ∧ m.toInt ≤ 9007199254740991) ∧ (-1074 ≤ e.toInt ∧ e.toInt ≤ 971)) → Q (-3) σ := by
    intro c
    rw [if_neg c] at h
    exact h σ hR
  refine s_isRowC (fun c1 => ⟨fun z => absurd z n10, fun _ => ⟨fun q => bad ?_, fun q => ⟨fun q2 => bad ?_, fun q2 => ⟨fun q3 => bad ?_, fun q3 => ⟨fun q4 => ?_, fun q4 => bad ?_⟩⟩⟩⟩⟩) (fun c1 => ⟨fun _ => bad (fun z => c1 z.1), fun z => absurd rfl z⟩)
  · rw [l_le, lg1] at q; rintro ⟨-, ⟨a, -⟩, -⟩; omega
  · rw [l_le, lg2] at q2; rintro ⟨-, ⟨-, a⟩, -⟩; omega
  · rw [i_lt, kl] at q3; rintro ⟨-, -, a, -⟩; omega
  · rw [l_le, lg1] at q; rw [l_le, lg2] at q2; rw [i_lt, kl] at q3; rw [i_le, kh] at q4
    have c2 : -9007199254740991 ≤ m.toInt ∧ m.toInt ≤ 9007199254740991 := by omega
    rw [if_pos ⟨c1, c2, by omega, q4⟩] at h
    obtain ⟨e1, l1⟩ := isR_nI c1
    have hr := hR.1 _ l1
    refine ⟨by rw [e1]; exact in_nI l1 (by decide), fun g => ?_, fun g => ?_⟩
    · rw [hr.gone] at g
      rw [if_neg g] at h
      obtain ⟨r1, r2, r3, r4, r5, r6⟩ := hr.2.2 g
      refine s_hasC1 r5 r3 (fun c3 => ⟨fun _ => ?_, fun z => absurd z n10⟩) (fun c3 => ⟨fun z => absurd rfl z, fun _ => by rw [if_neg c3] at h; exact h σ hR⟩)
      rw [if_pos c3] at h
      obtain ⟨e3, l3, i3⟩ := pos_nI c3.1 (n := 40) (by omega) (by decide)
      have hp : ix x2 < 40 := by omega
      have fin : ∀ {W : Int64} {P S : Int32} (σ' : St), WrC σ σ' (rowC (ix x1)) (ix x2) W P S → PlC (A.1 (ix x1)).1 S W P (putP (A.1 (ix x1)).1 m e) → Q 0 σ' := fun σ' w hv => h σ' (hR.row l1 w.cr (hr.wr g w hv))
      have kk : ∀ n : Nat, n < 100 → (gI σ (rowC (ix x1)) 1 = nI n ↔ (A.1 (ix x1)).1 = n) := fun n hn => l2_eq (n := n) _ r4 hn
      have pli : ∀ {W : Int64} {v : Pl}, (A.1 (ix x1)).1 < 4 → W = v.1 → PlC (A.1 (ix x1)).1 0 W 0 v := by
        intro W v c hw
        unfold PlC; rw [if_pos c]; exact ⟨rfl, hw, rfl⟩
      rw [e3]
      unfold w_X2_write
      rintro y1 rfl
      refine ⟨fun z => ?_, fun z => ?_, fun z => ?_, fun z => ?_, fun z => ?_, fun z0 z1 z2 z3 z4 => ?_⟩
      · have z : (A.1 (ix x1)).1 = 0 := (kk 0 (by decide)).mp z
        refine s_writeNumber hp (fun σ' w => fin σ' w (pli (by omega) ?_))
        unfold putP; rw [if_pos z]
      · have z : (A.1 (ix x1)).1 = 1 := (kk 1 (by decide)).mp z
        refine s_writeNumber hp (fun σ' w => fin σ' w (pli (by omega) ?_))
        unfold putP; rw [if_neg (by omega), if_pos z]
      · have z : (A.1 (ix x1)).1 = 2 := (kk 2 (by decide)).mp z
        refine s_writeNumber hp (fun σ' w => fin σ' w (pli (by omega) ?_))
        unfold putP; rw [if_neg (by omega), if_neg (by omega), if_pos z]
      · have z : (A.1 (ix x1)).1 = 3 := (kk 3 (by decide)).mp z
        refine s_writeNumber hp (fun σ' w => fin σ' w (pli (by omega) ?_))
        unfold putP; rw [if_neg (by omega), if_neg (by omega), if_neg (by omega), if_pos z]
      · have z : (A.1 (ix x1)).1 = 4 := (kk 4 (by decide)).mp z
        refine s_writeFloat (kd := (A.1 (ix x1)).1) (by omega) hp (by omega) (by omega) q4 (fun σ' W P S w hv => fin σ' w ?_)
        unfold putP; rw [if_neg (by omega), if_neg (by omega), if_neg (by omega), if_neg (by omega), if_pos z]
        exact hv
      · have z0 : ¬ (A.1 (ix x1)).1 = ((0 : Nat) : Int) := fun y => z0 ((kk 0 (by decide)).mpr y)
        have z1 : ¬ (A.1 (ix x1)).1 = ((1 : Nat) : Int) := fun y => z1 ((kk 1 (by decide)).mpr y)
        have z2 : ¬ (A.1 (ix x1)).1 = ((2 : Nat) : Int) := fun y => z2 ((kk 2 (by decide)).mpr y)
        have z3 : ¬ (A.1 (ix x1)).1 = ((3 : Nat) : Int) := fun y => z3 ((kk 3 (by decide)).mpr y)
        have z4 : ¬ (A.1 (ix x1)).1 = ((4 : Nat) : Int) := fun y => z4 ((kk 4 (by decide)).mpr y)
        refine s_writeNumber hp (fun σ' w => fin σ' w (plf (by omega) (Or.inl ?_)))
        unfold putP; rw [if_neg (by omega), if_neg (by omega), if_neg (by omega), if_neg (by omega), if_neg (by omega)]
        exact ⟨rfl, Or.inl ⟨rfl, by omega, by omega, q4, rfl⟩⟩
    · rw [hr.gone] at g
      rw [if_pos g] at h; exact h σ hR
  · rw [i_le, kh] at q4; rintro ⟨-, -, -, a⟩; exact q4 a
