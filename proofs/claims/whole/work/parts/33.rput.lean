/-! the reference puts, marks and copies -/
theorem plr {kd : Int} {w : Int64} {s : Int32} {d : UInt64} {p : Pl} (c : ¬ kd < 4) (h : s = nI p.2.1 ∧ (p.2.1 = 0 ∨ p.2.1 = 3 → d = p.2.2)) : PlR kd w s d p := by
  unfold PlR; rw [if_neg c]; exact h
theorem frp_J {σ : St} {k : Nat} {v : Int64} : FrP k σ (uJ σ 3 k v) := by
  refine ⟨fun c _ => rfl, fun j hj => ⟨rfl, ?_, rfl⟩⟩
  rw [uJ_w, gJ_wJ_eq, updL_ne hj]
theorem frp_ID {σ : St} {k : Nat} {s : Int32} {v : UInt64} : FrP k σ (uD (uI σ 5 k s) 4 k v) ∧ gI (uD (uI σ 5 k s) 4 k v) 5 k = s ∧ gD (uD (uI σ 5 k s) 4 k v) 4 k = v := by
  refine ⟨⟨fun c h => ?_, fun j hj => ⟨?_, rfl, ?_⟩⟩, ?_, ?_⟩
  · rw [gI_uD, uI_w, gI_wI_ne h]
  · rw [gI_uD, uI_w, gI_wI_eq, upd_ne hj]
  · rw [uD_w, gD_wD_eq, vfu_ne hj]; rfl
  · rw [gI_uD, uI_w, gI_wI_eq, upd_eq]
  · rw [uD_w, gD_wD_eq, vfu_eq]
theorem rn_fT : Rn fT := rn_of (by decide) (by decide)
theorem s_putFloat {k : Nat} {m : Int64} {e : Int32} {Q : St → Prop} {σ : St} {kd : Int} (hk : k < 480) (hkd : ¬ kd < 4) (hm : m.toInt.natAbs < 2 ^ 53) (he1 : -1074 ≤ e.toInt) (he2 : e.toInt ≤ 971)
    (h : ∀ σ', FrP k σ σ' → PlR kd (gJ σ' 3 k) (gI σ' 5 k) (gD σ' 4 k) (fltP m e) → Q σ') : w_X5_putFloat Q (nI k) (U (decide (m.toInt < 0)) (m.toInt.natAbs * 2 ^ (e.toInt + 1074).toNat)) σ := by
  unfold w_X5_putFloat
  have hR : Rn (m.toInt.natAbs * 2 ^ (e.toInt + 1074).toNat) := rn_of hm (by omega)
  have e1 : (33554431 : Int64).toInt = 33554431 := by decide
  have e2 : (103 : Int32).toInt = 103 := by decide
  have hthr := flt_thr (m := m) (e := e) he1
  have hrnd := fun q => flt_rnd (s := decide (m.toInt < 0)) hm he1 he2 q
  refine s_made (by rw [e2]; decide) (by rw [e1]; decide) (by rw [e1, e2]; decide +kernel) ?_
  rw [e1, e2, show ((103 : Int) + 1074).toNat = 1177 by decide, decide_eq_false (show ¬ (33554431 : Int) < 0 by decide), show (33554431 : Int).natAbs = 33554431 by decide, show 33554431 * 2 ^ 1177 = fT from rfl]
  unfold fltP at h
  have hin : vp_in (nI k) 480 := in_nI hk (by decide)
  have fin : ∀ (s0 : Int32) (d : UInt64), s0 ≠ 0 → PlR kd (gJ (uD (uI σ 5 k s0) 4 k FP.dconst0) 3 k) s0 FP.dconst0 (if fltN m e ≠ 0 ∧ 128 < (bl (fltN m e) : Int) + fltW m e then (0, if m.toInt < 0 then 2 else 1, if m.toInt < 0 then dMinf else dInf) else (0, 0, U (decide (m.toInt < 0)) (fltN m e * 2 ^ (fltW m e + 1074).toNat))) → w_X5_putFloat_39 Q (nI k) d s0 (nI k) σ := by
    intro s0 d hs hp
    unfold w_X5_putFloat_39 w_X5_putFloat_61
    refine ⟨hin, ?_⟩
    rintro σ4 rfl
    rw [ix_nI (by omega)]
    have e5 : gI (uI σ 5 k s0) 5 k = s0 := by rw [uI_w, gI_wI_eq, upd_eq]
    rw [e5]
    refine ⟨hin, fun _ => ⟨hin, ?_⟩, fun q => absurd q hs⟩
    rintro σ7 rfl
    have f := frp_ID (σ := σ) (k := k) (s := s0) (v := FP.dconst0)
    refine h _ f.1 ?_
    rw [f.2.1, f.2.2]
    exact hp
  have hfp : (0 : Int) < (fT : Int) := by
    unfold fT
    exact Int.natCast_pos.mpr (Nat.mul_pos (by decide) (Nat.two_pow_pos _))
  generalize m.toInt.natAbs * 2 ^ (e.toInt + 1074).toNat = n at hR hthr hrnd ⊢
  have clt : dcmpF (U (decide (m.toInt < 0)) n) (U false fT) .l < 0 ↔ sg (decide (m.toInt < 0)) n < (fT : Int) := by
    rw [dc_lt (nn_U _ _) (nn_U _ _), dk_U hR, dk_U rn_fT]; rfl
  have cgt : 0 < dcmpF (U (decide (m.toInt < 0)) n) (FP.dneg (U false fT)) .g ↔ -(fT : Int) < sg (decide (m.toInt < 0)) n := by
    rw [dc_gt (nn_U _ _) (nn_neg (nn_U _ _)), dk_neg, dk_U hR, dk_U rn_fT]; rfl
  rw [clt, cgt]
  have sgt : decide (m.toInt < 0) = true → sg (decide (m.toInt < 0)) n = -(n : Int) := fun q => by rw [q]; rfl
  have sgf : decide (m.toInt < 0) = false → sg (decide (m.toInt < 0)) n = (n : Int) := fun q => by rw [q]; rfl
  refine ⟨fun a => ⟨fun b => ?_, fun b => ?_⟩, fun a => ?_⟩
  · have hn : n < fT := by
      cases hs : decide (m.toInt < 0)
      · have := sgf hs; omega
      · have := sgt hs; omega
    obtain ⟨v1, v2⟩ := hrnd hn
    rw [if_neg (fun z => absurd (hthr.mpr z) (Nat.not_le.mpr hn))] at h
    unfold w_X5_putFloat_39 w_X5_putFloat_61
    refine ⟨hin, ?_⟩
    rintro σ4 rfl
    rw [ix_nI (by omega)]
    have e5 : gI (uI σ 5 k 0) 5 k = 0 := by rw [uI_w, gI_wI_eq, upd_eq]
    rw [e5]
    refine ⟨hin, fun q => absurd rfl q, fun _ => ⟨v1, by rw [v2]; exact u_vf _ _, hin, ?_⟩⟩
    rintro σ7 rfl
    rw [v2]
    have f := frp_ID (σ := σ) (k := k) (s := 0) (v := U (decide (m.toInt < 0)) (fltN m e * 2 ^ (fltW m e + 1074).toNat))
    refine h _ f.1 ?_
    rw [f.2.1, f.2.2]
    exact plr hkd ⟨rfl, fun _ => rfl⟩
  · have hs : decide (m.toInt < 0) = true := by
      cases hs : decide (m.toInt < 0)
      · have := sgf hs; omega
      · rfl
    have hn : fT ≤ n := by have := sgt hs; omega
    refine fin 2 _ (by decide) ?_
    rw [if_pos (hthr.mp hn), if_pos (of_decide_eq_true hs)]
    exact plr hkd ⟨rfl, fun z => absurd z (show ¬ ((2 : Nat) = 0 ∨ (2 : Nat) = 3) by decide)⟩
  · have hs : decide (m.toInt < 0) = false := by
      cases hs : decide (m.toInt < 0)
      · rfl
      · have := sgt hs; omega
    have hn : fT ≤ n := by have := sgf hs; omega
    refine fin 1 _ (by decide) ?_
    rw [if_pos (hthr.mp hn), if_neg (of_decide_eq_false hs)]
    exact plr hkd ⟨rfl, fun z => absurd z (show ¬ ((1 : Nat) = 0 ∨ (1 : Nat) = 3) by decide)⟩
theorem s_putR {A : AS} {x1 x2 : Int32} {m : Int64} {e : Int32} {Q : Int32 → St → Prop} {σ : St} (hR : RR A σ) (h : ∀ σ', RR (t_put A x1 x2 m e).2 σ' → Q (t_put A x1 x2 m e).1 σ') : w_X5_put Q x1 x2 m e σ := by
  unfold w_X5_put
  unfold t_put at h
  rintro σ1 rfl
  have hR := hR.thr
  generalize uI σ 0 0 0 = σ at hR ⊢
  have bad : ¬ (isR x1 ∧ (-9007199254740991 ≤ m.toInt ∧ m.toInt ≤ 9007199254740991) ∧ (-1074 ≤ e.toInt ∧ e.toInt ≤ 971)) → Q (-3) σ := by
    intro c
    rw [if_neg c] at h
    exact h σ hR
  have d1 : (-9007199254740991 : Int64).toInt = -9007199254740991 := by decide
  have d2 : (9007199254740991 : Int64).toInt = 9007199254740991 := by decide
  have d3 : (-1074 : Int64).toInt = -1074 := by decide
  have d4 : (971 : Int64).toInt = 971 := by decide
  refine s_isRowR (fun c1 => ⟨fun z => absurd z n10, fun _ => s_in (fun q => ⟨fun z => absurd z n10, fun _ => s_in (fun q2 => ⟨fun _ => ?_, fun z => absurd z n10⟩) (fun q2 => ⟨fun z => absurd rfl z, fun _ => bad ?_⟩)⟩) (fun q => ⟨fun _ => bad ?_, fun z => absurd rfl z⟩)⟩) (fun c1 => ⟨fun _ => bad (fun z => c1 z.1), fun z => absurd rfl z⟩)
  · rw [d1, d2] at q
    rw [i2l_toInt, d3, d4] at q2
    rw [if_pos ⟨c1, q, q2⟩] at h
    obtain ⟨e1, l1⟩ := isR_nI c1
    have hr := hR.1 _ l1
    have hin : vp_in x1 12 := by rw [e1]; exact in_nI l1 (by decide)
    rw [e1]
    refine s_isThereR l1 hr (fun g => ⟨fun _ => ?_, fun z => absurd z n10⟩) (fun g => ⟨fun z => absurd rfl z, fun _ => by rw [if_pos g] at h; exact h σ hR⟩)
    rw [if_neg g] at h
    obtain ⟨r1, r2, r3, r4, r5⟩ := hr.2 g
    refine s_isPlaceR l1 r3 r4 (fun c3 => ⟨fun _ => ?_, fun z => absurd z n10⟩) (fun c3 => ⟨fun z => absurd rfl z, fun _ => by rw [if_neg c3] at h; exact h σ hR⟩)
    rw [if_pos c3] at h
    obtain ⟨e3, l3, i3⟩ := pos_nI c3.1 (n := 40) (by have := c3.2; omega) (by decide)
    have hp : ix x2 < 40 := by have := c3.2; omega
    rintro y12 rfl
    rw [m40x e3]
    have hk : 40 * ix x1 + ix x2 < 480 := by omega
    rw [← e1]
    have fin : ∀ (σ' : St), FrP (40 * ix x1 + ix x2) σ σ' → PlR (A.1 (ix x1)).1 (gJ σ' 3 (40 * ix x1 + ix x2)) (gI σ' 5 (40 * ix x1 + ix x2)) (gD σ' 4 (40 * ix x1 + ix x2)) (putP (A.1 (ix x1)).1 m e) → Q 0 σ' := fun σ' w hv => h σ' (hR.put l1 hp g w hv)
    have kk : ∀ n : Nat, n < 100 → (gI σ 1 (ix x1) = nI n ↔ (A.1 (ix x1)).1 = n) := fun n hn => l2_eq (n := n) _ hr.1 hn
    generalize hkk : 40 * ix x1 + ix x2 = k at *
    have hin2 : vp_in (nI k) 480 := in_nI hk (by decide)
    have pli : ∀ {v : Pl} {W : Int64}, (A.1 (ix x1)).1 < 4 → W = v.1 → PlR (A.1 (ix x1)).1 (gJ (uJ σ 3 k W) 3 k) (gI (uJ σ 3 k W) 5 k) (gD (uJ σ 3 k W) 4 k) v := by
      intro v W c hw
      unfold PlR
      rw [if_pos c, uJ_w, gJ_wJ_eq, updL_eq]; exact hw
    refine ⟨hin, ?_⟩
    rintro y14 rfl
    refine ⟨fun z => ⟨hin2, ?_⟩, fun z => ⟨hin2, ?_⟩, fun z => ⟨hin2, ?_⟩, fun z => ⟨hin2, ?_⟩, fun z => ?_, fun z0 z1 z2 z3 z4 => ⟨hin2, ?_⟩⟩
    · have z : (A.1 (ix x1)).1 = 0 := (kk 0 (by decide)).mp z
      rintro σ16 rfl
      rw [ix_nI (by omega)]
      refine fin _ frp_J (pli (by omega) ?_)
      unfold putP; rw [if_pos z]
    · have z : (A.1 (ix x1)).1 = 1 := (kk 1 (by decide)).mp z
      rintro σ16 rfl
      rw [ix_nI (by omega)]
      refine fin _ frp_J (pli (by omega) ?_)
      unfold putP; rw [if_neg (by omega), if_pos z]
    · have z : (A.1 (ix x1)).1 = 2 := (kk 2 (by decide)).mp z
      rintro σ16 rfl
      rw [ix_nI (by omega)]
      refine fin _ frp_J (pli (by omega) ?_)
      unfold putP; rw [if_neg (by omega), if_neg (by omega), if_pos z]
    · have z : (A.1 (ix x1)).1 = 3 := (kk 3 (by decide)).mp z
      rintro σ16 rfl
      rw [ix_nI (by omega)]
      refine fin _ frp_J (pli (by omega) ?_)
      unfold putP; rw [if_neg (by omega), if_neg (by omega), if_neg (by omega), if_pos z]
    · have z : (A.1 (ix x1)).1 = 4 := (kk 4 (by decide)).mp z
      have hb := bl_le.mpr (show m.toInt.natAbs < 2 ^ 53 by omega)
      refine s_made q2.1 (by omega) (by omega) ?_
      refine s_putFloat (kd := (A.1 (ix x1)).1) hk (by omega) (by omega) q2.1 q2.2 (fun σ' w hv => fin σ' w ?_)
      unfold putP; rw [if_neg (by omega), if_neg (by omega), if_neg (by omega), if_neg (by omega), if_pos z]
      exact hv
    · have z0 : ¬ (A.1 (ix x1)).1 = ((0 : Nat) : Int) := fun y => z0 ((kk 0 (by decide)).mpr y)
      have z1 : ¬ (A.1 (ix x1)).1 = ((1 : Nat) : Int) := fun y => z1 ((kk 1 (by decide)).mpr y)
      have z2 : ¬ (A.1 (ix x1)).1 = ((2 : Nat) : Int) := fun y => z2 ((kk 2 (by decide)).mpr y)
      have z3 : ¬ (A.1 (ix x1)).1 = ((3 : Nat) : Int) := fun y => z3 ((kk 3 (by decide)).mpr y)
      have z4 : ¬ (A.1 (ix x1)).1 = ((4 : Nat) : Int) := fun y => z4 ((kk 4 (by decide)).mpr y)
      rintro σ27 rfl
      have hb := bl_le.mpr (show m.toInt.natAbs < 2 ^ 53 by omega)
      refine s_made q2.1 (by omega) (by omega) ?_
      refine ⟨hin2, ?_⟩
      rintro σ31 rfl
      rw [ix_nI (by omega)]
      have f := frp_ID (σ := σ) (k := k) (s := 0) (v := U (decide (m.toInt < 0)) (m.toInt.natAbs * 2 ^ (e.toInt + 1074).toNat))
      refine fin _ f.1 (plr (by omega) ?_)
      rw [f.2.1, f.2.2]
      unfold putP; rw [if_neg (by omega), if_neg (by omega), if_neg (by omega), if_neg (by omega), if_neg (by omega)]
      exact ⟨rfl, fun _ => rfl⟩
  · rw [i2l_toInt, d3, d4] at q2; rintro ⟨-, -, a⟩; exact q2 a
  · rw [d1, d2] at q; rintro ⟨-, a, -⟩; exact q a
theorem s_markR {A : AS} {x1 x2 x3 : Int32} {Q : Int32 → St → Prop} {σ : St} (hR : RR A σ) (h : ∀ σ', RR (t_mark A x1 x2 x3).2 σ' → Q (t_mark A x1 x2 x3).1 σ') : w_X5_mark Q x1 x2 x3 σ := by
  unfold w_X5_mark
  unfold t_mark at h
  rintro σ1 rfl
  have hR := hR.thr
  generalize uI σ 0 0 0 = σ at hR ⊢
  have bad : ¬ (isR x1 ∧ (0 ≤ x3.toInt ∧ x3.toInt ≤ 5)) → Q (-3) σ := by
    intro c
    rw [if_neg c] at h
    exact h σ hR
  have c0 : (0 : Int64).toInt = 0 := by decide
  have c5 : (5 : Int64).toInt = 5 := by decide
  refine s_isRowR (fun c1 => ⟨fun z => absurd z n10, fun _ => s_in (fun q => ⟨fun _ => ?_, fun z => absurd z n10⟩) (fun q => ⟨fun z => absurd rfl z, fun _ => bad ?_⟩)⟩) (fun c1 => ⟨fun _ => bad (fun z => c1 z.1), fun z => absurd rfl z⟩)
  · rw [i2l_toInt, c0, c5] at q
    rw [if_pos ⟨c1, q⟩] at h
    obtain ⟨e1, l1⟩ := isR_nI c1
    have hr := hR.1 _ l1
    have hin : vp_in x1 12 := by rw [e1]; exact in_nI l1 (by decide)
    rw [e1]
    refine s_isThereR l1 hr (fun g => ⟨fun _ => ?_, fun z => absurd z n10⟩) (fun g => ⟨fun z => absurd rfl z, fun _ => by rw [if_pos g] at h; exact h σ hR⟩)
    rw [if_neg g] at h
    obtain ⟨r1, r2, r3, r4, r5⟩ := hr.2 g
    refine s_isRealR l1 hr (fun c2 => ⟨fun _ => ?_, fun z => absurd z n10⟩) (fun c2 => ⟨fun z => absurd rfl z, fun _ => by rw [if_pos c2] at h; exact h σ hR⟩)
    rw [if_neg c2] at h
    refine s_isPlaceR l1 r3 r4 (fun c3 => ⟨fun _ => ?_, fun z => absurd z n10⟩) (fun c3 => ⟨fun z => absurd rfl z, fun _ => by rw [if_neg c3] at h; exact h σ hR⟩)
    rw [if_pos c3] at h
    obtain ⟨e3, l3, i3⟩ := pos_nI c3.1 (n := 40) (by have := c3.2; omega) (by decide)
    have hp : ix x2 < 40 := by have := c3.2; omega
    rintro y12 rfl
    rw [m40x e3]
    have hk : 40 * ix x1 + ix x2 < 480 := by omega
    rw [← e1]
    have fin : ∀ (σ' : St), FrP (40 * ix x1 + ix x2) σ σ' → PlR (A.1 (ix x1)).1 (gJ σ' 3 (40 * ix x1 + ix x2)) (gI σ' 5 (40 * ix x1 + ix x2)) (gD σ' 4 (40 * ix x1 + ix x2)) (markP (A.1 (ix x1)).1 x3) → Q 0 σ' := fun σ' w hv => h σ' (hR.put l1 hp g w hv)
    have k4 : gI σ 1 (ix x1) = 4 ↔ (A.1 (ix x1)).1 = 4 := l2_eq (n := 4) _ hr.1 (by decide)
    generalize hkk : 40 * ix x1 + ix x2 = k at *
    have hin2 : vp_in (nI k) 480 := in_nI hk (by decide)
    have w201 : ∀ (s : Int32) (d : UInt64), s = nI (markP (A.1 (ix x1)).1 x3).2.1 → ((markP (A.1 (ix x1)).1 x3).2.1 = 0 ∨ (markP (A.1 (ix x1)).1 x3).2.1 = 3 → d = (markP (A.1 (ix x1)).1 x3).2.2) → w_X5_mark_201 Q d (nI k) (uI σ 5 k s) := by
      intro s d hs hd
      unfold w_X5_mark_201
      refine ⟨hin2, ?_⟩
      rintro σ17 rfl
      rw [ix_nI (by omega)]
      have f := frp_ID (σ := σ) (k := k) (s := s) (v := d)
      refine fin _ f.1 (plr c2 ?_)
      rw [f.2.1, f.2.2]
      exact ⟨hs, hd⟩
    have mk1 : ∀ (e : Int32) (d : UInt64) {Q2 : UInt64 → St → Prop} {τ : St}, -1074 ≤ e.toInt → e.toInt ≤ 0 → d = U false (1 * 2 ^ (e.toInt + 1074).toNat) → Q2 d τ → w_X5_made Q2 1 e τ := by
      rintro e d Q2 τ a b rfl hq
      have e1 : (1 : Int64).toInt = 1 := by decide
      refine s_made a (by rw [e1]; decide) (by rw [e1, show bl (1 : Int).natAbs = 1 by decide]; omega) ?_
      rw [e1]; exact hq
    have go : ∀ s0 : Int32, (s0 = 0 ↔ ¬ (A.1 (ix x1)).1 = 4) → w_X5_mark_84 Q x3 (nI k) s0 σ := by
      intro s0 hs0
      have g119 : ∀ s : Int32, s = nI (markP (A.1 (ix x1)).1 x3).2.1 → w_X5_mark_119 Q x3 (nI k) s0 s (nI k) σ := by
        intro s hs
        unfold w_X5_mark_119
        refine ⟨hin2, ?_⟩
        rintro σ15 rfl
        rw [ix_nI (by omega)]
        have n3 := w201 s
        refine ⟨fun y3 => ⟨fun y4 => ⟨fun y5 => w201 s _ hs ?_, fun y5 => ⟨fun z => ?_, fun z => ?_⟩⟩, fun y4 => ⟨fun z => ?_, fun z => ?_⟩⟩, fun y3 => w201 s _ hs ?_⟩
        · unfold markP
          by_cases a0 : x3 = 0
          · rw [if_pos a0]; exact fun z => absurd z (by decide)
          · by_cases a1 : x3 = 1
            · rw [if_neg a0, if_pos a1]; exact fun z => absurd z (by decide)
            · by_cases a2 : x3 = 2
              · rw [if_neg a0, if_neg a1, if_pos a2]; exact fun _ => u_zero
              · exfalso
                have b0 : x3.toInt ≠ 0 := fun z => a0 (i_ext z)
                have b1 : x3.toInt ≠ 1 := fun z => a1 (i_ext z)
                have b2 : x3.toInt ≠ 2 := fun z => a2 (i_ext z)
                have b3 : x3.toInt ≠ 3 := fun z => y3 (i_ext z)
                have b4 : x3.toInt ≠ 4 := fun z => y4 (i_ext z)
                have b5 : x3.toInt ≠ 5 := fun z => y5 (i_ext z)
                omega
        · refine mk1 _ _ (by decide) (by decide) rfl (w201 s _ hs (fun _ => ?_))
          unfold markP
          rw [if_neg (by rw [y5]; decide), if_neg (by rw [y5]; decide), if_neg (by rw [y5]; decide), if_neg (by rw [y5]; decide), if_neg (by rw [y5]; decide), if_neg (hs0.mp z)]
          rfl
        · have z4 : (A.1 (ix x1)).1 = 4 := Decidable.byContradiction (fun q => z (hs0.mpr q))
          refine mk1 _ _ (by decide) (by decide) rfl (w201 s _ hs (fun _ => ?_))
          unfold markP
          rw [if_neg (by rw [y5]; decide), if_neg (by rw [y5]; decide), if_neg (by rw [y5]; decide), if_neg (by rw [y5]; decide), if_neg (by rw [y5]; decide), if_pos z4]
          rw [show (-149 : Int32).toInt = -149 by decide, show ((-149 : Int) + 1074).toNat = 925 by decide, Nat.one_mul]
        · have e1 : (9007199254740991 : Int64).toInt = 9007199254740991 := by decide
          refine s_made (by decide) (by rw [e1]; decide) (by rw [e1]; decide +kernel) (w201 s _ hs (fun _ => ?_))
          unfold markP
          rw [if_neg (by rw [y4]; decide), if_neg (by rw [y4]; decide), if_neg (by rw [y4]; decide), if_neg (by rw [y4]; decide), if_pos y4, if_neg (hs0.mp z)]
          rw [e1, kh, decide_eq_false (show ¬ (9007199254740991 : Int) < 0 by decide), show ((971 : Int) + 1074).toNat = 2045 by decide, show (9007199254740991 : Int).natAbs = 2 ^ 53 - 1 by decide]
        · have z4 : (A.1 (ix x1)).1 = 4 := Decidable.byContradiction (fun q => z (hs0.mpr q))
          have e1 : (16777215 : Int64).toInt = 16777215 := by decide
          refine s_made (by decide) (by rw [e1]; decide) (by rw [e1]; decide +kernel) (w201 s _ hs (fun _ => ?_))
          unfold markP
          rw [if_neg (by rw [y4]; decide), if_neg (by rw [y4]; decide), if_neg (by rw [y4]; decide), if_neg (by rw [y4]; decide), if_pos y4, if_pos z4]
          rw [e1, show (104 : Int32).toInt = 104 by decide, decide_eq_false (show ¬ (16777215 : Int) < 0 by decide), show ((104 : Int) + 1074).toNat = 1178 by decide, show (16777215 : Int).natAbs = 2 ^ 24 - 1 by decide]
        · unfold markP
          rw [if_neg (by rw [y3]; decide), if_neg (by rw [y3]; decide), if_neg (by rw [y3]; decide), if_pos y3]
          exact fun _ => u_mzero
      unfold w_X5_mark_84
      refine ⟨fun y0 => ⟨fun y1 => ⟨fun y2 => g119 0 ?_, fun y2 => g119 3 ?_⟩, fun y1 => g119 2 ?_⟩, fun y0 => g119 1 ?_⟩
      · unfold markP
        rw [if_neg y0, if_neg y1, if_neg y2]
        split
        · rfl
        · split <;> rfl
      · unfold markP
        rw [if_neg y0, if_neg y1, if_pos y2]; rfl
      · unfold markP
        rw [if_neg y0, if_pos y1]; rfl
      · unfold markP
        rw [if_pos y0]; rfl
    refine ⟨hin, fun y => go 0 ⟨fun _ z => y (k4.mpr z), fun _ => rfl⟩, fun y => go 1 ⟨fun z => absurd z n10, fun z => absurd (k4.mp y) z⟩⟩
  · rw [i2l_toInt, c0, c5] at q; rintro ⟨-, a⟩; exact q a
/-- a row of places, copied -/
def cpA {α : Type} (F : Nat → α) (a b lo hi : Nat) : Nat → α := fun j => if b + lo ≤ j ∧ j < b + hi then F (a + (j - b)) else F j
theorem cpA_up {α : Type} {F : Nat → α} {a b i : Nat} : vf_upd (cpA F a b 0 i) (b + i) (F (a + i)) = cpA F a b 0 (i + 1) := by
  funext j
  unfold vf_upd cpA
  by_cases c : j = b + i
  · rw [if_pos c, if_pos (by omega), show j - b = i by omega]
  · rw [if_neg c]
    by_cases c2 : b + 0 ≤ j ∧ j < b + i
    · rw [if_pos c2, if_pos (by omega)]
    · rw [if_neg c2, if_neg (by omega)]
theorem cpA_dn {α : Type} {F : Nat → α} {a b i n : Nat} (h : i < n) : vf_upd (cpA F a b (n - i) n) (b + (n - 1 - i)) (F (a + (n - 1 - i))) = cpA F a b (n - (i + 1)) n := by
  funext j
  unfold vf_upd cpA
  by_cases c : j = b + (n - 1 - i)
  · rw [if_pos c, if_pos (by omega), show j - b = n - 1 - i by omega]
  · rw [if_neg c]
    by_cases c2 : b + (n - i) ≤ j ∧ j < b + n
    · rw [if_pos c2, if_pos (by omega)]
    · rw [if_neg c2, if_neg (by omega)]
theorem cpA_out {α : Type} {F : Nat → α} {a b lo hi j : Nat} (h : ¬ (b + lo ≤ j ∧ j < b + hi)) : cpA F a b lo hi j = F j := if_neg h
theorem upd_vf (f : Nat → Int32) (k : Nat) (x : Int32) : upd f k x = vf_upd f k x := rfl
theorem updL_vf (f : Nat → Int64) (k : Nat) (x : Int64) : vp_updL f k x = vf_upd f k x := rfl
theorem s_copyR {A : AS} {x1 x2 x3 x4 x5 : Int32} {Q : Int32 → St → Prop} {σ : St} (hR : RR A σ) (h : ∀ σ', RR (t_copy A x1 x2 x3 x4 x5).2 σ' → Q (t_copy A x1 x2 x3 x4 x5).1 σ') : w_X5_copy Q x1 x2 x3 x4 x5 σ := by
  unfold w_X5_copy
  unfold t_copy at h
  rintro σ1 rfl
  have hR := hR.thr
  generalize uI σ 0 0 0 = σ at hR ⊢
  refine s_isRowR (fun c1 => ⟨fun z => absurd z n10, fun _ => s_isRowR (fun c3 => ⟨fun _ => ?_, fun z => absurd z n10⟩) (fun c3 => ⟨fun z => absurd rfl z, fun _ => ?_⟩)⟩) (fun c1 => ⟨fun _ => ?_, fun z => absurd rfl z⟩)
  · rw [if_pos ⟨c1, c3⟩] at h
    obtain ⟨e1, l1⟩ := isR_nI c1
    obtain ⟨e3, l3⟩ := isR_nI c3
    have hr := hR.1 _ l1
    have hs := hR.1 _ l3
    have hin1 : vp_in x1 12 := by rw [e1]; exact in_nI l1 (by decide)
    have hin3 : vp_in x3 12 := by rw [e3]; exact in_nI l3 (by decide)
    rw [e1, e3]
    refine s_isThereR l1 hr (fun g => ⟨fun z => absurd z n10, fun _ => ?_⟩) (fun g => ⟨fun _ => by rw [if_pos (Or.inl g)] at h; exact h σ hR, fun z => absurd rfl z⟩)
    refine s_isThereR l3 hs (fun g2 => ⟨fun _ => ?_, fun z => absurd z n10⟩) (fun g2 => ⟨fun z => absurd rfl z, fun _ => by rw [if_pos (Or.inr g2)] at h; exact h σ hR⟩)
    rw [if_neg (by rintro (z | z); exact g z; exact g2 z)] at h
    obtain ⟨r1, r2, r3, r4, r5⟩ := hr.2 g
    obtain ⟨p1, p2, p3, p4, p5⟩ := hs.2 g2
    rw [← e1, ← e3]
    refine ⟨hin1, hin3, fun q => ?_, fun q => ?_⟩
    · have ek : (A.1 (ix x1)).1 = (A.1 (ix x3)).1 := by rw [← hr.1, ← hs.1, q]
      rw [if_pos ek] at h
      rw [e1, e3]
      refine s_arePlacesR l1 r3 r4 (fun a1 => ⟨fun z => absurd z n10, fun _ => s_arePlacesR l3 p3 p4 (fun a2 => ⟨fun _ => ?_, fun z => absurd z n10⟩) (fun a2 => ⟨fun z => absurd rfl z, fun _ => by rw [if_neg (fun z => a2 z.2)] at h; exact h σ hR⟩)⟩) (fun a1 => ⟨fun _ => by rw [if_neg (fun z => a1 z.1)] at h; exact h σ hR, fun z => absurd rfl z⟩)
      rw [if_pos ⟨a1, a2⟩] at h
      have i2 : (ix x2 : Int) = x2.toInt := by rw [ix_toInt]; have := a1.2.1; omega
      have i4 : (ix x4 : Int) = x4.toInt := by rw [ix_toInt]; have := a2.2.1; omega
      have i5 : (ix x5 : Int) = x5.toInt := by rw [ix_toInt]; have := a1.1; omega
      have b1 : ix x2 + ix x5 ≤ 40 := by have := a1.2.2; omega
      have b2 : ix x4 + ix x5 ≤ 40 := by have := a2.2.2; omega
      have e2 : x2 = nI (ix x2) := i_of (by omega) (by omega)
      have e4 : x4 = nI (ix x4) := i_of (by omega) (by omega)
      have e5 : x5 = nI (ix x5) := i_of (by omega) (by omega)
      rintro y16 rfl y17 rfl
      rw [m40x e2, m40x e4]
      generalize ha : 40 * ix x1 + ix x2 = a at *
      generalize hb : 40 * ix x3 + ix x4 = b at *
      generalize hn : ix x5 = n at *
      have hal : a + n ≤ 480 := by omega
      have hbl : b + n ≤ 480 := by omega
      have fin : Q x5 (sR σ (cpA (gJ σ 3) a b 0 n) (cpA (gD σ 4) a b 0 n) (cpA (gI σ 5) a b 0 n)) := by
        refine h _ (hR.row ⟨fun c _ _ d => sR_i d, fun j _ => by rw [sR_i (by decide), sR_i (by decide)]; exact ⟨rfl, rfl⟩, fun j hj => ?_⟩ ?_)
        · rw [sR_3, sR_4, sR_5, cpA_out (by omega), cpA_out (by omega), cpA_out (by omega)]
          exact ⟨rfl, rfl, rfl⟩
        · unfold RowR
          rw [sR_i (by decide), sR_i (by decide), sR_3, sR_4, sR_5]
          refine ⟨hs.1, fun _ => ⟨p1, p2, p3, p4, fun p hp => ?_⟩⟩
          show PlR (A.1 (ix x3)).1 _ _ _ (va_cpy (A.1 (ix x1)).2.2 (A.1 (ix x3)).2.2 (ix x2) (ix x4) n p)
          unfold va_cpy cpA
          by_cases c : ix x4 ≤ p ∧ p < ix x4 + n
          · have c' : b + 0 ≤ 40 * ix x3 + p ∧ 40 * ix x3 + p < b + n := by omega
            rw [if_pos c, if_pos c', if_pos c', if_pos c', ← ek, show a + (40 * ix x3 + p - b) = 40 * ix x1 + (ix x2 + (p - ix x4)) by omega]
            exact r5 _ (by omega)
          · have c' : ¬ (b + 0 ≤ 40 * ix x3 + p ∧ 40 * ix x3 + p < b + n) := by omega
            rw [if_neg c, if_neg c', if_neg c', if_neg c']
            exact p5 p hp
      have step : ∀ (N i k : Nat) (F : Nat → Int64) (G : Nat → UInt64) (H : Nat → Int32), k < n → i < n → F (a + k) = gJ σ 3 (a + k) → G (a + k) = gD σ 4 (a + k) → H (a + k) = gI σ 5 (a + k) →
          w_X5_copy_105 Q N x5 (nI a) (nI b) (nI (i + 1)) (sR σ (vf_upd F (b + k) (gJ σ 3 (a + k))) (vf_upd G (b + k) (gD σ 4 (a + k))) (vf_upd H (b + k) (gI σ 5 (a + k)))) →
          w_X5_copy_131 (fun x5 x6 x7 x8 σ => w_X5_copy_105 Q N x5 x6 x7 x8 σ) Q x5 (nI a) (nI b) (nI i) (nI k) (sR σ F G H) := by
        intro N i k F G H hk hi f1 f2 f3 hq
        unfold w_X5_copy_131
        have va : vp_in (nI a + nI k) 480 := by rw [nI_add]; exact in_nI (by omega) (by decide)
        have vb : vp_in (nI b + nI k) 480 := by rw [nI_add]; exact in_nI (by omega) (by decide)
        refine ⟨va, vb, ?_⟩
        rintro σ20 rfl
        refine ⟨va, vb, ?_⟩
        rintro σ23 rfl
        refine ⟨va, vb, ?_⟩
        rintro σ26 rfl y27 rfl
        rw [nI_add, nI_add, ix_nI (by omega), ix_nI (by omega), nI_1, sR_3, sR_J, sR_4, sR_D, sR_5, sR_I, f1, f2, f3]
        exact hq
      have hle : nI b ≤ nI a ↔ b ≤ a := nI_leI (by omega) (by omega)
      rcases Nat.lt_or_ge a b with g3 | g3
      · have loop : ∀ (d i : Nat), i + d = n → w_X5_copy_105 Q (d + 1) x5 (nI a) (nI b) (nI i) (sR σ (cpA (gJ σ 3) a b (n - i) n) (cpA (gD σ 4) a b (n - i) n) (cpA (gI σ 5) a b (n - i) n)) := by
          intro d
          induction d with
          | zero =>
            intro i hi
            have : i = n := by omega
            subst this
            rw [w_X5_copy_105, e5, Nat.sub_self]
            exact ⟨fun _ => by rw [← e5]; exact fin, fun q => absurd (Int32.le_refl _) q⟩
          | succ d ih =>
            intro i hi
            rw [w_X5_copy_105]
            refine ⟨fun q => ?_, fun _ => ⟨fun q => absurd (hle.mp q) (by omega), fun _ => ?_⟩⟩
            · rw [e5] at q
              have := (nI_leI (a := n) (b := i) (by omega) (by omega)).mp q
              omega
            · have es : x5 - (1 : Int32) - nI i = nI (n - 1 - i) := by
                rw [e5, show (1 : Int32) = nI 1 from rfl, pk_sub (by omega), pk_sub (by omega)]
              rw [es]
              refine step _ i (n - 1 - i) _ _ _ (by omega) (by omega) (cpA_out (by omega)) (cpA_out (by omega)) (cpA_out (by omega)) ?_
              rw [cpA_dn (by omega), cpA_dn (by omega), cpA_dn (by omega)]
              exact ih (i + 1) (by omega)
        have key := loop n 0 (by omega)
        have e0 : ∀ {α : Type} (F : Nat → α), cpA F a b (n - 0) n = F := fun F => funext fun j => cpA_out (by omega)
        rw [e0, e0, e0, sR_self] at key
        exact ⟨n + 1, key⟩
      · have loop : ∀ (d i : Nat), i + d = n → w_X5_copy_105 Q (d + 1) x5 (nI a) (nI b) (nI i) (sR σ (cpA (gJ σ 3) a b 0 i) (cpA (gD σ 4) a b 0 i) (cpA (gI σ 5) a b 0 i)) := by
          intro d
          induction d with
          | zero =>
            intro i hi
            have : i = n := by omega
            subst this
            rw [w_X5_copy_105, e5]
            exact ⟨fun _ => by rw [← e5]; exact fin, fun q => absurd (Int32.le_refl _) q⟩
          | succ d ih =>
            intro i hi
            rw [w_X5_copy_105]
            refine ⟨fun q => ?_, fun _ => ⟨fun _ => ?_, fun q => absurd (hle.mpr g3) q⟩⟩
            · rw [e5] at q
              have := (nI_leI (a := n) (b := i) (by omega) (by omega)).mp q
              omega
            · refine step _ i i _ _ _ (by omega) (by omega) (cpA_out (by omega)) (cpA_out (by omega)) (cpA_out (by omega)) ?_
              rw [cpA_up, cpA_up, cpA_up]
              exact ih (i + 1) (by omega)
        have key := loop n 0 (by omega)
        have e0 : ∀ {α : Type} (F : Nat → α), cpA F a b 0 0 = F := fun F => funext fun j => cpA_out (by omega)
        rw [e0, e0, e0, sR_self] at key
        exact ⟨n + 1, key⟩
    · rw [if_neg (fun z => q (i_ext (by rw [hr.1, hs.1, z])))] at h
      exact h σ hR
  · rw [if_neg (fun z => c3 z.2)] at h; exact h σ hR
  · rw [if_neg (fun z => c1 z.1)] at h; exact h σ hR
