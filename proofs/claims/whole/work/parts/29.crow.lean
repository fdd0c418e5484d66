/-! the class's calls of rows -/
theorem k3 : (3 : Int32).toInt = 3 := by decide
theorem k5 : (5 : Int32).toInt = 5 := by decide
theorem k40 : (40 : Int32).toInt = 40 := by decide
theorem km40 : (-40 : Int32).toInt = -40 := by decide
theorem k2 : (2 : Int32).toInt = 2 := by decide
theorem kl : (-1074 : Int32).toInt = -1074 := by decide
theorem kh : (971 : Int32).toInt = 971 := by decide
theorem km1 : (-1 : Int32).toInt = -1 := by decide
theorem lg1 : (-9007199254740992 : Int64).toInt = -9007199254740992 := by decide
theorem lg2 : (9007199254740992 : Int64).toInt = 9007199254740992 := by decide
theorem n10 : ¬ (1 : Int32) = 0 := by decide
theorem RowC.gone {σ : St} {c : Nat} {R : RwA} (h : RowC σ c R) : gI σ c 0 = 0 ↔ R.1 = -1 := h.2.1.symm
theorem s_rowC {A : AS} {x1 x2 x3 : Int32} {Q : Int32 → St → Prop} {σ : St} (hR : RC A σ) (h : ∀ σ', RC (t_row A x1 x2 x3).2 σ' → Q (t_row A x1 x2 x3).1 σ') : w_X4_row Q x1 x2 x3 σ := by
  unfold w_X4_row
  unfold t_row at h
  have bad : ¬ (isR x1 ∧ (0 ≤ x2.toInt ∧ x2.toInt ≤ 5) ∧ x3.toInt ≤ 40) → Q (-3) σ := by
    intro c
    rw [if_neg c] at h
    exact h σ hR
  refine s_isRowC (fun c1 => ⟨fun z => absurd z n10, fun _ => ⟨fun q => bad ?_, fun q => ⟨fun q2 => bad ?_, fun q2 => ⟨fun q3 => ⟨fun q4 => ?_, fun q4 => ?_⟩, fun q3 => bad ?_⟩⟩⟩⟩) (fun c1 => ⟨fun _ => bad (fun z => c1 z.1), fun z => absurd rfl z⟩)
  · rw [i_lt, t0] at q; rintro ⟨-, ⟨a, -⟩, -⟩; omega
  · rw [i_lt, k5] at q2; rintro ⟨-, ⟨-, a⟩, -⟩; omega
  · rw [i_lt, t0] at q; rw [i_lt, k5] at q2; rw [i_le, k40] at q3
    have q4' := i_ge0.mp q4
    rw [if_pos ⟨c1, ⟨by omega, by omega⟩, q3⟩, if_pos q4'] at h
    obtain ⟨e1, l1⟩ := isR_nI c1
    obtain ⟨e3, l3, -⟩ := pos_nI q4' q3 (by decide)
    refine ⟨by rw [e1]; exact in_nI l1 (by decide), ?_⟩
    rw [e3]
    refine s_renewR (by omega) (by omega) l3 (fun σ' f hr => ?_)
    rw [← e3]
    exact h σ' (hR.row l1 f hr)
  · rw [i_lt, t0] at q; rw [i_lt, k5] at q2; rw [i_le, k40] at q3
    rw [if_pos ⟨c1, ⟨by omega, by omega⟩, q3⟩, if_neg (fun z => q4 (i_ge0.mpr z))] at h
    exact h σ hR
  · rw [i_le, k40] at q3; rintro ⟨-, -, a⟩; exact q3 a
theorem s_loseC {A : AS} {x1 : Int32} {Q : Int32 → St → Prop} {σ : St} (hR : RC A σ) (h : ∀ σ', RC (t_lose A x1).2 σ' → Q (t_lose A x1).1 σ') : w_X4_lose Q x1 σ := by
  unfold w_X4_lose
  unfold t_lose at h
  refine s_isRowC (fun c1 => ⟨fun _ => ?_, fun z => absurd z n10⟩) (fun c1 => ⟨fun z => absurd rfl z, fun _ => ?_⟩)
  · rw [if_pos c1] at h
    obtain ⟨e1, l1⟩ := isR_nI c1
    have hr := hR.1 _ l1
    refine ⟨by rw [e1]; exact in_nI l1 (by decide), fun q => ?_, fun q => ?_⟩
    · rw [hr.gone] at q
      rw [if_neg q] at h
      rintro σ4 rfl
      have e2 : gI (uI σ (rowC (ix x1)) 0 0) (rowC (ix x1)) 2 = nI (A.1 (ix x1)).2.1 := by
        rw [uI_w, gI_wI_eq, upd_ne (by decide)]; exact (hr.2.2 q).2.2.2.2.1
      rw [e2]
      refine h _ (hR.row l1 (frc_uI (by unfold cR; omega)) ⟨?_, ?_, fun z => absurd rfl z⟩)
      · rw [uI_w, gI_wI_eq, upd_eq]; exact Or.inl rfl
      · rw [uI_w, gI_wI_eq, upd_eq]; exact ⟨fun _ => rfl, fun _ => rfl⟩
    · rw [hr.gone] at q
      rw [if_pos q] at h
      exact h σ hR
  · rw [if_neg c1] at h
    exact h σ hR
theorem s_lookC {A : AS} {x1 x2 x3 : Int32} {Q : Int64 → St → Prop} {σ : St} (hR : RC A σ) (h : ∀ σ', RC A σ' → Q (t_look A x1 x2 x3) σ') : w_X4_look Q x1 x2 x3 σ := by
  unfold w_X4_look
  unfold t_look at h
  have h := h σ hR
  have bad : ¬ (isR x1 ∧ (0 ≤ x2.toInt ∧ x2.toInt ≤ 3)) → Q (-3) σ := by
    intro c
    rw [if_neg c] at h
    exact h
  refine s_isRowC (fun c1 => ⟨fun z => absurd z n10, fun _ => ⟨fun q => bad ?_, fun q => ⟨fun q2 => ?_, fun q2 => bad ?_⟩⟩⟩) (fun c1 => ⟨fun _ => bad (fun z => c1 z.1), fun z => absurd rfl z⟩)
  · rw [i_lt, t0] at q; rintro ⟨-, a, -⟩; omega
  · rw [i_lt, t0] at q; rw [i_le, k3] at q2
    rw [if_pos ⟨c1, by omega, q2⟩] at h
    obtain ⟨e1, l1⟩ := isR_nI c1
    have hr := hR.1 _ l1
    refine ⟨by rw [e1]; exact in_nI l1 (by decide), fun g => ?_, fun g => ?_⟩
    · rw [hr.gone] at g
      rw [if_neg g] at h
      obtain ⟨r1, r2, r3, r4, r5, r6⟩ := hr.2.2 g
      refine ⟨fun q3 => ?_, fun q3 => ?_⟩
      · have ek : (A.1 (ix x1)).1 = x2.toInt := by rw [← r4, q3]
        rw [if_pos ek] at h
        refine s_hasC1 r5 r3 (fun c3 => ⟨fun _ => ?_, fun z => absurd z n10⟩) (fun c3 => ⟨fun z => absurd rfl z, fun _ => ?_⟩)
        · rw [if_pos c3] at h
          obtain ⟨e3, l3, i3⟩ := pos_nI c3.1 (n := 40) (by omega) (by decide)
          have hp : ix x3 < 40 := by omega
          refine ⟨by rw [e3]; exact in_nI hp (by decide), ?_⟩
          have hv := r6 _ hp
          unfold PlC at hv
          rw [if_pos (by omega)] at hv
          rw [hv.2.1]; exact h
        · rw [if_neg c3] at h; exact h
      · rw [if_neg (fun z => q3 (i_ext (r4.trans z)))] at h; exact h
    · rw [hr.gone] at g
      rw [if_pos g] at h; exact h
  · rw [i_le, k3] at q2; rintro ⟨-, -, a⟩; exact q2 a
theorem s_seeC {A : AS} {n : Nat} {x1 x2 : Int32} {Q : UInt64 → St → Prop} {σ : St} (hR : RC A σ) (ho : OK n A) (h : ∀ σ', RC A σ' → Q (t_see A x1 x2) σ') : w_X4_see Q x1 x2 σ := by
  unfold w_X4_see
  unfold t_see at h
  have h := h σ hR
  have bad : ¬ (isR x1 ∧ (A.1 (ix x1)).1 ≠ -1 ∧ 4 ≤ (A.1 (ix x1)).1 ∧ isPl (A.1 (ix x1)) x2) → Q FP.dconst0 σ := by
    intro c
    rw [if_neg c] at h
    rw [u_zero]; exact h
  refine s_isRowC (fun c1 => ⟨fun _ => ?_, fun z => absurd z n10⟩) (fun c1 => ⟨fun z => absurd rfl z, fun _ => bad (fun z => c1 z.1)⟩)
  obtain ⟨e1, l1⟩ := isR_nI c1
  have hr := hR.1 _ l1
  refine ⟨by rw [e1]; exact in_nI l1 (by decide), fun g => bad ?_, fun g => ?_⟩
  · rw [hr.gone] at g
    exact fun z => z.2.1 g
  · rw [hr.gone] at g
    obtain ⟨r1, r2, r3, r4, r5, r6⟩ := hr.2.2 g
    refine s_isFloating r4 r2 (fun c2 => ⟨fun z => absurd z n10, fun _ => ?_⟩) (fun c2 => ⟨fun _ => bad (fun z => by omega), fun z => absurd rfl z⟩)
    refine s_hasC1 r5 r3 (fun c3 => ⟨fun _ => ?_, fun z => absurd z n10⟩) (fun c3 => ⟨fun z => absurd rfl z, fun _ => bad (fun z => c3 z.2.2.2)⟩)
    rw [if_pos ⟨c1, g, by omega, c3⟩] at h
    obtain ⟨e3, l3, i3⟩ := pos_nI c3.1 (n := 40) (by omega) (by decide)
    have hp : ix x2 < 40 := by omega
    rw [e3]
    refine s_asDouble hp (r6 _ hp) (ho.1 _ l1 g _ hp) ?_
    unfold dblP
    rw [if_neg c2]; exact h
theorem s_compareC {A : AS} {n : Nat} {x1 x2 : Int32} {y : UInt64} {Q : Int32 → St → Prop} {σ : St} (hR : RC A σ) (ho : OK n A) (hy : nn y) (hnn : ∀ kd v, okP kd v → nn (dblP kd v)) (h : ∀ σ', RC A σ' → Q (t_compare A x1 x2 y) σ') : w_X4_compare Q x1 x2 y σ := by
  unfold w_X4_compare
  unfold t_compare at h
  have h := h σ hR
  refine s_isRowC (fun c1 => ⟨fun _ => ?_, fun z => absurd z n10⟩) (fun c1 => ⟨fun z => absurd rfl z, fun _ => by rw [if_neg c1] at h; exact h⟩)
  rw [if_pos c1] at h
  obtain ⟨e1, l1⟩ := isR_nI c1
  have hr := hR.1 _ l1
  refine ⟨by rw [e1]; exact in_nI l1 (by decide), fun g => ?_, fun g => ?_⟩
  · rw [hr.gone] at g
    rw [if_neg g] at h
    obtain ⟨r1, r2, r3, r4, r5, r6⟩ := hr.2.2 g
    refine s_hasC1 r5 r3 (fun c3 => ⟨fun _ => ?_, fun z => absurd z n10⟩) (fun c3 => ⟨fun z => absurd rfl z, fun _ => by rw [if_neg c3] at h; exact h⟩)
    rw [if_pos c3] at h
    obtain ⟨e3, l3, i3⟩ := pos_nI c3.1 (n := 40) (by omega) (by decide)
    have hp : ix x2 < 40 := by omega
    have ok := ho.1 _ l1 g _ hp
    have hs : srtP (A.1 (ix x1)).1 ((A.1 (ix x1)).2.2 (ix x2)) < 4 := by
      unfold srtP
      unfold okP at ok
      split
      · decide
      · rename_i c
        rw [if_neg c] at ok
        omega
    rw [e3]
    refine s_sortAtC hp (r6 _ hp) ?_
    rw [← e3]
    refine ⟨fun q => ?_, fun q => ?_⟩
    · rw [if_neg (fun z => q (by rw [z]; rfl))] at h
      rw [e3]
      refine s_asDouble hp (r6 _ hp) ok ?_
      have hv := hnn _ _ ok
      generalize dblP (A.1 (ix x1)).1 ((A.1 (ix x1)).2.2 (ix x2)) = v at h hv ⊢
      refine ⟨fun a => ?_, fun a => ?_⟩
      · rw [dc_ge hv hy] at a
        rw [if_neg (by omega)] at h
        refine ⟨fun b => ⟨fun d => ?_, fun d => ?_⟩, fun b => ?_⟩
        · rw [dc_le hv hy] at d; rw [dc_eq hv hy] at b; omega
        · rw [dc_eq hv hy] at b
          rw [if_neg b] at h; exact h
        · rw [dc_eq hv hy] at b
          rw [if_pos b] at h; exact h
      · rw [dc_ge hv hy] at a
        rw [if_pos (by omega)] at h; exact h
    · have e : srtP (A.1 (ix x1)).1 ((A.1 (ix x1)).2.2 (ix x2)) = 3 := (nI_eq (by omega) (by decide)).mp q
      rw [if_pos e] at h; exact h
  · rw [hr.gone] at g
    rw [if_pos g] at h; exact h
theorem nn_dblP (kd : Int) (v : Pl) (h : okP kd v) : nn (dblP kd v) := by
  unfold okP at h
  unfold dblP
  split at h
  · rename_i c
    rw [if_pos c, u_l2d]; exact nn_U _ _
  · rename_i c
    rw [if_neg c]
    rcases h with ⟨-, b, n, -, e⟩ | ⟨-, e⟩ | ⟨-, e⟩ | ⟨-, e⟩ <;> rw [e]
    · exact nn_U _ _
    · exact nn_inf
    · exact nn_minf
    · exact nn_U _ _
theorem s_copyC {A : AS} {x1 x2 x3 x4 x5 : Int32} {Q : Int32 → St → Prop} {σ : St} (hR : RC A σ) (h : ∀ σ', RC (t_copy A x1 x2 x3 x4 x5).2 σ' → Q (t_copy A x1 x2 x3 x4 x5).1 σ') : w_X4_copy Q x1 x2 x3 x4 x5 σ := by
  unfold w_X4_copy
  unfold t_copy at h
  refine s_isRowC (fun c1 => ⟨fun z => absurd z n10, fun _ => s_isRowC (fun c3 => ⟨fun _ => ?_, fun z => absurd z n10⟩) (fun c3 => ⟨fun z => absurd rfl z, fun _ => ?_⟩)⟩) (fun c1 => ⟨fun _ => ?_, fun z => absurd rfl z⟩)
  · rw [if_pos ⟨c1, c3⟩] at h
    obtain ⟨e1, l1⟩ := isR_nI c1
    obtain ⟨e3, l3⟩ := isR_nI c3
    have hr := hR.1 _ l1
    have hs := hR.1 _ l3
    refine ⟨by rw [e1]; exact in_nI l1 (by decide), by rw [e3]; exact in_nI l3 (by decide), fun g => ?_, fun g => ⟨fun g2 => ?_, fun g2 => ?_⟩⟩
    · rw [hr.gone] at g
      rw [if_pos (Or.inl g)] at h; exact h σ hR
    · rw [hr.gone] at g
      rw [hs.gone] at g2
      rw [if_neg (by rintro (z | z); exact g z; exact g2 z)] at h
      obtain ⟨r1, r2, r3, r4, r5, r6⟩ := hr.2.2 g
      obtain ⟨p1, p2, p3, p4, p5, p6⟩ := hs.2.2 g2
      refine ⟨fun q => ?_, fun q => ?_⟩
      · have ek : (A.1 (ix x1)).1 = (A.1 (ix x3)).1 := by rw [← r4, ← p4, q]
        rw [if_pos ek] at h
        have bad : ¬ (arePl (A.1 (ix x1)) x2 x5 ∧ arePl (A.1 (ix x3)) x4 x5) → Q (-13) σ := by
          intro c
          rw [if_neg c] at h; exact h σ hR
        refine ⟨fun q5 => bad ?_, fun q5 => ?_⟩
        · rw [i_lt, t0] at q5; rintro ⟨⟨a, -⟩, -⟩; omega
        · rw [i_lt, t0] at q5
          refine s_hasC r5 r3 (by omega) (fun a1 => ⟨fun z => absurd z n10, fun _ => s_hasC p5 p3 (by omega) (fun a2 => ⟨fun _ => ?_, fun z => absurd z n10⟩) (fun a2 => ⟨fun z => absurd rfl z, fun _ => bad (fun z => a2 z.2.2)⟩)⟩) (fun a1 => ⟨fun _ => bad (fun z => a1 z.1.2), fun z => absurd rfl z⟩)
          rw [if_pos ⟨⟨by omega, a1⟩, ⟨by omega, a2⟩⟩] at h
          have i2 : (ix x2 : Int) = x2.toInt := by rw [ix_toInt]; omega
          have i4 : (ix x4 : Int) = x4.toInt := by rw [ix_toInt]; omega
          have i5 : (ix x5 : Int) = x5.toInt := by rw [ix_toInt]; omega
          have n2 : ¬ x2 < 0 := by rw [i_lt, t0]; omega
          have n4 : ¬ x4 < 0 := by rw [i_lt, t0]; omega
          have n5 : ¬ x5 < 0 := by rw [i_lt, t0]; omega
          unfold w_X2_writeAll
          refine ⟨n2, n4, n5, by omega, by omega, ?_⟩
          rintro σ1 rfl
          refine ⟨n2, n4, n5, by omega, by omega, ?_⟩
          rintro σ2 rfl
          refine ⟨n2, n4, n5, by omega, by omega, ?_⟩
          rintro σ3 rfl
          rw [gI_wJ]
          have u1 : gI (wI (wJ σ (rowC (ix x3) + 1) (va_cpy (gJ σ (rowC (ix x1) + 1)) (gJ σ (rowC (ix x3) + 1)) (ix x2) (ix x4) (ix x5))) (rowC (ix x3) + 2) (va_cpy (gI σ (rowC (ix x1) + 2)) (gI σ (rowC (ix x3) + 2)) (ix x2) (ix x4) (ix x5))) (rowC (ix x1) + 3) = gI σ (rowC (ix x1) + 3) := by
            rw [gI_wI_ne (by unfold rowC; omega), gI_wJ]
          have u2 : gI (wI (wJ σ (rowC (ix x3) + 1) (va_cpy (gJ σ (rowC (ix x1) + 1)) (gJ σ (rowC (ix x3) + 1)) (ix x2) (ix x4) (ix x5))) (rowC (ix x3) + 2) (va_cpy (gI σ (rowC (ix x1) + 2)) (gI σ (rowC (ix x3) + 2)) (ix x2) (ix x4) (ix x5))) (rowC (ix x3) + 3) = gI σ (rowC (ix x3) + 3) := by
            rw [gI_wI_ne (by omega), gI_wJ]
          rw [u1, u2]
          refine h _ (hR.row l3 (((frc_wJ (by unfold cR; omega)).tr (frc_wI (by unfold cR; omega))).tr (frc_wI (by unfold cR; omega))) ?_)
          unfold RowC
          have v0 : ∀ τ f g, gI (wI (wI (wJ τ (rowC (ix x3) + 1) f) (rowC (ix x3) + 2) g) (rowC (ix x3) + 3) (va_cpy (gI σ (rowC (ix x1) + 3)) (gI σ (rowC (ix x3) + 3)) (ix x2) (ix x4) (ix x5))) (rowC (ix x3)) = gI τ (rowC (ix x3)) := by
            intro τ f g
            rw [gI_wI_ne (by omega), gI_wI_ne (by omega), gI_wJ]
          have v2 : ∀ τ g k, gI (wI (wI τ (rowC (ix x3) + 2) g) (rowC (ix x3) + 3) k) (rowC (ix x3) + 2) = g := by
            intro τ g k
            rw [gI_wI_ne (by omega), gI_wI_eq]
          rw [v0, v2, gI_wI_eq, gJ_wI, gJ_wI, gJ_wJ_eq]
          refine ⟨hs.1, hs.2.1, fun _ => ⟨p1, p2, p3, p4, p5, fun p hp => ?_⟩⟩
          show PlC (A.1 (ix x3)).1 _ _ _ (va_cpy (A.1 (ix x1)).2.2 (A.1 (ix x3)).2.2 (ix x2) (ix x4) (ix x5) p)
          unfold va_cpy
          by_cases c : ix x4 ≤ p ∧ p < ix x4 + ix x5
          · rw [if_pos c, if_pos c, if_pos c, if_pos c, ← ek]
            exact r6 _ (by omega)
          · rw [if_neg c, if_neg c, if_neg c, if_neg c]
            exact p6 p hp
      · rw [if_neg (fun z => q (i_ext (by rw [r4, p4, z])))] at h
        exact h σ hR
    · rw [hs.gone] at g2
      rw [if_pos (Or.inr g2)] at h; exact h σ hR
  · rw [if_neg (fun z => c3 z.2)] at h; exact h σ hR
  · rw [if_neg (fun z => c1 z.1)] at h; exact h σ hR
theorem plf {kd : Int} {S : Int32} {W : Int64} {P : Int32} {p : Pl} (c : ¬ kd < 4) (h : (p.2.1 = 0 ∧ ((S = 0 ∧ W.toInt.natAbs < 2 ^ 53 ∧ -1074 ≤ P.toInt ∧ P.toInt ≤ 971 ∧ p.2.2 = U (decide (W.toInt < 0)) (W.toInt.natAbs * 2 ^ (P.toInt + 1074).toNat)) ∨ (S = 4 ∧ W = 0 ∧ P = 0 ∧ p.2.2 = U true 0)))
    ∨ ((p.2.1 = 1 ∨ p.2.1 = 2 ∨ p.2.1 = 3) ∧ S = nI p.2.1 ∧ W = 0 ∧ P = 0)) : PlC kd S W P p := by
  unfold PlC; rw [if_neg c]; exact h
theorem s_markC {A : AS} {x1 x2 x3 : Int32} {Q : Int32 → St → Prop} {σ : St} (hR : RC A σ) (h : ∀ σ', RC (t_mark A x1 x2 x3).2 σ' → Q (t_mark A x1 x2 x3).1 σ') : w_X4_mark Q x1 x2 x3 σ := by
  unfold w_X4_mark
  unfold t_mark at h
  have bad : ¬ (isR x1 ∧ (0 ≤ x3.toInt ∧ x3.toInt ≤ 5)) → Q (-3) σ := by
    intro c
    rw [if_neg c] at h
    exact h σ hR
  refine s_isRowC (fun c1 => ⟨fun z => absurd z n10, fun _ => ⟨fun q => bad ?_, fun q => ⟨fun q2 => ?_, fun q2 => bad ?_⟩⟩⟩) (fun c1 => ⟨fun _ => bad (fun z => c1 z.1), fun z => absurd rfl z⟩)
  · rw [i_lt, t0] at q; rintro ⟨-, a, -⟩; omega
  · rw [i_lt, t0] at q; rw [i_le, k5] at q2
    rw [if_pos ⟨c1, by omega, q2⟩] at h
    obtain ⟨e1, l1⟩ := isR_nI c1
    have hr := hR.1 _ l1
    refine ⟨by rw [e1]; exact in_nI l1 (by decide), fun g => ?_, fun g => ?_⟩
    · rw [hr.gone] at g
      rw [if_neg g] at h
      obtain ⟨r1, r2, r3, r4, r5, r6⟩ := hr.2.2 g
      refine s_isFloating r4 r2 (fun c2 => ⟨fun _ => ?_, fun z => absurd z n10⟩) (fun c2 => ⟨fun z => absurd rfl z, fun _ => by rw [if_pos c2] at h; exact h σ hR⟩)
      rw [if_neg c2] at h
      refine s_hasC1 r5 r3 (fun c3 => ⟨fun _ => ?_, fun z => absurd z n10⟩) (fun c3 => ⟨fun z => absurd rfl z, fun _ => by rw [if_neg c3] at h; exact h σ hR⟩)
      rw [if_pos c3] at h
      obtain ⟨e3, l3, i3⟩ := pos_nI c3.1 (n := 40) (by omega) (by decide)
      have hp : ix x2 < 40 := by omega
      have fin : ∀ {W : Int64} {P S : Int32} (σ' : St), WrC σ σ' (rowC (ix x1)) (ix x2) W P S → PlC (A.1 (ix x1)).1 S W P (markP (A.1 (ix x1)).1 x3) → Q 0 σ' := fun σ' w hv => h σ' (hR.row l1 w.cr (hr.wr g w hv))
      have k4 : gI σ (rowC (ix x1)) 1 = 4 ↔ (A.1 (ix x1)).1 = 4 := l2_eq (n := 4) _ r4 (by decide)
      have go : ∀ s0 : Int32, (s0 = 0 ↔ ¬ (A.1 (ix x1)).1 = 4) → w_X2_writeMark_13 (rowC (ix x1)) (fun σ8 => Q 0 σ8) x2 x3 s0 σ := by
        intro s0 hs0
        rw [e3]
        unfold w_X2_writeMark_13
        refine ⟨fun z => ?_, fun z => ?_, fun z => ?_, fun z => ?_, fun z => ⟨fun y => ?_, fun y => ?_⟩, fun y0 y1 y2 y3 y4 => ⟨fun y => ?_, fun y => ?_⟩⟩
        · refine s_writeSort hp (fun σ' w => fin σ' w (plf c2 (Or.inr ?_)))
          unfold markP; rw [if_pos z]; exact ⟨Or.inl rfl, rfl, rfl, rfl⟩
        · refine s_writeSort hp (fun σ' w => fin σ' w (plf c2 (Or.inr ?_)))
          unfold markP; rw [if_neg (by rw [z]; decide), if_pos z]; exact ⟨Or.inr (Or.inl rfl), rfl, rfl, rfl⟩
        · refine s_writeSort hp (fun σ' w => fin σ' w (plf c2 (Or.inr ?_)))
          unfold markP; rw [if_neg (by rw [z]; decide), if_neg (by rw [z]; decide), if_pos z]; exact ⟨Or.inr (Or.inr rfl), rfl, rfl, rfl⟩
        · refine s_writeSort hp (fun σ' w => fin σ' w (plf c2 (Or.inl ?_)))
          unfold markP; rw [if_neg (by rw [z]; decide), if_neg (by rw [z]; decide), if_neg (by rw [z]; decide), if_pos z]; exact ⟨rfl, Or.inr ⟨rfl, rfl, rfl, rfl⟩⟩
        · unfold w_X2_writeMark_96
          rintro y5 rfl
          refine ⟨fun y' => ?_, fun y' => absurd y y'⟩
          unfold w_X2_writeMark_117
          refine s_writeNumber hp (fun σ' w => fin σ' w (plf c2 (Or.inl ?_)))
          unfold markP
          rw [if_neg (by rw [z]; decide), if_neg (by rw [z]; decide), if_neg (by rw [z]; decide), if_neg (by rw [z]; decide), if_pos z, if_neg (hs0.mp y)]
          refine ⟨rfl, Or.inl ⟨rfl, by decide +kernel, by decide, by decide, ?_⟩⟩
          have e : (lshlF (1 : Int64) (53 : Int32) - (1 : Int64)).toInt = 9007199254740991 := by decide +kernel
          show U false ((2 ^ 53 - 1) * 2 ^ 2045) = _
          rw [e, kh, decide_eq_false (show ¬ (9007199254740991 : Int) < 0 by decide), show ((971 : Int) + 1074).toNat = 2045 by decide, show (9007199254740991 : Int).natAbs = 2 ^ 53 - 1 by decide]
        · unfold w_X2_writeMark_96
          rintro y5 rfl
          refine ⟨fun y' => absurd y' y, fun y' => ?_⟩
          unfold w_X2_writeMark_117
          refine s_writeNumber hp (fun σ' w => fin σ' w (plf c2 (Or.inl ?_)))
          unfold markP
          have y4 : (A.1 (ix x1)).1 = 4 := Decidable.byContradiction (fun q => y (hs0.mpr q))
          rw [if_neg (by rw [z]; decide), if_neg (by rw [z]; decide), if_neg (by rw [z]; decide), if_neg (by rw [z]; decide), if_pos z, if_pos y4]
          refine ⟨rfl, Or.inl ⟨rfl, by decide +kernel, by decide, by decide, ?_⟩⟩
          have e : (lshlF (1 : Int64) (24 : Int32) - (1 : Int64)).toInt = 16777215 := by decide +kernel
          show U false ((2 ^ 24 - 1) * 2 ^ 1178) = _
          rw [e, show (104 : Int32).toInt = 104 by decide, decide_eq_false (show ¬ (16777215 : Int) < 0 by decide), show ((104 : Int) + 1074).toNat = 1178 by decide, show (16777215 : Int).natAbs = 2 ^ 24 - 1 by decide]
        · unfold w_X2_writeMark_139
          refine s_writeNumber hp (fun σ' w => fin σ' w (plf c2 (Or.inl ?_)))
          unfold markP
          rw [if_neg y0, if_neg y1, if_neg y2, if_neg y3, if_neg y4, if_neg (hs0.mp y)]
          refine ⟨rfl, Or.inl ⟨rfl, by decide, by decide, by decide, ?_⟩⟩
          rw [kl]; rfl
        · unfold w_X2_writeMark_139
          refine s_writeNumber hp (fun σ' w => fin σ' w (plf c2 (Or.inl ?_)))
          unfold markP
          have yy : (A.1 (ix x1)).1 = 4 := Decidable.byContradiction (fun q => y (hs0.mpr q))
          rw [if_neg y0, if_neg y1, if_neg y2, if_neg y3, if_neg y4, if_pos yy]
          refine ⟨rfl, Or.inl ⟨rfl, by decide, by decide, by decide, ?_⟩⟩
          rw [show (-149 : Int32).toInt = -149 by decide, show (1 : Int64).toInt = 1 by decide, show (-149 + 1074 : Int).toNat = 925 by decide, Int.natAbs_one, Nat.one_mul]
          rfl
      unfold w_X2_writeMark
      refine ⟨fun y => go 0 ⟨fun _ z => y (k4.mpr z), fun _ => rfl⟩, fun y => go 1 ⟨fun z => absurd z n10, fun z => absurd (k4.mp y) z⟩⟩
    · rw [hr.gone] at g
      rw [if_pos g] at h; exact h σ hR
  · rw [i_le, k5] at q2; rintro ⟨-, -, a⟩; exact q2 a
