/-! what the calls of rows answer, and what they leave -/
abbrev isR (x : Int32) : Prop := 0 ≤ x.toInt ∧ x.toInt < 12
abbrev isK (x : Int32) : Prop := 0 ≤ x.toInt ∧ x.toInt < 6
abbrev isPl (R : RwA) (x : Int32) : Prop := 0 ≤ x.toInt ∧ x.toInt < R.2.1
abbrev arePl (R : RwA) (x n : Int32) : Prop := 0 ≤ n.toInt ∧ 0 ≤ x.toInt ∧ x.toInt + n.toInt ≤ R.2.1
def setP (R : RwA) (p : Nat) (v : Pl) : RwA := (R.1, R.2.1, fun j => if j = p then v else R.2.2 j)
def goneR : RwA := (-1, 0, fun _ => zeroP)
def fltW (m : Int64) (e : Int32) : Int := max e.toInt (max ((bl m.toInt.natAbs : Int) + e.toInt - 24) (-149))
def fltN (m : Int64) (e : Int32) : Nat := FP.Core.nearest m.toInt.natAbs (2 ^ (fltW m e - e.toInt).toNat)
def fltP (m : Int64) (e : Int32) : Pl :=
  if fltN m e ≠ 0 ∧ 128 < (bl (fltN m e) : Int) + fltW m e then (0, if m.toInt < 0 then 2 else 1, if m.toInt < 0 then dMinf else dInf)
  else (0, 0, U (decide (m.toInt < 0)) (fltN m e * 2 ^ (fltW m e + 1074).toNat))
def putP (kd : Int) (m : Int64) (e : Int32) : Pl :=
  if kd = 0 then (m.toInt32.toInt8.toInt32.toInt64, 0, 0) else if kd = 1 then (m.toInt32.toInt16.toInt32.toInt64, 0, 0) else if kd = 2 then (m.toInt32.toInt64, 0, 0) else if kd = 3 then (m, 0, 0)
  else if kd = 4 then fltP m e else (0, 0, U (decide (m.toInt < 0)) (m.toInt.natAbs * 2 ^ (e.toInt + 1074).toNat))
def markP (kd : Int) (x : Int32) : Pl :=
  if x = 0 then (0, 1, dInf) else if x = 1 then (0, 2, dMinf) else if x = 2 then (0, 3, U false 0) else if x = 3 then (0, 0, U true 0)
  else if x = 4 then (0, 0, U false (if kd = 4 then (2 ^ 24 - 1) * 2 ^ 1178 else (2 ^ 53 - 1) * 2 ^ 2045)) else (0, 0, U false (if kd = 4 then 2 ^ 925 else 1))
def t_row (A : AS) (x1 x2 x3 : Int32) : Int32 × AS := if isR x1 ∧ (0 ≤ x2.toInt ∧ x2.toInt ≤ 5) ∧ x3.toInt ≤ 40 then (if 0 ≤ x3.toInt then (x3, setR A (ix x1) (newRow x2.toInt (ix x3))) else (-14, A)) else (-3, A)
def t_lose (A : AS) (x1 : Int32) : Int32 × AS := if isR x1 then (if (A.1 (ix x1)).1 = -1 then (-11, A) else (nI (A.1 (ix x1)).2.1, setR A (ix x1) goneR)) else (-3, A)
def t_put (A : AS) (x1 x2 : Int32) (m : Int64) (e : Int32) : Int32 × AS :=
  if isR x1 ∧ (-9007199254740991 ≤ m.toInt ∧ m.toInt ≤ 9007199254740991) ∧ (-1074 ≤ e.toInt ∧ e.toInt ≤ 971) then
    (if (A.1 (ix x1)).1 = -1 then (-11, A) else if isPl (A.1 (ix x1)) x2 then (0, setR A (ix x1) (setP (A.1 (ix x1)) (ix x2) (putP (A.1 (ix x1)).1 m e))) else (-13, A)) else (-3, A)
def t_mark (A : AS) (x1 x2 x3 : Int32) : Int32 × AS :=
  if isR x1 ∧ (0 ≤ x3.toInt ∧ x3.toInt ≤ 5) then
    (if (A.1 (ix x1)).1 = -1 then (-11, A) else if (A.1 (ix x1)).1 < 4 then (-12, A) else if isPl (A.1 (ix x1)) x2 then (0, setR A (ix x1) (setP (A.1 (ix x1)) (ix x2) (markP (A.1 (ix x1)).1 x3))) else (-13, A)) else (-3, A)
def t_copy (A : AS) (x1 x2 x3 x4 x5 : Int32) : Int32 × AS :=
  if isR x1 ∧ isR x3 then
    (if (A.1 (ix x1)).1 = -1 ∨ (A.1 (ix x3)).1 = -1 then (-11, A) else if (A.1 (ix x1)).1 = (A.1 (ix x3)).1 then
      (if arePl (A.1 (ix x1)) x2 x5 ∧ arePl (A.1 (ix x3)) x4 x5 then (x5, setR A (ix x3) ((A.1 (ix x3)).1, (A.1 (ix x3)).2.1, va_cpy (A.1 (ix x1)).2.2 (A.1 (ix x3)).2.2 (ix x2) (ix x4) (ix x5))) else (-13, A)) else (-12, A)) else (-3, A)
def t_look (A : AS) (x1 x2 x3 : Int32) : Int64 :=
  if isR x1 ∧ (0 ≤ x2.toInt ∧ x2.toInt ≤ 3) then
    (if (A.1 (ix x1)).1 = -1 then -11 else if (A.1 (ix x1)).1 = x2.toInt then (if isPl (A.1 (ix x1)) x3 then ((A.1 (ix x1)).2.2 (ix x3)).1 else -13) else -12) else -3
def t_see (A : AS) (x1 x2 : Int32) : UInt64 :=
  if isR x1 ∧ (A.1 (ix x1)).1 ≠ -1 ∧ 4 ≤ (A.1 (ix x1)).1 ∧ isPl (A.1 (ix x1)) x2 then ((A.1 (ix x1)).2.2 (ix x2)).2.2 else U false 0
def t_compare (A : AS) (x1 x2 : Int32) (y : UInt64) : Int32 :=
  if isR x1 then
    (if (A.1 (ix x1)).1 = -1 then -11 else if isPl (A.1 (ix x1)) x2 then
      (if srtP (A.1 (ix x1)).1 ((A.1 (ix x1)).2.2 (ix x2)) = 3 then 0
       else if dk (dblP (A.1 (ix x1)).1 ((A.1 (ix x1)).2.2 (ix x2))) < dk y then 1 else if dk (dblP (A.1 (ix x1)).1 ((A.1 (ix x1)).2.2 (ix x2))) = dk y then 2 else 3) else -13) else -3
/-! small steps of the class -/
theorem i_lt {a b : Int32} : a < b ↔ a.toInt < b.toInt := Int32.lt_iff_toInt_lt
theorem i_le {a b : Int32} : a ≤ b ↔ a.toInt ≤ b.toInt := Int32.le_iff_toInt_le
theorem l_lt {a b : Int64} : a < b ↔ a.toInt < b.toInt := Int64.lt_iff_toInt_lt
theorem l_le {a b : Int64} : a ≤ b ↔ a.toInt ≤ b.toInt := Int64.le_iff_toInt_le
theorem t0 : (0 : Int32).toInt = 0 := by decide
theorem t1 : (1 : Int32).toInt = 1 := by decide
theorem isR_nI {x : Int32} (h : isR x) : x = nI (ix x) ∧ ix x < 12 := by
  have h1 := h.1
  have h2 := h.2
  refine ⟨i_of ?_ ?_, ?_⟩ <;> rw [ix_toInt] <;> omega
theorem isK_nI {x : Int32} (h : isK x) : x = nI (ix x) ∧ ix x < 6 := by
  have h1 := h.1
  have h2 := h.2
  refine ⟨i_of ?_ ?_, ?_⟩ <;> rw [ix_toInt] <;> omega
theorem pos_nI {x : Int32} {n : Nat} (h : 0 ≤ x.toInt) (h2 : x.toInt ≤ n) (hn : n < 1000) : x = nI (ix x) ∧ ix x ≤ n ∧ (ix x : Int) = x.toInt := by
  refine ⟨i_of ?_ ?_, ?_, ?_⟩ <;> rw [ix_toInt] <;> omega
theorem s_isRowC {x : Int32} {Q : Int32 → St → Prop} {σ : St} (h1 : isR x → Q 1 σ) (h0 : ¬ isR x → Q 0 σ) : w_X4_isRow Q x σ := by
  unfold w_X4_isRow
  have c12 : (12 : Int32).toInt = 12 := by decide
  refine ⟨fun q => h0 ?_, fun q => ⟨fun q2 => h0 ?_, fun q2 => h1 ?_⟩⟩
  · rw [i_lt, t0] at q; rintro ⟨a, -⟩; omega
  · rw [i_le, c12] at q2; rintro ⟨-, a⟩; omega
  · rw [i_lt, t0] at q; rw [i_le, c12] at q2; constructor <;> omega
theorem s_isKeeperC {x : Int32} {Q : Int32 → St → Prop} {σ : St} (h1 : isK x → Q 1 σ) (h0 : ¬ isK x → Q 0 σ) : w_X4_isKeeper Q x σ := by
  unfold w_X4_isKeeper
  have c12 : (6 : Int32).toInt = 6 := by decide
  refine ⟨fun q => h0 ?_, fun q => ⟨fun q2 => h0 ?_, fun q2 => h1 ?_⟩⟩
  · rw [i_lt, t0] at q; rintro ⟨a, -⟩; omega
  · rw [i_le, c12] at q2; rintro ⟨-, a⟩; omega
  · rw [i_lt, t0] at q; rw [i_le, c12] at q2; constructor <;> omega
theorem s_hasC {k n : Nat} {x m : Int32} {Q : Int32 → St → Prop} {σ : St} (hg : gI σ k 2 = nI n) (hn : n ≤ 40) (hm : 0 ≤ m.toInt) (h1 : 0 ≤ x.toInt ∧ x.toInt + m.toInt ≤ n → Q 1 σ) (h0 : ¬ (0 ≤ x.toInt ∧ x.toInt + m.toInt ≤ n) → Q 0 σ) : w_X2_has k Q x m σ := by
  unfold w_X2_has
  rw [hg]
  have hb := ib m
  have e1 : (nI n).toInt = (n : Int) := nI_toInt (by omega)
  have e2 : (nI n - m).toInt = (n : Int) - m.toInt := by rw [i_sub (by omega) (by omega), e1]
  refine ⟨fun q => h0 ?_, fun q => ⟨fun q2 => h0 ?_, fun q2 => h1 ?_⟩⟩
  · rw [i_lt, t0] at q; rintro ⟨a, -⟩; omega
  · rw [i_lt, e2] at q2; rintro ⟨-, a⟩; omega
  · rw [i_lt, t0] at q; rw [i_lt, e2] at q2; constructor <;> omega
theorem s_hasC1 {k n : Nat} {x : Int32} {Q : Int32 → St → Prop} {σ : St} (hg : gI σ k 2 = nI n) (hn : n ≤ 40) (h1 : 0 ≤ x.toInt ∧ x.toInt < n → Q 1 σ) (h0 : ¬ (0 ≤ x.toInt ∧ x.toInt < n) → Q 0 σ) : w_X2_has k Q x 1 σ := by
  refine s_hasC hg hn (by decide) (fun q => h1 ?_) (fun q => h0 (fun z => q ?_))
  · rw [t1] at q; omega
  · rw [t1]; omega
theorem s_isFloating {k : Nat} {Q : Int32 → St → Prop} {σ : St} {kd : Int} (hk : (gI σ k 1).toInt = kd) (h5 : kd ≤ 5) (h1 : ¬ kd < 4 → Q 1 σ) (h0 : kd < 4 → Q 0 σ) : w_X2_isFloating k Q σ := by
  unfold w_X2_isFloating
  have c4 : gI σ k 1 = 4 ↔ kd = 4 := by rw [← hk]; exact ⟨fun q => by rw [q]; rfl, fun q => i_ext (by rw [q]; rfl)⟩
  have c5 : gI σ k 1 = 5 ↔ kd = 5 := by rw [← hk]; exact ⟨fun q => by rw [q]; rfl, fun q => i_ext (by rw [q]; rfl)⟩
  refine ⟨fun q => h1 ?_, fun q => ⟨fun q2 => h0 ?_, fun q2 => h1 ?_⟩⟩
  · have := c4.mp q; omega
  · have a : ¬ kd = 4 := fun z => q (c4.mpr z)
    have b : ¬ kd = 5 := fun z => q2 (c5.mpr z)
    omega
  · have := c5.mp q2; omega
theorem s_asDouble {k p : Nat} {kd : Int} {v : Pl} {Q : UInt64 → St → Prop} {σ : St} (hp : p < 40) (hv : PlC kd (gI σ (k + 3) p) (gJ σ (k + 1) p) (gI σ (k + 2) p) v) (ho : okP kd v) (h : Q (dblP kd v) σ) : w_X2_asDouble k Q (nI p) σ := by
  unfold w_X2_asDouble
  have hin : vp_in (nI p) 40 := in_nI hp (by decide)
  refine ⟨hin, ?_⟩
  rintro y2 rfl
  rw [ix_nI (by omega)]
  have num : ∀ (n : Nat) (b : Bool), (gJ σ (k + 1) p).toInt.natAbs < 2 ^ 53 → -1074 ≤ (gI σ (k + 2) p).toInt → (gI σ (k + 2) p).toInt ≤ 971 → n = (gJ σ (k + 1) p).toInt.natAbs * 2 ^ ((gI σ (k + 2) p).toInt + 1074).toNat → b = decide ((gJ σ (k + 1) p).toInt < 0) → Q (U b n) σ → w_X4_power (fun r10 σ9 => vf_n64 (FP.dmul (FP.l2d (gJ σ (k + 1) p)) r10) ∧ Q (FP.dmul (FP.l2d (gJ σ (k + 1) p)) r10) σ9) (gI σ (k + 2) p) σ := by
    rintro n b a1 a2 a3 rfl rfl hq
    refine s_power (k := ((gI σ (k + 2) p).toInt + 1074).toNat) a2 (by omega) (by omega) ?_
    have e : FP.dmul (FP.l2d (gJ σ (k + 1) p)) (U false (2 ^ ((gI σ (k + 2) p).toInt + 1074).toNat)) = U (decide ((gJ σ (k + 1) p).toInt < 0)) ((gJ σ (k + 1) p).toInt.natAbs * 2 ^ ((gI σ (k + 2) p).toInt + 1074).toNat) := by
      rw [u_l2d, u_mulPow (rn_of a1 (by decide)) (by omega) (r := (gJ σ (k + 1) p).toInt.natAbs * 2 ^ ((gI σ (k + 2) p).toInt + 1074).toNat)]
      rw [Nat.mul_right_comm]
    rw [e]
    exact ⟨u_vf _ _, hq⟩
  unfold PlC at hv
  unfold okP at ho
  unfold dblP at h
  by_cases c : kd < 4
  · rw [if_pos c] at hv ho h
    obtain ⟨e1, e2, e3⟩ := hv
    rw [e1]
    refine ⟨fun q => absurd q (by decide), fun q => absurd q (by decide), fun q => absurd q (by decide), fun q => absurd q (by decide), fun _ _ _ _ => ⟨hin, hin, ?_⟩⟩
    rw [u_l2d] at h
    refine num _ _ (by rw [e2]; exact ho) (by rw [e3]; decide) (by rw [e3]; decide) rfl rfl ?_
    rw [e2, e3]
    exact h
  · rw [if_neg c] at hv ho h
    rcases hv with ⟨z, ⟨s0, a1, a2, a3, a4⟩ | ⟨s4, -, -, a4⟩⟩ | ⟨z, e1, -, -⟩
    · rw [s0]
      refine ⟨fun q => absurd q (by decide), fun q => absurd q (by decide), fun q => absurd q (by decide), fun q => absurd q (by decide), fun _ _ _ _ => ⟨hin, hin, ?_⟩⟩
      rw [a4] at h
      exact num _ _ a1 a2 a3 rfl rfl h
    · rw [s4]
      rw [a4, ← u_mzero] at h
      exact ⟨fun q => absurd q (by decide), fun q => absurd q (by decide), fun q => absurd q (by decide), fun _ => h, fun _ _ _ q => absurd rfl q⟩
    · rw [e1]
      rcases z with z | z | z <;> rw [z]
      · have hd : v.2.2 = dInf := by
          rcases ho with ⟨q, -⟩ | ⟨q, w⟩ | ⟨q, w⟩ | ⟨q, w⟩
          · omega
          · exact w
          · omega
          · omega
        rw [hd] at h
        exact ⟨fun _ => h, fun q => absurd q (by decide), fun q => absurd q (by decide), fun q => absurd q (by decide), fun q => absurd rfl q⟩
      · have hd : v.2.2 = dMinf := by
          rcases ho with ⟨q, -⟩ | ⟨q, w⟩ | ⟨q, w⟩ | ⟨q, w⟩
          · omega
          · omega
          · exact w
          · omega
        rw [hd] at h
        refine ⟨fun q => absurd q (by decide), fun _ => ?_, fun q => absurd q (by decide), fun q => absurd q (by decide), fun _ q => absurd rfl q⟩
        unfold w_X4_endless
        show Q (FP.dneg (9218868437227405312 : UInt64)) σ
        rw [minf_eq]; exact h
      · have hd : v.2.2 = U false 0 := by
          rcases ho with ⟨q, -⟩ | ⟨q, w⟩ | ⟨q, w⟩ | ⟨q, w⟩
          · omega
          · omega
          · omega
          · exact w
        rw [hd, ← u_zero] at h
        exact ⟨fun q => absurd q (by decide), fun q => absurd q (by decide), fun _ => h, fun q => absurd q (by decide), fun _ _ q => absurd rfl q⟩
theorem s_sortAtC {k p : Nat} {kd : Int} {v : Pl} {Q : Int32 → St → Prop} {σ : St} (hp : p < 40) (hv : PlC kd (gI σ (k + 3) p) (gJ σ (k + 1) p) (gI σ (k + 2) p) v) (h : Q (nI (srtP kd v)) σ) : w_X2_sortAt k Q (nI p) σ := by
  unfold w_X2_sortAt
  have hin : vp_in (nI p) 40 := in_nI hp (by decide)
  rw [ix_nI (by omega)]
  unfold PlC at hv
  unfold srtP at h
  refine ⟨hin, fun q => ⟨hin, ?_⟩, fun q => ?_⟩
  · by_cases c : kd < 4
    · rw [if_pos c] at hv h
      rw [hv.1]; exact h
    · rw [if_neg c] at hv h
      rcases hv with ⟨z, ⟨s0, -⟩ | ⟨s4, -⟩⟩ | ⟨z, e1, -, -⟩
      · rw [s0]; rw [z] at h; exact h
      · exact absurd s4 q
      · rw [e1]; exact h
  · by_cases c : kd < 4
    · rw [if_pos c] at hv
      rw [hv.1] at q; exact absurd q (by decide)
    · rw [if_neg c] at hv h
      rcases hv with ⟨z, -⟩ | ⟨z, e1, -, -⟩
      · rw [z] at h; exact h
      · rw [e1] at q
        rcases z with z | z | z <;> rw [z] at q <;> exact absurd q (by decide)
/-- a place written -/
def WrC (σ σ' : St) (k p : Nat) (W : Int64) (P S : Int32) : Prop := FrC (fun c => c = k + 1 ∨ c = k + 2 ∨ c = k + 3) σ σ' ∧ gJ σ' (k + 1) = vp_updL (gJ σ (k + 1)) p W ∧ gI σ' (k + 2) = upd (gI σ (k + 2)) p P ∧ gI σ' (k + 3) = upd (gI σ (k + 3)) p S
theorem wrc_of {σ : St} {k p : Nat} {W : Int64} {P S : Int32} : WrC σ (uI (uI (uJ σ (k + 1) p W) (k + 2) p P) (k + 3) p S) k p W P S := by
  refine ⟨((frc_uJ (Or.inl rfl)).tr (frc_uI (Or.inr (Or.inl rfl)))).tr (frc_uI (Or.inr (Or.inr rfl))), ?_, ?_, ?_⟩
  · rw [uI_w, gJ_wI, uI_w, gJ_wI, uJ_w, gJ_wJ_eq]
  · rw [uI_w, gI_wI_ne (by omega), uI_w, gI_wI_eq]; rfl
  · rw [uI_w, gI_wI_eq, uI_w, gI_wI_ne (by omega)]; rfl
theorem s_writeNumber {k p : Nat} {W : Int64} {P : Int32} {Q : St → Prop} {σ : St} (hp : p < 40) (h : ∀ σ', WrC σ σ' k p W P 0 → Q σ') : w_X2_writeNumber k Q (nI p) W P σ := by
  unfold w_X2_writeNumber
  have hin : vp_in (nI p) 40 := in_nI hp (by decide)
  refine ⟨hin, ?_⟩
  rintro σ2 rfl
  refine ⟨hin, ?_⟩
  rintro σ4 rfl
  refine ⟨hin, ?_⟩
  rintro σ6 rfl
  rw [ix_nI (by omega)]
  exact h _ wrc_of
theorem s_writeSort {k p : Nat} {S : Int32} {Q : St → Prop} {σ : St} (hp : p < 40) (h : ∀ σ', WrC σ σ' k p 0 0 S → Q σ') : w_X2_writeSort k Q (nI p) S σ := by
  unfold w_X2_writeSort
  have hin : vp_in (nI p) 40 := in_nI hp (by decide)
  refine ⟨hin, ?_⟩
  rintro σ2 rfl
  refine ⟨hin, ?_⟩
  rintro σ4 rfl
  refine ⟨hin, ?_⟩
  rintro σ6 rfl
  rw [ix_nI (by omega)]
  exact h _ wrc_of
theorem RowC.wr {σ σ' : St} {k p : Nat} {R : RwA} {W : Int64} {P S : Int32} {v : Pl} (h : RowC σ k R) (h1 : R.1 ≠ -1) (w : WrC σ σ' k p W P S) (hv : PlC R.1 S W P v) : RowC σ' k (setP R p v) := by
  obtain ⟨f, w1, w2, w3⟩ := w
  obtain ⟨a, b, c⟩ := h
  obtain ⟨c1, c2, c3, c4, c5, c6⟩ := c h1
  unfold RowC setP
  rw [(f k (by omega)).1, w1, w2, w3]
  refine ⟨a, b, fun _ => ⟨c1, c2, c3, c4, c5, fun j hj => ?_⟩⟩
  show PlC R.1 _ _ _ (if j = p then v else R.2.2 j)
  by_cases e : j = p
  · subst e
    rw [upd_eq, upd_eq, updL_eq, if_pos rfl]; exact hv
  · rw [upd_ne e, upd_ne e, updL_ne e, if_neg e]; exact c6 j hj
theorem WrC.cr {σ σ' : St} {r p : Nat} {W : Int64} {P S : Int32} (w : WrC σ σ' (rowC r) p W P S) : FrC (cR r) σ σ' := w.1.mono (fun c z => by unfold cR; omega)
theorem l2_eq {kd : Int} (x : Int32) (n : Nat) (h : x.toInt = kd) (hn : n < 100) : x = nI n ↔ kd = n := by
  rw [← h]
  have e : (nI n).toInt = (n : Int) := nI_toInt (by omega)
  exact ⟨fun q => by rw [q, e], fun q => i_ext (by rw [q, e])⟩
