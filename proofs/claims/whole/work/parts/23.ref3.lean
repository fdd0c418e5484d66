/-- what stays the same in the reference: all but its scratch and the cells named -/
def Fr (I : List Nat) (σ τ : St) : Prop := (∀ c, c ≠ 0 → c ≠ 13 → c ≠ 14 → c ∉ I → gI τ c = gI σ c) ∧ (∀ c, c ≠ 0 → c ∉ I → gJ τ c = gJ σ c) ∧ (∀ c, c ∉ I → gD τ c = gD σ c) ∧ gI τ 0 9 = gI σ 0 9 ∧ gI τ 0 14 = gI σ 0 14 ∧ gI τ 0 15 = gI σ 0 15
theorem Fr.rfl {I : List Nat} {σ : St} : Fr I σ σ := ⟨fun _ _ _ _ _ => Eq.refl _, fun _ _ _ => Eq.refl _, fun _ _ => Eq.refl _, Eq.refl _, Eq.refl _, Eq.refl _⟩
theorem Fr.tr {I : List Nat} {σ τ υ : St} (h : Fr I σ τ) (k : Fr I τ υ) : Fr I σ υ :=
  ⟨fun c a b d e => (k.1 c a b d e).trans (h.1 c a b d e), fun c a e => (k.2.1 c a e).trans (h.2.1 c a e), fun c e => (k.2.2.1 c e).trans (h.2.2.1 c e), k.2.2.2.1.trans h.2.2.2.1, k.2.2.2.2.1.trans h.2.2.2.2.1, k.2.2.2.2.2.trans h.2.2.2.2.2⟩
theorem Fr.mono {I J : List Nat} {σ τ : St} (h : Fr I σ τ) (s : ∀ c, c ∈ I → c ∈ J) : Fr J σ τ :=
  ⟨fun c a b d e => h.1 c a b d (fun q => e (s c q)), fun c a e => h.2.1 c a (fun q => e (s c q)), fun c e => h.2.2.1 c (fun q => e (s c q)), h.2.2.2⟩
theorem Fr.i {I : List Nat} {σ τ : St} (h : Fr I σ τ) {c : Nat} (q : (c ≠ 0 ∧ c ≠ 13 ∧ c ≠ 14) ∧ c ∉ I) : gI τ c = gI σ c := h.1 c q.1.1 q.1.2.1 q.1.2.2 q.2
theorem Fr.j {I : List Nat} {σ τ : St} (h : Fr I σ τ) {c : Nat} (q : c ≠ 0 ∧ c ∉ I) : gJ τ c = gJ σ c := h.2.1 c q.1 q.2
theorem Fr.d {I : List Nat} {σ τ : St} (h : Fr I σ τ) {c : Nat} (q : c ∉ I) : gD τ c = gD σ c := h.2.2.1 c q
theorem fr_u {I : List Nat} {σ : St} {j : Nat} {v : Int32} (q : j ≠ 9 ∧ j ≠ 14 ∧ j ≠ 15) : Fr I σ (uI σ 0 j v) := by
  rw [uI_w]
  refine ⟨fun c a _ _ _ => gI_wI_ne a, fun _ _ _ => Eq.refl _, fun _ _ => Eq.refl _, ?_, ?_, ?_⟩ <;> rw [gI_wI_eq, upd_ne]
  · exact fun z => q.1 z.symm
  · exact fun z => q.2.1 z.symm
  · exact fun z => q.2.2 z.symm
theorem fr_uJ {I : List Nat} {σ : St} {j : Nat} {v : Int64} : Fr I σ (uJ σ 0 j v) := by
  rw [uJ_w]
  exact ⟨fun _ _ _ _ _ => Eq.refl _, fun c a _ => gJ_wJ_ne a, fun _ _ => Eq.refl _, Eq.refl _, Eq.refl _, Eq.refl _⟩
theorem fr_w {I : List Nat} {σ : St} {c : Nat} {f : Nat → Int32} (q : c ≠ 0 ∧ (c = 13 ∨ c = 14 ∨ c ∈ I)) : Fr I σ (wI σ c f) := by
  refine ⟨fun a _ h13 h14 hI => gI_wI_ne (fun e => ?_), fun _ _ _ => Eq.refl _, fun _ _ => Eq.refl _, ?_, ?_, ?_⟩
  · subst e
    rcases q.2 with g | g | g
    · exact h13 g
    · exact h14 g
    · exact hI g
  all_goals rw [gI_wI_ne (Ne.symm q.1)]
/-! a number taken apart -/
theorem ap_pw {p : Int32} {x : Int} (h : p.toInt = x) (h1 : -2000 ≤ x) (h2 : x ≤ 2000) : (p + (1 : Int32)).toInt = x + 1 ∧ (p - (1 : Int32)).toInt = x - 1 := by
  have e : (1 : Int32).toInt = 1 := by decide
  exact ⟨by rw [i_add (by omega) (by omega), e, h], by rw [i_sub (by omega) (by omega), e, h]⟩
theorem sg_f (n : Nat) : sg false n = n := rfl
theorem sg_abs (s : Bool) (n : Nat) : (sg s n).natAbs = n := by cases s <;> simp [sg]
/-- what a number taken apart leaves -/
def Ap (σ σ' : St) (v : Int) : Prop := Fr [] σ σ' ∧ ∃ (sz : Nat), sz < 2 ^ 53 ∧ gJ σ' 0 16 = lN sz ∧ -1074 ≤ (gI σ' 0 17).toInt ∧ (gI σ' 0 17).toInt ≤ 971 ∧ sz * 2 ^ ((gI σ' 0 17).toInt + 1074).toNat = v.natAbs ∧ gI σ' 0 18 = (if v < 0 then 1 else 0)
def E27 : Nat := 2 ^ 1127
def E74 : Nat := 2 ^ 1074
theorem e27 : E27 = 2 ^ 53 * E74 := by
  unfold E27 E74
  rw [← Nat.pow_add]
theorem ap_done {Q : St → Prop} {σ : St} {t : Bool} {v : Int} {c k : Nat} (hk : k ≤ 2045) (hv : v.natAbs = c * 2 ^ k) (h : ∀ σ', Ap σ σ' v → Q σ') : ∀ (k2 : Nat) (σ2 : St), k2 ≤ 2045 → c * 2 ^ k2 < E27 → Fr [] σ σ2 → gI σ2 0 18 = (if v < 0 then 1 else 0) → (gI σ2 0 17).toInt = (k : Int) - k2 → ((k2 ≤ k ∨ k2 ≤ 1074) ∧ (k ≤ k2 ∨ 1074 ≤ k2)) → ∀ z : Nat, z * E74 = c * 2 ^ k2 → t = false ∨ z = 0 → Q (uJ σ2 0 16 (FP.d2l (U t (c * 2 ^ k2)))) := by
  intro k2 σ2 hk2 hb hF h18 h17 hkk z hz ht
  have hzl : z < 2 ^ 53 := by
    have h5 : z * E74 < 2 ^ 53 * E74 := by rw [hz, ← e27]; exact hb
    exact Nat.lt_of_mul_lt_mul_right h5
  have hd : FP.d2l (U t (c * 2 ^ k2)) = lN z := by
    rw [← hz]
    have hr : Rn (z * E74) := rn_of hzl (by decide)
    have h6 : z * E74 / 2 ^ 1074 = z := Nat.mul_div_cancel _ (Nat.two_pow_pos _)
    have h7 : z < 2 ^ 63 := Nat.lt_trans hzl (by decide)
    refine l_of ?_ h7
    rw [u_d2l hr (by rw [h6]; exact h7), h6]
    rcases ht with g | g
    · rw [g]; rfl
    · rw [g]; cases t <;> rfl
  rw [hd]
  have e17 : gI (uJ σ2 0 16 (lN z)) 0 17 = gI σ2 0 17 := rfl
  have e18 : gI (uJ σ2 0 16 (lN z)) 0 18 = gI σ2 0 18 := rfl
  refine h _ ⟨hF.tr fr_uJ, z, hzl, by rw [uJ_w, gJ_wJ_eq, updL_eq], ?_, ?_, ?_, ?_⟩
  · rw [e17, h17]; omega
  · rw [e17, h17]; omega
  · rw [e17, h17, hv]
    rcases Nat.le_total k2 k with g | g
    · rw [show ((k : Int) - k2 + 1074).toNat = (k - k2) + 1074 by omega, Nat.pow_add, Nat.mul_left_comm, show z * 2 ^ 1074 = c * 2 ^ k2 from hz, Nat.mul_left_comm, ← Nat.pow_add, show k - k2 + k2 = k by omega]
    · have h7 : z * 2 ^ ((k : Int) - k2 + 1074).toNat * 2 ^ (k2 - k) = c * 2 ^ k * 2 ^ (k2 - k) := by
        rw [Nat.mul_assoc, Nat.mul_assoc, ← Nat.pow_add, ← Nat.pow_add, show k + (k2 - k) = k2 by omega, show ((k : Int) - k2 + 1074).toNat + (k2 - k) = 1074 by omega]
        exact hz
      exact Nat.eq_of_mul_eq_mul_right (Nat.two_pow_pos _) h7
  · rw [e18, h18]
theorem ap_zz {t : Bool} {c : Nat} (ht : t = false ∨ c = 0) : ∀ (k2 z : Nat), z * E74 = c * 2 ^ k2 → t = false ∨ z = 0 := by
  intro k2 z hz
  rcases ht with g | g
  · exact Or.inl g
  · right
    rw [g, Nat.zero_mul] at hz
    rcases Nat.mul_eq_zero.mp hz with q | q
    · exact q
    · exact absurd q (Nat.ne_of_gt (Nat.two_pow_pos _))
theorem ap_cmp0 {t : Bool} {z y : Nat} (hy : 0 < y) : sg t 0 = sg (decide (sg t z < 0)) (z * y) ↔ z * y = 0 := by
  have h : ∀ b : Bool, ∀ n : Nat, sg b n = 0 ↔ n = 0 := by
    intro b n
    cases b
    · show (n : Int) = 0 ↔ _
      omega
    · show -(n : Int) = 0 ↔ _
      omega
  have e0 : sg t 0 = 0 := (h t 0).mpr rfl
  rw [e0]
  exact ⟨fun q => (h _ _).mp q.symm, fun q => ((h _ _).mpr q).symm⟩
theorem ap_cmp1 {z y n : Nat} : sg false n = sg (decide (sg false z < 0)) (z * y) ↔ z * y = n := by
  have e : decide (sg false z < 0) = false := decide_eq_false (by rw [sg_f]; omega)
  rw [e, sg_f, sg_f]
  exact ⟨fun q => (Int.ofNat_inj.mp q).symm, fun q => congrArg _ q.symm⟩
theorem ap_lt {k2 c : Nat} (hb : c * 2 ^ k2 < E27) : c * 2 ^ k2 / E74 < 2 ^ 53 := by
  have hp : 0 < E74 := Nat.two_pow_pos _
  refine (Nat.div_lt_iff_lt_mul hp).mpr ?_
  rw [← e27]; exact hb
theorem u_d2l' {s : Bool} {n : Nat} (h : Rn n) (hs : n / E74 < 2 ^ 53) : (FP.d2l (U s n)).toInt = sg s (n / E74) := by
  have e : ∀ k : Nat, k = 2 ^ 1074 → n / k < 2 ^ 53 → (FP.d2l (U s n)).toInt = sg s (n / k) := by
    intro k hk h2
    rw [hk] at h2 ⊢
    exact u_d2l h (Nat.lt_trans h2 (by decide))
  exact e E74 rfl hs
theorem u_l2d' (a : Int64) : FP.l2d a = U (decide (a.toInt < 0)) (a.toInt.natAbs * E74) := u_l2d a
theorem ap_cmp {t : Bool} {c : Nat} (hc : c < 2 ^ 53) (ht : t = false ∨ c = 0) : ∀ k2 : Nat, k2 ≤ 2045 → c * 2 ^ k2 < E27 → (dcmpF (U t (c * 2 ^ k2)) (FP.l2d (FP.d2l (U t (c * 2 ^ k2)))) .l = 0 ↔ c * 2 ^ k2 / E74 * E74 = c * 2 ^ k2) := by
  intro k2 hk2 hb
  have hr : Rn (c * 2 ^ k2) := rn_of hc hk2
  have hq := ap_lt hb
  have hrq : Rn (c * 2 ^ k2 / E74 * E74) := rn_of hq (by decide)
  have hp : 0 < E74 := Nat.two_pow_pos _
  rw [u_l2d', u_d2l' hr hq, sg_abs, dc_eq (nn_U _ _) (nn_U _ _), dk_U hr, dk_U hrq]
  generalize c * 2 ^ k2 / E74 = z
  generalize E74 = y at hp
  rcases ht with g | g
  · rw [g]; exact ap_cmp1
  · rw [g, Nat.zero_mul]; exact ap_cmp0 hp
theorem ap_61 {Q : St → Prop} {σ : St} {t : Bool} {v : Int} {c k : Nat} (hc : c < 2 ^ 53) (hk : k ≤ 2045) (hv : v.natAbs = c * 2 ^ k) (ht : t = false ∨ c = 0) (h : ∀ σ', Ap σ σ' v → Q σ') :
    ∀ (d : Nat) (k2 : Nat) (σ2 : St), (k2 + d = 1074 ∨ (d = 0 ∧ 1074 ≤ k2)) → k2 ≤ 2045 → c * 2 ^ k2 < E27 → Fr [] σ σ2 → gI σ2 0 18 = (if v < 0 then 1 else 0) → (gI σ2 0 17).toInt = (k : Int) - k2 → ((k2 ≤ k ∨ k2 ≤ 1074) ∧ (k ≤ k2 ∨ 1074 ≤ k2)) → w_X5_apart__61 Q (d + 1) (U t (c * 2 ^ k2)) σ2 := by
  have done := ap_done (σ := σ) (Q := Q) (t := t) hk hv h
  have zz := ap_zz ht
  have cmp := ap_cmp hc ht
  intro d
  induction d with
  | zero =>
    intro k2 σ2 hd hk2 hb hF h18 h17 hkk
    rw [w_X5_apart__61]
    have hk3 : 1074 ≤ k2 := by omega
    have hm : c * 2 ^ k2 / E74 * E74 = c * 2 ^ k2 := by
      have e : c * 2 ^ k2 = c * 2 ^ (k2 - 1074) * E74 := by
        unfold E74
        rw [Nat.mul_assoc, ← Nat.pow_add]; exact congrArg (fun j => c * 2 ^ j) (by omega)
      have hp : 0 < E74 := Nat.two_pow_pos _
      rw [e, Nat.mul_div_cancel _ hp]
    refine ⟨fun _ => ?_, fun q => absurd ((cmp k2 hk2 hb).mpr hm) q⟩
    rintro σ3 rfl
    exact done k2 σ2 hk2 hb hF h18 h17 hkk _ hm (zz k2 _ hm)
  | succ d ih =>
    intro k2 σ2 hd hk2 hb hF h18 h17 hkk
    have hd : k2 + (d + 1) = 1074 := by omega
    rw [w_X5_apart__61]
    refine ⟨fun q => ?_, fun q => ?_⟩
    · have hm := (cmp k2 hk2 hb).mp q
      rintro σ3 rfl
      exact done k2 σ2 hk2 hb hF h18 h17 hkk _ hm (zz k2 _ hm)
    · have hr : Rn (c * 2 ^ k2) := rn_of hc hk2
      have hmul : FP.dmul (U t (c * 2 ^ k2)) (4611686018427387904 : UInt64) = U t (c * 2 ^ (k2 + 1)) := by
        rw [u_two, u_mulPow hr (by decide) (r := c * 2 ^ (k2 + 1))]
        rw [Nat.mul_assoc, Nat.mul_assoc, ← Nat.pow_add, ← Nat.pow_add, show k2 + 1075 = k2 + 1 + 1074 by omega]
      refine ⟨by rw [hmul]; exact u_vf _ _, ?_⟩
      rintro y4 rfl σ5 rfl
      rw [hmul]
      have hb2 : c * 2 ^ (k2 + 1) < E27 := by
        unfold E27
        calc c * 2 ^ (k2 + 1) < 2 ^ 53 * 2 ^ (k2 + 1) := Nat.mul_lt_mul_of_pos_right hc (Nat.two_pow_pos _)
          _ = 2 ^ (53 + (k2 + 1)) := (Nat.pow_add _ _ _).symm
          _ ≤ 2 ^ 1127 := Nat.pow_le_pow_right (by decide) (by omega)
      refine ih (k2 + 1) _ (by omega) (by omega) hb2 (hF.tr (fr_u (by decide))) ?_ ?_ (by omega)
      · rw [uI_w, gI_wI_eq, upd_ne (by decide)]; exact h18
      · rw [uI_w, gI_wI_eq, upd_eq, (ap_pw h17 (by omega) (by omega)).2]; omega
theorem ap_34 {Q : St → Prop} {σ : St} {t : Bool} {v : Int} {c k : Nat} (hc : c < 2 ^ 53) (hk : k ≤ 2045) (hv : v.natAbs = c * 2 ^ k) (ht : t = false ∨ c = 0) (h : ∀ σ', Ap σ σ' v → Q σ') :
    ∀ (k2 : Nat) (σ2 : St), (k2 = k ∨ (1074 ≤ k2 ∧ k2 ≤ k)) → Fr [] σ σ2 → gI σ2 0 18 = (if v < 0 then 1 else 0) → (gI σ2 0 17).toInt = (k : Int) - k2 → w_X5_apart__34 Q (k2 + 1) (U t (c * 2 ^ k2)) σ2 := by
  have cmp : ∀ k2 : Nat, k2 ≤ 2045 → (dcmpF (U t (c * 2 ^ k2)) (4845873199050653696 : UInt64) .l < 0 ↔ c * 2 ^ k2 < E27) := by
    intro k2 hk2
    have hr : Rn (c * 2 ^ k2) := rn_of hc hk2
    rw [u_2p53, dc_lt (nn_U _ _) (nn_U _ _), dk_U hr, dk_U (rn_pow (by decide)), sg_f]
    have hp : 0 < E27 := Nat.two_pow_pos 1127
    show _ < ((E27 : Nat) : Int) ↔ _
    generalize E27 = y at hp ⊢
    rcases ht with g | g
    · rw [g, sg_f]; omega
    · rw [g, Nat.zero_mul]
      cases t
      · rw [sg_f]; omega
      · show -((0 : Nat) : Int) < (y : Int) ↔ _
        omega
  intro k2
  induction k2 with
  | zero =>
    intro σ2 hd hF h18 h17
    rw [w_X5_apart__34]
    have hb : c * 2 ^ 0 < E27 := by
      unfold E27
      calc c * 2 ^ 0 < 2 ^ 53 * 2 ^ 0 := Nat.mul_lt_mul_of_pos_right hc (Nat.two_pow_pos _)
        _ ≤ 2 ^ 1127 := by rw [← Nat.pow_add]; exact Nat.pow_le_pow_right (by decide) (by decide)
    exact ⟨fun _ => ⟨1075, ap_61 hc hk hv ht h 1074 0 σ2 (by omega) (by omega) hb hF h18 h17 (by omega)⟩, fun q => absurd ((cmp 0 (by decide)).mpr hb) q⟩
  | succ k2 ih =>
    intro σ2 hd hF h18 h17
    rw [w_X5_apart__34]
    refine ⟨fun q => ?_, fun q => ?_⟩
    · have hb := (cmp (k2 + 1) (by omega)).mp q
      exact ⟨(1074 - (k2 + 1)) + 1, ap_61 hc hk hv ht h (1074 - (k2 + 1)) (k2 + 1) σ2 (by omega) (by omega) hb hF h18 h17 (by omega)⟩
    · have hb : ¬ c * 2 ^ (k2 + 1) < E27 := fun z => q ((cmp (k2 + 1) (by omega)).mpr z)
      have hk3 : 1074 ≤ k2 := by
        rcases Nat.lt_or_ge k2 1074 with g | g
        · exfalso
          refine hb ?_
          unfold E27
          calc c * 2 ^ (k2 + 1) < 2 ^ 53 * 2 ^ (k2 + 1) := Nat.mul_lt_mul_of_pos_right hc (Nat.two_pow_pos _)
            _ = 2 ^ (53 + (k2 + 1)) := (Nat.pow_add _ _ _).symm
            _ ≤ 2 ^ 1127 := Nat.pow_le_pow_right (by decide) (by omega)
        · exact g
      have hr : Rn (c * 2 ^ (k2 + 1)) := rn_of hc (by omega)
      have hmul : FP.dmul (U t (c * 2 ^ (k2 + 1))) (4602678819172646912 : UInt64) = U t (c * 2 ^ k2) := by
        rw [u_half, u_mulPow hr (by decide) (r := c * 2 ^ k2)]
        rw [Nat.mul_assoc, Nat.mul_assoc, ← Nat.pow_add, ← Nat.pow_add, show k2 + 1 + 1073 = k2 + 1074 by omega]
      refine ⟨by rw [hmul]; exact u_vf _ _, ?_⟩
      rintro y7 rfl σ8 rfl
      rw [hmul]
      refine ih _ (by omega) (hF.tr (fr_u (by decide))) ?_ ?_
      · rw [uI_w, gI_wI_eq, upd_ne (by decide)]; exact h18
      · rw [uI_w, gI_wI_eq, upd_eq, (ap_pw h17 (by omega) (by omega)).1]; omega
theorem s_apart_ {Q : St → Prop} {σ : St} {s : Bool} {n : Nat} (hn : Rn n) (h : ∀ σ', Ap σ σ' (sg s n) → Q σ') : w_X5_apart_ Q (U s n) σ := by
  unfold w_X5_apart_
  rintro σ1 rfl
  obtain ⟨c, k, hc, hk, e⟩ := hn
  have hn : Rn n := ⟨c, k, hc, hk, e⟩
  have hF : Fr [] σ (uI σ 0 17 0) := fr_u (by decide)
  have h17 : gI (uI σ 0 17 0) 0 17 = 0 := by rw [uI_w, gI_wI_eq, upd_eq]
  have hge : 0 ≤ dcmpF (U s n) FP.dconst0 .g ↔ 0 ≤ sg s n := by
    rw [u_zero, dc_ge (nn_U _ _) (nn_U _ _), dk_U hn, dk_U rn_zero]
    rfl
  generalize uI σ 0 17 0 = σ1 at hF h17 ⊢
  have key : ∀ (b : Int32) (t : Bool), b = (if sg s n < 0 then 1 else 0) → (t = false ∨ c = 0) → ∃ fu, w_X5_apart__34 Q fu (U t n) (uI σ1 0 18 b) := by
    intro b t hb ht
    rw [e]
    refine ⟨k + 1, ap_34 (v := sg s n) hc hk (by rw [sg_abs, e]) ht h k _ (Or.inl rfl) (hF.tr (fr_u (by decide))) ?_ ?_⟩
    · rw [uI_w, gI_wI_eq, upd_eq, hb]
    · rw [uI_w, gI_wI_eq, upd_ne (by decide), h17, Int32.toInt_zero]; omega
  have g18 : ∀ b, gI (uI σ1 0 18 b) 0 18 = b := fun b => by rw [uI_w, gI_wI_eq, upd_eq]
  refine ⟨fun q => ?_, fun q => ?_⟩
  · have q := hge.mp q
    unfold w_X5_apart__17 w_X5_apart__33
    refine ⟨Or.inl rfl, ?_⟩
    rintro σ2 rfl
    rw [g18]
    refine ⟨fun _ => key 0 s (by rw [if_neg (by omega)]) ?_, fun z => absurd rfl z⟩
    cases s
    · exact Or.inl rfl
    · right
      have : n = 0 := by
        have e : sg true n = -(n : Int) := rfl
        omega
      rw [e] at this
      rcases Nat.mul_eq_zero.mp this with g | g
      · exact g
      · exact absurd g (Nat.ne_of_gt (Nat.two_pow_pos _))
  · have q : sg s n < 0 := by
      rcases ilg (sg s n) 0 with g | g
      · exact g
      · exact absurd (hge.mpr g) q
    have hs : s = true := by
      cases s
      · exfalso
        rw [sg_f] at q; omega
      · rfl
    unfold w_X5_apart__17 w_X5_apart__33
    refine ⟨Or.inr rfl, ?_⟩
    rintro σ2 rfl
    rw [g18]
    refine ⟨fun z => absurd z (by decide), fun _ => ?_⟩
    rw [u_neg _ _ hn]
    exact key 1 _ (by rw [if_pos q]) (Or.inl (by rw [hs]; rfl))
