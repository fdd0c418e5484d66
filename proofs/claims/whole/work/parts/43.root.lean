/-! the root in the class -/
def rTop (M : Nat) : Nat := (bl M - 1) / 2
def rLast (M : Nat) : Nat := rTop M - 52
def rS (M : Nat) : Nat := FP.Core.sqrtFloor (M / 2 ^ (2 * rLast M))
def rEx (M : Nat) : Bool := decide (rS M * rS M * 2 ^ (2 * rLast M) = M)
def rootV (M : Nat) (up : Bool) : UInt64 := finV (rS M + if up && !rEx M then 1 else 0) ((rLast M : Int) - 1074) false (if up then 2 else 1) false
theorem sq_lt {a b : Nat} : a * a < b * b ↔ a < b := by
  refine ⟨fun h => ?_, fun h => Nat.mul_lt_mul'' h h⟩
  rcases Nat.lt_or_ge a b with g | g
  · exact g
  · exact absurd (Nat.mul_le_mul g g) (Nat.not_le.mpr h)
theorem sqrt_uniq {n s : Nat} (h1 : s * s ≤ n) (h2 : n < (s + 1) * (s + 1)) : FP.Core.sqrtFloor n = s := by
  obtain ⟨a, b⟩ := FP.Core.sqrtFloor_spec n
  have c := sq_lt.mp (Nat.lt_of_le_of_lt a h2)
  have d := sq_lt.mp (Nat.lt_of_le_of_lt h1 b)
  omega
theorem rTop_lt (M : Nat) : M < 2 ^ (2 * (rTop M + 1)) := bl_le.mp (by unfold rTop; omega)
theorem rS_lt (M : Nat) : rS M < 2 ^ 53 := by
  have h1 := (FP.Core.sqrtFloor_spec (M / 2 ^ (2 * rLast M))).1
  have h2 : M / 2 ^ (2 * rLast M) < 2 ^ 106 := by
    refine (Nat.div_lt_iff_lt_mul (Nat.two_pow_pos _)).mpr (Nat.lt_of_lt_of_le (rTop_lt M) ?_)
    rw [← Nat.pow_add]
    exact Nat.pow_le_pow_right (by decide) (by unfold rLast; omega)
  refine sq_lt.mp (Nat.lt_of_le_of_lt h1 ?_)
  rw [show (2 : Nat) ^ 53 * 2 ^ 53 = 2 ^ 106 by decide]; exact h2
theorem rt_rng {s : Nat} (h : s < 2400) : (nI s + (-1074 : Int32)).toInt = (s : Int) - 1074 := by
  have km : (-1074 : Int32).toInt = -1074 := by decide
  have kl : (nI s).toInt = (s : Int) := nI_toInt (by omega)
  rw [i_add (by omega) (by omega), kl, km]; omega
theorem rt_rng2 {s : Nat} (h : s < 2400) : -1074 ≤ (s : Int) - 1074 ∧ (s : Int) - 1074 ≤ 3000 := by omega
theorem rt_le {a : Nat} (c : Bool) (h : a < 2 ^ 53) : a + (if c then 1 else 0) ≤ 2 ^ 53 := by split <;> omega
theorem s_rootRounded {M : Nat} {way : Int32} {up : Bool} {Q : UInt64 → St → Prop} {σ : St} (hM : M < 2 ^ (32 * 150)) (hL : LV (gJ σ 43) M) (hw : way = if up then 2 else 1) (h : Q (rootV M up) σ) : w_X3_rootRounded Q way σ := by
  unfold w_X3_rootRounded
  have hb := bl_le.mpr hM
  refine s_topBit hM hL (fun e he => ?_)
  rintro y3 rfl
  have ht : rTop M < 2400 := by unfold rTop; omega
  have e3 : e / (2 : Int32) = nI (rTop M) := by
    by_cases z : M = 0
    · have e1 : e = -1 := i_ext (by rw [he, z]; decide)
      rw [e1, z]; decide
    · have hb1 := bl_pos (Nat.pos_of_ne_zero z)
      have e1 : e = nI (bl M - 1) := i_of (by rw [he]; omega) (by omega)
      rw [e1, show (2 : Int32) = nI 2 from rfl, pk_div (by omega) (by decide) (by decide)]; rfl
  rw [e3]
  have k53 : (53 : Int32).toInt = 53 := by decide
  have kt : (nI (rTop M)).toInt = (rTop M : Int) := nI_toInt (by omega)
  have e5 : (nI (rTop M) - 53).toInt = (rTop M : Int) - 53 := by rw [i_sub (by omega) (by omega), kt, k53]
  have e6 : (nI (rTop M) - 53 + 1).toInt = (rTop M : Int) - 52 := by rw [i_add (by rw [t1]; omega) (by rw [t1]; omega), e5, t1]; omega
  have el : (if nI (rTop M) - 53 + 1 < (0 : Int32) then (0 : Int32) else nI (rTop M) - 53 + 1) = nI (rLast M) := by
    refine i_of ?_ (by unfold rLast; omega)
    split
    · rename_i c
      rw [i_lt, e6, t0] at c
      rw [t0]; unfold rLast; omega
    · rename_i c
      rw [i_lt, e6, t0] at c
      rw [e6]; unfold rLast; omega
  rintro y4 rfl
  rw [el]
  have hl2 : rLast M < 2400 := by unfold rLast; omega
  have hS := rS_lt M
  have g147 : ∀ w : Nat, w = rS M + (if up && !rEx M then 1 else 0) → w_X3_rootRounded_147 Q way (nI (rLast M)) (lN w) σ := by
    rintro w rfl
    unfold w_X3_rootRounded_147
    have es := rt_rng hl2
    have hle : rS M + (if up && !rEx M then 1 else 0) ≤ 2 ^ 53 := rt_le _ hS
    refine s_finished hle (by rw [es]; exact Int.le_trans (by decide) (rt_rng2 hl2).1) (by rw [es]; exact Int.le_trans (rt_rng2 hl2).2 (by decide)) ?_
    rw [es, hw]
    exact h
  have g126 : ∀ s0 : Int32, (s0 = 0 ↔ rEx M = true) → w_X3_rootRounded_126 Q way (nI (rLast M)) (lN (rS M)) s0 σ := by
    intro s0 hs
    unfold w_X3_rootRounded_126
    refine s_stepsAway (by omega) ?_
    have ed : decide (¬ s0 = 0) = !rEx M := by
      by_cases c : s0 = 0
      · rw [dF c, hs.mp c]; rfl
      · rw [dT c]
        cases hx : rEx M
        · rfl
        · exact absurd (hs.mpr hx) c
    have ea : awy (rS M) (decide (¬ (0 : Int32) = 0)) (decide (¬ s0 = 0)) (decide (¬ (0 : Int32) = 0)) way = (up && !rEx M) := by
      rw [ed, hw]
      unfold awy
      cases up
      · rw [if_neg (by decide), if_neg (by decide), if_neg (by decide)]; rfl
      · rw [if_neg (by decide), if_pos rfl]; rfl
    rw [ea]
    cases hx : (up && !rEx M)
    · exact ⟨fun _ => g147 _ (by rw [hx]; rfl), fun z => absurd rfl z⟩
    · refine ⟨fun z => absurd z (by decide), fun _ => ?_⟩
      rintro y9 rfl
      have : lN (rS M) + (1 : Int64) = lN (rS M + 1) := lN_1 _
      rw [this]
      exact g147 _ (by rw [hx]; rfl)
  have fin : ∀ (root rest : Nat) (x8 : Int32), x8 < nI (rLast M) → root = rS M → rest = M / 2 ^ (2 * rLast M) - root * root → w_X3_rootRounded_27 Q 1 way (nI (rLast M)) (lN root) (lN rest) x8 σ := by
    rintro root rest x8 hx rfl rfl
    obtain ⟨s1, s2⟩ := FP.Core.sqrtFloor_spec (M / 2 ^ (2 * rLast M))
    have hs : FP.Core.sqrtFloor (M / 2 ^ (2 * rLast M)) = rS M := rfl
    rw [hs] at s1 s2
    have hrest : M / 2 ^ (2 * rLast M) - rS M * rS M < 2 ^ 60 := by
      have : (rS M + 1) * (rS M + 1) = rS M * rS M + 2 * rS M + 1 := by
        rw [Nat.add_mul, Nat.mul_add, Nat.one_mul, Nat.mul_one]; omega
      omega
    have hdm := Nat.div_add_mod M (2 ^ (2 * rLast M))
    have hex : rEx M = true ↔ M / 2 ^ (2 * rLast M) - rS M * rS M = 0 ∧ M % 2 ^ (2 * rLast M) = 0 := by
      unfold rEx
      rw [decide_eq_true_iff]
      refine ⟨fun q => ?_, fun q => ?_⟩
      · have h9 : M / 2 ^ (2 * rLast M) = rS M * rS M := by
          have h8 := Nat.mul_div_cancel (rS M * rS M) (Nat.two_pow_pos (2 * rLast M))
          rw [q] at h8; exact h8
        rw [h9, Nat.mul_comm, q] at hdm
        omega
      · have h9 : M / 2 ^ (2 * rLast M) = rS M * rS M := by omega
        rw [h9, q.2] at hdm
        rw [Nat.mul_comm]; omega
    have hm2 : (2 : Int32) * nI (rLast M) = nI (2 * rLast M) := by rw [show (2 : Int32) = nI 2 from rfl, pk_mul]
    rw [w_X3_rootRounded_27]
    refine ⟨fun _ => ⟨fun z => ?_, fun z => ?_⟩, fun z => absurd hx z⟩
    · unfold w_X3_rootRounded_121
      refine g126 1 ⟨fun y => absurd y n10, fun y => ?_⟩
      exact absurd (by rw [(hex.mp y).1]; rfl) z
    · have z0 : M / 2 ^ (2 * rLast M) - rS M * rS M = 0 := (pk_lEQ (b := 0) (by omega) (by decide)).mp z
      rw [hm2]
      refine s_hasBitBelow (by omega) hM hL ?_
      by_cases c : M % 2 ^ (2 * rLast M) = 0
      · rw [if_pos c]
        exact ⟨fun _ => g126 0 ⟨fun _ => hex.mpr ⟨z0, c⟩, fun _ => rfl⟩, fun y => absurd rfl y⟩
      · rw [if_neg c]
        refine ⟨fun y => absurd y n10, fun _ => ?_⟩
        unfold w_X3_rootRounded_121
        exact g126 1 ⟨fun y => absurd y n10, fun y => absurd (hex.mp y).2 c⟩
  have loop : ∀ (d i root rest : Nat) (x8 : Int32), rLast M + d = i → i ≤ rTop M + 1 → x8.toInt = (i : Int) - 1 → root * root + rest = M / 2 ^ (2 * i) → rest ≤ 2 * root → w_X3_rootRounded_27 Q (d + 1) way (nI (rLast M)) (lN root) (lN rest) x8 σ := by
    intro d
    induction d with
    | zero =>
      intro i root rest x8 hi hit hx h1 h2
      have : i = rLast M := by omega
      subst this
      have hr : root = rS M := by
        refine (sqrt_uniq (n := M / 2 ^ (2 * rLast M)) (by omega) ?_).symm
        have : (root + 1) * (root + 1) = root * root + 2 * root + 1 := by
          rw [Nat.add_mul, Nat.mul_add, Nat.one_mul, Nat.mul_one]; omega
        omega
      refine fin root rest x8 ?_ hr (by omega)
      rw [i_lt, hx, nI_toInt (by omega)]; omega
    | succ d ih =>
      intro i root rest x8 hi hit hx h1 h2
      obtain ⟨j, rfl⟩ : ∃ j, i = j + 1 := ⟨i - 1, by omega⟩
      have hx8 : x8 = nI j := i_of (by omega) (by omega)
      subst hx8
      have hX : M / 2 ^ (2 * (j + 1)) < 2 ^ 104 := by
        refine (Nat.div_lt_iff_lt_mul (Nat.two_pow_pos _)).mpr (Nat.lt_of_lt_of_le (rTop_lt M) ?_)
        rw [← Nat.pow_add]
        exact Nat.pow_le_pow_right (by decide) (by unfold rLast at hi; omega)
      have hroot : root < 2 ^ 52 := by
        refine sq_lt.mp ?_
        rw [show (2 : Nat) ^ 52 * 2 ^ 52 = 2 ^ 104 by decide]; omega
      rw [w_X3_rootRounded_27]
      refine ⟨fun z => ?_, fun _ => ?_⟩
      · rw [i_lt, hx, nI_toInt (by omega)] at z; omega
      · have m2 : (2 : Int32) * nI j = nI (2 * j) := by rw [show (2 : Int32) = nI 2 from rfl, pk_mul]
        rw [m2, nI_1]
        refine s_bitAtC (by omega) hM hL ?_
        refine s_bitAtC (by omega) hM hL ?_
        have hb1 : M / 2 ^ (2 * j + 1) % 2 < 2 := Nat.mod_lt _ (by decide)
        have hb0 : M / 2 ^ (2 * j) % 2 < 2 := Nat.mod_lt _ (by decide)
        have d1 : M / 2 ^ (2 * j + 1) = M / 2 ^ (2 * j) / 2 := by rw [Nat.div_div_eq_div_mul, ← Nat.pow_succ]
        have d2 : M / 2 ^ (2 * (j + 1)) = M / 2 ^ (2 * j) / 2 / 2 := by
          rw [Nat.div_div_eq_div_mul, Nat.div_div_eq_div_mul, show (2 : Nat) * 2 = 2 ^ 2 from rfl, ← Nat.pow_add]; exact congrArg (fun k => M / 2 ^ k) (by omega)
        rw [d1] at hb1 ⊢
        rw [d2] at h1
        have hY : M / 2 ^ (2 * j) = 4 * (M / 2 ^ (2 * j) / 2 / 2) + 2 * (M / 2 ^ (2 * j) / 2 % 2) + M / 2 ^ (2 * j) % 2 := by omega
        have ihj := fun root' rest' (a : root' * root' + rest' = M / 2 ^ (2 * j)) (b : rest' ≤ 2 * root') => ih j root' rest' (nI j + -1) (by omega) (by omega) (by
          have : (nI j).toInt = (j : Int) := nI_toInt (by omega)
          rw [i_add (by rw [km1]; omega) (by rw [km1]; omega), this, km1]; omega) a b
        generalize M / 2 ^ (2 * j) = Y at hb1 hb0 h1 hY ihj ⊢
        have sh : ∀ b : Nat, b < 2 → (nI b <<< ((1 : Int32) &&& 31)).toInt64 = lN (b * 2) := by
          intro b hb
          rcases (show b = 0 ∨ b = 1 by omega) with rfl | rfl <;> decide
        have tb : ∀ b : Nat, b < 2 → (nI b).toInt64 = lN b := fun b hb => nI_l (by omega)
        rintro y16 rfl y17 rfl y18 rfl
        rw [sh _ hb1, tb _ hb0, show (2 : Int32) = nI 2 from rfl, show (1 : Int32) = nI 1 from rfl, lshl_N _ (by decide), lshl_N _ (by decide), lshl_N _ (by decide)]
        have o1 : lN (rest * 2 ^ 2) ||| lN (Y / 2 % 2 * 2) = lN (rest * 2 ^ 2 + Y / 2 % 2 * 2) := g_or (k := 2) rfl (by omega) (by omega)
        have o2 : lN (rest * 2 ^ 2 + Y / 2 % 2 * 2) ||| lN (Y % 2) = lN (rest * 2 ^ 2 + Y / 2 % 2 * 2 + Y % 2) := by
          have := g_or (k := 1) (p := 2) (a := Y % 2) (b := rest * 2 + Y / 2 % 2) rfl hb0 (by omega)
          rw [show (rest * 2 + Y / 2 % 2) * 2 = rest * 2 ^ 2 + Y / 2 % 2 * 2 by omega] at this
          exact this
        have o3 : lN (root * 2 ^ 2) ||| (1 : Int64) = lN (root * 2 ^ 2 + 1) := g_or (k := 2) (a := 1) rfl (by omega) (by omega)
        have o4 : lN (root * 2 ^ 1) ||| (1 : Int64) = lN (root * 2 ^ 1 + 1) := g_or (k := 1) (a := 1) rfl (by omega) (by omega)
        rw [o1, o2, o3]
        have cl : lN (rest * 2 ^ 2 + Y / 2 % 2 * 2 + Y % 2) < lN (root * 2 ^ 2 + 1) ↔ rest * 2 ^ 2 + Y / 2 % 2 * 2 + Y % 2 < root * 2 ^ 2 + 1 := pk_lLT (by omega) (by omega)
        rw [cl]
        have hsq : (root * 2) * (root * 2) = 4 * (root * root) := by rw [Nat.mul_mul_mul_comm, Nat.mul_comm]
        refine ⟨fun z => ?_, fun z => ?_⟩
        · rintro y19 rfl
          refine ihj (root * 2 ^ 1) _ ?_ (by omega)
          show (root * 2) * (root * 2) + _ = Y
          rw [hsq]; omega
        · rintro y20 rfl y21 rfl y22 rfl
          rw [o4, lN_sub (by omega)]
          refine ihj (root * 2 ^ 1 + 1) _ ?_ (by omega)
          show (root * 2 + 1) * (root * 2 + 1) + _ = Y
          have : (root * 2 + 1) * (root * 2 + 1) = 4 * (root * root) + 4 * root + 1 := by
            rw [Nat.add_mul, Nat.mul_add, Nat.one_mul, Nat.mul_one, hsq]; omega
          rw [this]; omega
  refine ⟨_, loop (rTop M + 1 - rLast M) (rTop M + 1) 0 0 (nI (rTop M)) (by unfold rLast; omega) (Nat.le_refl _) (by rw [kt]; omega) ?_ (Nat.le_refl _)⟩
  rw [Nat.div_eq_of_lt (rTop_lt M)]
def t_length (A : AS) (x1 x2 : Int32) : UInt64 :=
  if isK x1 ∧ (A.2.1 (ix x1)).1 ≠ -1 ∧ (A.2.1 (ix x1)).1 ≠ 0 then
    (if sortK (A.2.1 (ix x1)).2.2 = 3 ∨ sortK (A.2.1 (ix x1)).2.2 = 2 then U false 0 else if sortK (A.2.1 (ix x1)).2.2 = 1 then dInf
     else if (A.2.1 (ix x1)).2.1 < 0 then U false 0 else rootV (A.2.1 (ix x1)).2.1.natAbs (decide (¬ x2 = 0))) else U false 0
theorem s_lengthC {A : AS} {N : Nat} {x1 x2 : Int32} {Q : UInt64 → St → Prop} {σ : St} (hR : RC A σ) (ho : OK N A) (hN : N ≤ 512) (h : ∀ σ', RC A σ' → Q (t_length A x1 x2) σ') : w_X4_length Q x1 x2 σ := by
  unfold w_X4_length
  unfold t_length at h
  have bad : ¬ (isK x1 ∧ (A.2.1 (ix x1)).1 ≠ -1 ∧ (A.2.1 (ix x1)).1 ≠ 0) → Q FP.dconst0 σ := by
    intro c
    rw [if_neg c] at h
    rw [u_zero]; exact h σ hR
  refine s_findingOf hR (fun c g => ⟨fun _ => ?_, fun z => absurd rfl z⟩) (fun c g => ⟨fun z => absurd z (by decide), fun _ => bad (fun z => z.2.1 g)⟩) (fun c => ⟨fun z => absurd z (by decide), fun _ => bad (fun z => c z.1)⟩)
  obtain ⟨e1, l1⟩ := isK_nI c
  have hK := hR.2.1 _ l1
  have b := (ho.2.1 _ l1).rng hN
  have hM := p4800 b.1 b.2
  refine ⟨by rw [e1]; exact in_nI l1 (by decide), s_state hK ?_⟩
  have k0 : gI σ (keepC (ix x1)) 1 = 0 ↔ (A.2.1 (ix x1)).1 = 0 := hK.is (n := 0) g (by decide)
  have hl := sortK_lt (A.2.1 (ix x1)).2.2
  have d : ∀ {y : Nat}, y < 4 → (nI (sortK (A.2.1 (ix x1)).2.2) = nI y ↔ sortK (A.2.1 (ix x1)).2.2 = y) := fun hy => nI_eq (by omega) (by omega)
  have d1 : nI (sortK (A.2.1 (ix x1)).2.2) = 1 ↔ sortK (A.2.1 (ix x1)).2.2 = 1 := d (y := 1) (by decide)
  have d2 : nI (sortK (A.2.1 (ix x1)).2.2) = 2 ↔ sortK (A.2.1 (ix x1)).2.2 = 2 := d (y := 2) (by decide)
  have d3 : nI (sortK (A.2.1 (ix x1)).2.2) = 3 ↔ sortK (A.2.1 (ix x1)).2.2 = 3 := d (y := 3) (by decide)
  show _ ∧ _
  rw [k0, d1, d2, d3]
  refine ⟨fun z => bad (fun y => y.2.2 z), fun z => ?_⟩
  rw [if_pos ⟨c, g, z⟩] at h
  refine ⟨fun q => ?_, fun q => ⟨fun q2 => ⟨fun q3 => s_isBelowC hK ?_, fun q3 => ?_⟩, fun q2 => ?_⟩⟩
  · rw [if_pos (Or.inl q)] at h
    rw [u_zero]; exact h σ hR
  · rw [if_neg (by rintro (y | y); exact q y; exact q2 y), if_neg q3] at h
    by_cases a : (A.2.1 (ix x1)).2.1 < 0
    · rw [if_pos a] at h ⊢
      exact ⟨fun y => absurd y n10, fun _ => by rw [u_zero]; exact h σ hR⟩
    · rw [if_neg a] at h ⊢
      refine ⟨fun _ => s_load (by unfold keepC; omega) hK b (fun L hL => ?_), fun y => absurd rfl y⟩
      have h := h _ (hR.scr (frc_wJ (f := L) (Or.inl rfl)))
      refine ⟨fun y => ?_, fun y => ?_⟩ <;> unfold w_X4_length_84
      · rw [dF y] at h
        exact s_rootRounded (up := false) hM (by rw [gJ_wJ_eq]; exact hL) rfl h
      · rw [dT y] at h
        exact s_rootRounded (up := true) hM (by rw [gJ_wJ_eq]; exact hL) rfl h
  · rw [if_neg (by rintro (y | y); exact q y; exact q2 y), if_pos q3] at h
    exact h σ hR
  · rw [if_pos (Or.inr q2)] at h
    rw [u_zero]; exact h σ hR
