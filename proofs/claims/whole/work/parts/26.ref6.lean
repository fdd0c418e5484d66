/-! the reference gathers a product -/
theorem s_addProduct {Q : St → Prop} {σ : St} {kp r1 k1 r2 k2 : Nat} {a b : Nat × Int} {tk : Int32} {s : Int × (Nat → Int32)} (hk : kp < 7) (h1 : r1 < 12) (h2 : r2 < 12) (hk1 : k1 < 480) (hk2 : k2 < 480) (oa : okR σ r1 k1 a) (ob : okR σ r2 k2 b) (ht : bz tk) (hs : SV σ kp s)
    (h : ∀ σ', Gk kp σ σ' → SV σ' kp (stp (decide (¬ tk = 0)) (prS a b) s) → Q σ') : w_X5_addProduct Q (nI kp) (nI r1) (nI k1) (nI r2) (nI k2) tk σ := by
  have la := oa.lt
  have lb2 := ob.lt
  have d : ∀ {x y : Nat}, x < 4 → y < 4 → (nI x = nI y ↔ x = y) := fun hx hy => nI_eq (by omega) (by omega)
  have sn : ∀ n : Nat, n ≠ 0 → stp (decide (¬ tk = 0)) (n, 0) s = (s.1, mt s.2 (widx n (decide (¬ tk = 0)))) := fun n z => if_neg z
  have c3 : (3 : Int32) = nI 3 := rfl
  have c0 : (0 : Int32) = nI 0 := rfl
  have e60 : prS a b = (3, 0) → ∀ x7 x8, w_X5_addProduct_60 Q (nI kp) (nI r1) (nI k1) (nI r2) (nI k2) tk x7 x8 σ := by
    intro e x7 x8
    unfold w_X5_addProduct_60 w_X5_addProduct_65
    refine ⟨fun q => absurd q (by decide), fun _ => ?_⟩
    rw [e, sn _ (by decide)] at h
    exact s_seeV (w := 0) hk (by decide) hs h
  have ends : ∀ (n : Nat) (bl : Int32), (n = 1 ∧ bl = 0 ∨ n = 2 ∧ bl = 1) → prS a b = (n, 0) → w_X5_addProduct_116 Q tk bl (nI kp) σ := by
    rintro n bl hn e
    rw [e, sn _ (by omega)] at h
    unfold w_X5_addProduct_116 w_X5_endless w_X5_endless_12
    rcases hn with ⟨rfl, rfl⟩ | ⟨rfl, rfl⟩ <;> rcases ht with rfl | rfl
    · exact ⟨fun _ => s_seeV (w := 1) hk (by decide) hs h, fun z => absurd rfl z⟩
    · exact ⟨fun z => absurd z (by decide), fun _ => s_seeV (w := 2) hk (by decide) hs h⟩
    · exact ⟨fun z => absurd z (by decide), fun _ => s_seeV (w := 2) hk (by decide) hs h⟩
    · exact ⟨fun _ => s_seeV (w := 1) hk (by decide) hs h, fun z => absurd rfl z⟩
  have e92 : prS a b = (if isB a = isB b then 1 else 2, 0) → w_X5_addProduct_92 Q (nI kp) (nI r1) (nI k1) (nI r2) (nI k2) tk σ := by
    intro e
    unfold w_X5_addProduct_92
    refine s_isBelowR h1 hk1 oa ?_
    refine s_isBelowR h2 hk2 ob ?_
    cases hA : isB a <;> cases hB : isB b <;> rw [hA, hB] at e
    · exact ⟨fun _ => ends 1 0 (Or.inl ⟨rfl, rfl⟩) e, fun q => absurd rfl q⟩
    · exact ⟨fun q => absurd q (by decide), fun _ => ends 2 1 (Or.inr ⟨rfl, rfl⟩) e⟩
    · exact ⟨fun q => absurd q (by decide), fun _ => ends 2 1 (Or.inr ⟨rfl, rfl⟩) e⟩
    · exact ⟨fun _ => ends 1 0 (Or.inl ⟨rfl, rfl⟩) e, fun q => absurd rfl q⟩
  have p3a : a.1 = 3 → prS a b = (3, 0) := fun z => by unfold prS; rw [if_pos (Or.inl z)]
  have p3b : b.1 = 3 → prS a b = (3, 0) := fun z => by unfold prS; rw [if_pos (Or.inr z)]
  have n64 : a.1 ≠ 3 → b.1 ≠ 3 → ¬ ((a.1 = 0 ∧ a.2 = 0) ∧ b.1 ≠ 0) → ¬ ((b.1 = 0 ∧ b.2 = 0) ∧ a.1 ≠ 0) → w_X5_addProduct_64 Q (nI kp) (nI r1) (nI k1) (nI r2) (nI k2) tk (nI a.1) (nI b.1) σ := by
    intro na nb za zb
    have no : ¬ (a.1 = 0 ∧ b.1 = 0) → prS a b = (if isB a = isB b then 1 else 2, 0) := by
      intro z
      unfold prS
      rw [if_neg (by rintro (q | q); exact na q; exact nb q), if_neg z, if_neg]
      rintro (⟨q, q2⟩ | ⟨q, q2⟩)
      · exact za ⟨⟨q, q2⟩, fun w => z ⟨q, w⟩⟩
      · exact zb ⟨⟨q, q2⟩, fun w => z ⟨w, q⟩⟩
    unfold w_X5_addProduct_64 w_X5_addProduct_65
    refine ⟨fun _ => ⟨fun q => e92 (no (fun z => q (by rw [z.1]; rfl))), fun q => ⟨fun q2 => ?_, fun q2 => e92 (no (fun z => q2 (by rw [z.2]; rfl)))⟩⟩, fun q => absurd rfl q⟩
    have ha0 : a.1 = 0 := (d la (by decide)).mp q
    have hb0 : b.1 = 0 := (d lb2 (by decide)).mp q2
    have ep : prS a b = (0, a.2 * b.2) := by
      unfold prS
      rw [if_neg (by rintro (z | z); exact na z; exact nb z), if_pos ⟨ha0, hb0⟩]
    rw [ep] at h
    refine s_apartR h1 hk1 oa ha0 (fun σ3 hA => ?_)
    rintro y11 rfl y12 rfl y13 rfl
    refine s_apartR h2 hk2 (ob.fr (hA.1.mono (fun c z => absurd z (by simp)))) hb0 (fun σ4 hB => ?_)
    obtain ⟨fA, sz1, l1, e1, p1, p2, m1, g1⟩ := hA
    obtain ⟨fB, sz2, l2, e2, p3, p4, m2, g2⟩ := hB
    rw [e1, e2]
    refine s_mulHigh l1 l2 ?_
    refine ⟨fun _ => ?_, fun z => absurd (l_ge0.mpr (by rw [pk_lT (by omega)]; omega)) z⟩
    unfold w_X5_addProduct_180
    rw [e2]
    refine ⟨fun _ => ?_, fun z => absurd (l_ge0.mpr (by rw [pk_lT (by omega)]; omega)) z⟩
    have hps : (gI σ3 0 17 + gI σ4 0 17).toInt = (gI σ3 0 17).toInt + (gI σ4 0 17).toInt := i_add (by omega) (by omega)
    have core : ∀ s0 : Int32, (s0 = 0 ↔ (if gI σ3 0 18 = gI σ4 0 18 then 0 else 1) = tk) → w_X5_addProduct_241 Q s0 (gI σ3 0 17 + gI σ4 0 17) (lN sz1 * lN sz2) (lN (sz1 * sz2 / 2 ^ 64) + 0 + 0) (nI kp) σ4 := by
      intro s0 hs0
      unfold w_X5_addProduct_241
      have hlt : sz1 * sz2 < 2 ^ 106 := by
        calc sz1 * sz2 < 2 ^ 53 * 2 ^ 53 := Nat.mul_lt_mul'' l1 l2
          _ = 2 ^ 106 := by decide
      rw [l_mul_N, wb_mod (sz1 * sz2), Int64.add_zero, Int64.add_zero]
      refine s_bitsV (hi := sz1 * sz2 / 2 ^ 64) (lo := sz1 * sz2 % 2 ^ 64) (at_ := ((gI σ3 0 17).toInt + 1074).toNat + ((gI σ4 0 17).toInt + 1074).toNat) (by omega) (by omega) (by omega) (by rw [hps]; omega) hk ((hs.of fA).of fB) (fun σ' g v => h σ' ((Gk.of (fA.tr fB)).tr g) ?_)
      have e : sgnI (decide (¬ s0 = 0)) (((sz1 * sz2 / 2 ^ 64 * 2 ^ 64 + sz1 * sz2 % 2 ^ 64) * 2 ^ (((gI σ3 0 17).toInt + 1074).toNat + ((gI σ4 0 17).toInt + 1074).toNat) : Nat) : Int) = sgnI (decide (¬ tk = 0)) (a.2 * b.2) := by
        refine sgl2 (m1 := gI σ3 0 18) (m2 := gI σ4 0 18) g1 g2 ht hs0 ?_
        rw [Nat.mul_comm (sz1 * sz2 / 2 ^ 64), Nat.div_add_mod, Nat.pow_add, ← m1, ← m2, ← Int.natCast_mul]
        refine congrArg _ ?_
        simp only [Nat.mul_assoc, Nat.mul_left_comm, Nat.mul_comm]
      unfold stp
      rw [if_pos rfl]
      rw [← e]
      exact v
    unfold w_X5_addProduct_196
    rintro y17 rfl
    rw [e2]
    refine ⟨fun z => ?_, fun z => ?_⟩ <;> unfold w_X5_addProduct_231
    · exact ⟨fun z2 => core 0 ⟨fun _ => by rw [if_pos z]; exact z2, fun _ => rfl⟩, fun z2 => core 1 ⟨fun w => absurd w (by decide), fun w => by rw [if_pos z] at w; exact absurd w z2⟩⟩
    · exact ⟨fun z2 => core 0 ⟨fun _ => by rw [if_neg z]; exact z2, fun _ => rfl⟩, fun z2 => core 1 ⟨fun w => absurd w (by decide), fun w => by rw [if_neg z] at w; exact absurd w z2⟩⟩
  have n46 : a.1 ≠ 3 → b.1 ≠ 3 → ¬ ((b.1 = 0 ∧ b.2 = 0) ∧ a.1 ≠ 0) → w_X5_addProduct_46 Q (nI kp) (nI r1) (nI k1) (nI r2) (nI k2) tk (nI a.1) (nI b.1) σ := by
    intro na nb zb
    unfold w_X5_addProduct_46
    refine ⟨fun q => n64 na nb (fun z => z.2 ((d lb2 (by decide)).mp q)) zb, fun q => ?_⟩
    refine s_isZeroR h1 hk1 oa ?_
    have hb0 : b.1 ≠ 0 := fun z => q (by rw [z]; rfl)
    by_cases za : a.1 = 0 ∧ a.2 = 0
    · rw [if_pos za]
      refine ⟨fun z => absurd z (by decide), fun _ => e60 ?_ _ _⟩
      unfold prS
      rw [if_neg (by rintro (z | z); exact na z; exact nb z), if_neg (fun z => hb0 z.2), if_pos (Or.inl za)]
    · rw [if_neg za]
      exact ⟨fun _ => n64 na nb (fun z => za z.1) zb, fun z => absurd rfl z⟩
  unfold w_X5_addProduct
  refine s_sortOfR h1 hk1 oa ?_
  refine s_sortOfR h2 hk2 ob ?_
  rw [c3]
  refine ⟨fun q => e60 (p3a ((d la (by decide)).mp q)) _ _, fun q => ⟨fun q2 => e60 (p3b ((d lb2 (by decide)).mp q2)) _ _, fun q2 => ?_⟩⟩
  have na : a.1 ≠ 3 := fun z => q (congrArg nI z)
  have nb : b.1 ≠ 3 := fun z => q2 (congrArg nI z)
  refine ⟨fun q3 => n46 na nb (fun z => z.2 ((d la (by decide)).mp q3)), fun q3 => ?_⟩
  have ha0 : a.1 ≠ 0 := fun z => q3 (by rw [z]; rfl)
  refine s_isZeroR h2 hk2 ob ?_
  by_cases zb : b.1 = 0 ∧ b.2 = 0
  · rw [if_pos zb]
    refine ⟨fun _ => e60 ?_ _ _, fun z => absurd z (by decide)⟩
    unfold prS
    rw [if_neg (by rintro (z | z); exact na z; exact nb z), if_neg (fun z => ha0 z.1), if_pos (Or.inr zb)]
  · rw [if_neg zb]
    exact ⟨fun z => absurd rfl z, fun _ => n46 na nb (fun z => zb z.1)⟩
/-! the loops that gather -/
theorem tk_f {x : Int32} (q : 0 ≤ x) : decide (¬ (0 : Int32) = 0) = decide (¬ 0 ≤ x) := by
  rw [decide_eq_false (p := ¬ 0 ≤ x) (fun z => z q)]; rfl
theorem tk_t {x : Int32} (q : ¬ 0 ≤ x) : decide (¬ (1 : Int32) = 0) = decide (¬ 0 ≤ x) := by
  rw [decide_eq_true (p := ¬ 0 ≤ x) q]; rfl
theorem m40 {r pl i : Nat} : (40 : Int32) * nI r + nI pl + nI i = nI (40 * r + pl + i) := by
  rw [show (40 : Int32) = nI 40 from rfl, pk_mul, nI_add, nI_add]
theorem m40' {r pl : Nat} : (40 : Int32) * nI r + nI pl = nI (40 * r + pl) := by
  rw [show (40 : Int32) = nI 40 from rfl, pk_mul, nI_add]
theorem add_loop {Q : Int32 → St → Prop} {σ0 : St} {kp r pl n : Nat} {x4 kd : Int32} {t : Bool} {s0 : Int × (Nat → Int32)} (pa it : Nat → Nat × Int) (hk : kp < 7) (hr : r < 12) (hpn : pl + n ≤ 40) (ht : t = decide (¬ 0 ≤ x4)) (hkd : gI σ0 6 kp = kd)
    (hok : ∀ j, j < n → okR σ0 r (40 * r + pl + j) (pa j)) (hit : ∀ j, j < n → it j = if kd = 2 then prS (pa j) (pa j) else prS (pa j) (0, 2 ^ 1074))
    (h : ∀ σ', Gk kp σ0 σ' → SV σ' kp (itr t it n s0) → Q (nI n) (uI σ' 0 9 (gI σ' 0 9 + nI n))) :
    ∀ (d i : Nat) (σ : St), i + d = n → Gk kp σ0 σ → SV σ kp (itr t it i s0) → w_X5_add_100 Q (d + 1) (nI kp) (nI r) (nI pl) x4 (nI n) (nI i) σ := by
  intro d
  induction d with
  | zero =>
    intro i σ hi g v
    have : i = n := by omega
    subst this
    rw [w_X5_add_100]
    refine ⟨fun _ => ?_, fun q => absurd (Int32.le_refl _) q⟩
    rintro σ17 rfl
    exact h σ g v
  | succ d ih =>
    intro i σ hi g v
    rw [w_X5_add_100]
    refine ⟨fun q => ?_, fun _ => ?_⟩
    · have := (nI_leI (a := n) (b := i) (by omega) (by omega)).mp q
      omega
    · rintro y18 rfl
      rw [m40, ix_nI (by omega), g.1.i (c := 6) (by decide), hkd]
      have ok := (hok i (by omega)).fr (g.1.mono (fun c z => z))
      have hin := hit i (by omega)
      have hst : itr t it (i + 1) s0 = stp t (it i) (itr t it i s0) := rfl
      refine ⟨in_nI hk (by decide), fun q => ?_, fun q => ?_⟩
      · rw [if_neg q] at hin
        have go : ∀ tk : Int32, bz tk → decide (¬ tk = 0) = t → w_X5_add_167 (fun x1 x2 x3 x4 x5 x6 σ => w_X5_add_100 Q (d + 1) x1 x2 x3 x4 x5 x6 σ) Q (nI kp) (nI r) (nI pl) x4 (nI n) (nI i) tk (nI (40 * r + pl + i)) (nI r) (nI kp) σ := by
          intro tk hb htk
          unfold w_X5_add_167
          refine s_addPlace hk hr (by omega) ok hb v (fun σ' g' v' => ?_)
          rintro y21 rfl
          rw [nI_1]
          refine ih (i + 1) σ' (by omega) (g.tr g') ?_
          rw [htk] at v'; rw [hst, hin]; exact v'
        refine ⟨fun q2 => go 0 (Or.inl rfl) ?_, fun q2 => go 1 (Or.inr rfl) ?_⟩
        · rw [ht]; exact tk_f q2
        · rw [ht]; exact tk_t q2
      · rw [if_pos q] at hin
        have go : ∀ tk : Int32, bz tk → decide (¬ tk = 0) = t → w_X5_add_146 (fun x1 x2 x3 x4 x5 x6 σ => w_X5_add_100 Q (d + 1) x1 x2 x3 x4 x5 x6 σ) Q (nI kp) (nI r) (nI pl) x4 (nI n) (nI i) tk (nI (40 * r + pl + i)) (nI r) (nI (40 * r + pl + i)) (nI r) (nI kp) σ := by
          intro tk hb htk
          unfold w_X5_add_146
          refine s_addProduct hk hr hr (by omega) (by omega) ok ok hb v (fun σ' g' v' => ?_)
          rintro y23 rfl
          rw [nI_1]
          refine ih (i + 1) σ' (by omega) (g.tr g') ?_
          rw [htk] at v'; rw [hst, hin]; exact v'
        refine ⟨fun q2 => go 0 (Or.inl rfl) ?_, fun q2 => go 1 (Or.inr rfl) ?_⟩
        · rw [ht]; exact tk_f q2
        · rw [ht]; exact tk_t q2
theorem pair_loop {Q : Int32 → St → Prop} {σ0 : St} {kp r r2 pl n : Nat} {x5 : Int32} {t : Bool} {s0 : Int × (Nat → Int32)} (pa pb it : Nat → Nat × Int) (hk : kp < 7) (hr : r < 12) (hr2 : r2 < 12) (hpn : pl + n ≤ 40) (ht : t = decide (¬ 0 ≤ x5))
    (hok : ∀ j, j < n → okR σ0 r (40 * r + pl + j) (pa j)) (hok2 : ∀ j, j < n → okR σ0 r2 (40 * r2 + pl + j) (pb j)) (hit : ∀ j, j < n → it j = prS (pa j) (pb j))
    (h : ∀ σ', Gk kp σ0 σ' → SV σ' kp (itr t it n s0) → Q (nI n) (uI σ' 0 9 (gI σ' 0 9 + nI n))) :
    ∀ (d i : Nat) (σ : St), i + d = n → Gk kp σ0 σ → SV σ kp (itr t it i s0) → w_X5_pair_127 Q (d + 1) (nI kp) (nI r) (nI r2) (nI pl) x5 (nI n) (nI i) σ := by
  intro d
  induction d with
  | zero =>
    intro i σ hi g v
    have : i = n := by omega
    subst this
    rw [w_X5_pair_127]
    refine ⟨fun _ => ?_, fun q => absurd (Int32.le_refl _) q⟩
    rintro σ17 rfl
    exact h σ g v
  | succ d ih =>
    intro i σ hi g v
    rw [w_X5_pair_127]
    refine ⟨fun q => ?_, fun _ => ?_⟩
    · have := (nI_leI (a := n) (b := i) (by omega) (by omega)).mp q
      omega
    · rw [m40, m40]
      have ok := (hok i (by omega)).fr (g.1.mono (fun c z => z))
      have ok2 := (hok2 i (by omega)).fr (g.1.mono (fun c z => z))
      have hin := hit i (by omega)
      have hst : itr t it (i + 1) s0 = stp t (it i) (itr t it i s0) := rfl
      have go : ∀ tk : Int32, bz tk → decide (¬ tk = 0) = t → w_X5_pair_168 (fun x1 x2 x3 x4 x5 x6 x7 σ => w_X5_pair_127 Q (d + 1) x1 x2 x3 x4 x5 x6 x7 σ) Q (nI kp) (nI r) (nI r2) (nI pl) x5 (nI n) (nI i) tk (nI (40 * r2 + pl + i)) (nI r2) (nI (40 * r + pl + i)) (nI r) (nI kp) σ := by
        intro tk hb htk
        unfold w_X5_pair_168
        refine s_addProduct hk hr hr2 (by omega) (by omega) ok ok2 hb v (fun σ' g' v' => ?_)
        rintro y23 rfl
        rw [nI_1]
        refine ih (i + 1) σ' (by omega) (g.tr g') ?_
        rw [htk] at v'; rw [hst, hin]; exact v'
      refine ⟨fun q2 => go 0 (Or.inl rfl) ?_, fun q2 => go 1 (Or.inr rfl) ?_⟩
      · rw [ht]; exact tk_f q2
      · rw [ht]; exact tk_t q2
theorem error_loop {Q : Int32 → St → Prop} {σ0 : St} {kp r pl n : Nat} {s0 : Int × (Nat → Int32)} (pa it : Nat → Nat × Int) (hk : kp < 7) (hr : r < 12) (hpn : pl + n ≤ 40)
    (hok : ∀ j, j < n → okR σ0 r (40 * r + pl + j) (pa j)) (hit : ∀ j, j < n → it j = prS (pa j) (0, 2 ^ 1074))
    (h : ∀ σ', Gk kp σ0 σ' → SV σ' kp (itr false it n s0) → w_X5_error_95 Q 1 (nI kp) (nI r) (nI pl) (nI n) (nI n) σ') :
    ∀ (d i : Nat) (σ : St), i + d = n → Gk kp σ0 σ → SV σ kp (itr false it i s0) → w_X5_error_95 Q (d + 1) (nI kp) (nI r) (nI pl) (nI n) (nI i) σ := by
  intro d
  induction d with
  | zero =>
    intro i σ hi g v
    have : i = n := by omega
    subst this
    exact h σ g v
  | succ d ih =>
    intro i σ hi g v
    rw [w_X5_error_95]
    refine ⟨fun q => ?_, fun _ => ?_⟩
    · have := (nI_leI (a := n) (b := i) (by omega) (by omega)).mp q
      omega
    · rw [m40]
      have ok := (hok i (by omega)).fr (g.1.mono (fun c z => z))
      have hin := hit i (by omega)
      have hst : itr false it (i + 1) s0 = stp false (it i) (itr false it i s0) := rfl
      refine s_addPlace (tk := 0) hk hr (by omega) ok (Or.inl rfl) v (fun σ' g' v' => ?_)
      rintro y23 rfl
      rw [nI_1]
      refine ih (i + 1) σ' (by omega) (g.tr g') ?_
      rw [hst, hin]; exact v'
