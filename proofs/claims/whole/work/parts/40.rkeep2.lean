/-! the reference's further calls of keepers -/
theorem OK.push {A : AS} {n k : Nat} (ho : OK n A) (hk : k < 6) : OK n (pushH A k) := ⟨ho.1, ho.2.1, fun j e he => by
  obtain ⟨hj, he⟩ := take_at (l := (k, A.2.1 k) :: A.2.2.1) he
  cases j with
  | zero =>
    have : e = (k, A.2.1 k) := (Option.some.inj he).symm
    subst this
    exact ⟨hk, ho.2.1 _ hk⟩
  | succ j => exact ho.2.2 j e he⟩
theorem s_pairR {A : AS} {N : Nat} {x1 x2 x3 x4 x5 : Int32} {Q : Int32 → St → Prop} {σ : St} (hR : RR A σ) (ho : OK N A) (h : ∀ σ', RR (t_pair A x1 x2 x3 x4 x5).2 σ' → Q (t_pair A x1 x2 x3 x4 x5).1 σ') : w_X5_pair Q x1 x2 x3 x4 x5 σ := by
  unfold w_X5_pair
  unfold t_pair at h
  rintro σ1 rfl
  have hR := hR.thr
  generalize uI σ 0 0 0 = σ at hR ⊢
  have bad : ¬ (isK x1 ∧ isR x2 ∧ isR x3 ∧ (-40 ≤ x5.toInt ∧ x5.toInt ≤ 40)) → Q (-3) σ := by
    intro c
    rw [if_neg c] at h
    exact h σ hR
  have cm : (-40 : Int64).toInt = -40 := by decide
  have cp : (40 : Int64).toInt = 40 := by decide
  refine s_isKeeperR (fun c1 => ⟨fun z => absurd z n10, fun _ => s_isRowR (fun c2 => ⟨fun z => absurd z n10, fun _ => s_isRowR (fun c3 => ⟨fun z => absurd z n10, fun _ => s_in (fun q => ⟨fun _ => ?_, fun z => absurd z n10⟩) (fun q => ⟨fun z => absurd rfl z, fun _ => bad ?_⟩)⟩) (fun c3 => ⟨fun _ => bad (fun z => c3 z.2.2.1), fun z => absurd rfl z⟩)⟩) (fun c2 => ⟨fun _ => bad (fun z => c2 z.2.1), fun z => absurd rfl z⟩)⟩) (fun c1 => ⟨fun _ => bad (fun z => c1 z.1), fun z => absurd rfl z⟩)
  · rw [i2l_toInt, cm, cp] at q
    rw [if_pos ⟨c1, c2, c3, q⟩] at h
    obtain ⟨e1, l1⟩ := isK_nI c1
    obtain ⟨e2, l2⟩ := isR_nI c2
    obtain ⟨e3, l3⟩ := isR_nI c3
    have hK := hR.2.1 _ l1
    have hr := hR.1 _ l2
    have hs := hR.1 _ l3
    have hin : vp_in x1 7 := by rw [e1]; exact in_nI (by omega) (by decide)
    rw [hK.gone]
    refine ⟨hin, fun g => by rw [if_pos (Or.inl g)] at h; exact h σ hR, fun g => ?_⟩
    rw [e2, e3]
    refine s_isThereR l2 hr (fun g2 => ⟨fun z => absurd z n10, fun _ => ?_⟩) (fun g2 => ⟨fun _ => by rw [if_pos (Or.inr (Or.inl g2))] at h; exact h σ hR, fun z => absurd rfl z⟩)
    refine s_isThereR l3 hs (fun g3 => ⟨fun _ => ?_, fun z => absurd z n10⟩) (fun g3 => ⟨fun z => absurd rfl z, fun _ => by rw [if_pos (Or.inr (Or.inr g3))] at h; exact h σ hR⟩)
    rw [if_neg (by rintro (z | z | z); exact g z; exact g2 z; exact g3 z)] at h
    have k0 : gI σ 6 (ix x1) = 0 ↔ (A.2.1 (ix x1)).1 = 0 := hK.is (n := 0) (by decide)
    rw [k0]
    refine ⟨hin, fun q3 => ?_, fun q3 => by rw [if_pos q3] at h; exact h σ hR⟩
    rw [if_neg q3] at h
    obtain ⟨r1, r2, r3, r4, r5⟩ := hr.2 g2
    obtain ⟨p1, p2, p3, p4, p5⟩ := hs.2 g3
    refine s_sizeOf q.1 q.2 ?_
    have ea : (nI x5.toInt.natAbs).toInt = (x5.toInt.natAbs : Int) := nI_toInt (by omega)
    refine s_arePlacesR l2 r3 r4 (fun c4 => ⟨fun z => absurd z n10, fun _ => s_arePlacesR l3 p3 p4 (fun c5 => ⟨fun _ => ?_, fun z => absurd z n10⟩) (fun c5 => ⟨fun z => absurd rfl z, fun _ => ?_⟩)⟩) (fun c4 => ⟨fun _ => ?_, fun z => absurd rfl z⟩)
    · have c4' : areN (A.1 (ix x2)) x4 x5.toInt.natAbs := by
        have := c4.2; rw [ea] at this; exact this
      have c5' : areN (A.1 (ix x3)) x4 x5.toInt.natAbs := by
        have := c5.2; rw [ea] at this; exact this
      rw [if_pos ⟨c4', c5'⟩] at h
      have i4 : (ix x4 : Int) = x4.toInt := by rw [ix_toInt]; have := c4'.1; omega
      have hb1 : ix x4 + x5.toInt.natAbs ≤ 40 := by have := c4'.2; omega
      have e4 : x4 = nI (ix x4) := i_of (by omega) (by omega)
      have okr := ho.1 _ l2
      have oks := ho.1 _ l3
      rw [e1, e4]
      refine s_keepR l1 hR (fun σ16 hR16 => ?_)
      have hK16 := hR16.2.1 _ l1
      have sv := SV.of_R (n := N) hR16 (ho.push l1) l1
      have loop := pair_loop (Q := Q) (σ0 := σ16) (kp := ix x1) (r := ix x2) (r2 := ix x3) (pl := ix x4) (n := x5.toInt.natAbs) (x5 := x5) (s0 := ((A.2.1 (ix x1)).2.1, (A.2.1 (ix x1)).2.2)) (fun j => valP (A.1 (ix x2)).1 ((A.1 (ix x2)).2.2 (ix x4 + j))) (fun j => valP (A.1 (ix x3)).1 ((A.1 (ix x3)).2.2 (ix x4 + j))) (pairIt (A.1 (ix x2)) (A.1 (ix x3)) (ix x4)) (by omega) l2 l3 hb1 rfl (fun j hj => by
          have := rowR_ok (hR16.1 _ l2) g2 (okr g2 (ix x4 + j) (by omega)) (by omega)
          rwa [← Nat.add_assoc] at this) (fun j hj => by
          have := rowR_ok (hR16.1 _ l3) g3 (oks g3 (ix x4 + j) (by omega)) (by omega)
          rwa [← Nat.add_assoc] at this) (fun j hj => rfl) (fun σ' gk v => by
          have hR' := hR16.kp gk.frk (v.kp (kd := (A.2.1 (ix x1)).1) (by rw [gk.1.i (c := 6) (by decide)]; exact hK16.1))
          have e9 : gI σ' 0 9 = A.2.2.2 := hR'.2.2.2
          rw [e9]
          exact h _ hR'.ga) x5.toInt.natAbs 0 σ16 (by omega) ⟨Fr.rfl, fun j _ => rfl, fun j _ => rfl⟩ sv
      exact ⟨_, loop⟩
    · have c5' : ¬ areN (A.1 (ix x3)) x4 x5.toInt.natAbs := fun z => c5 ⟨by rw [ea]; omega, by rw [ea]; exact z⟩
      rw [if_neg (fun z => c5' z.2)] at h; exact h σ hR
    · have c4' : ¬ areN (A.1 (ix x2)) x4 x5.toInt.natAbs := fun z => c4 ⟨by rw [ea]; omega, by rw [ea]; exact z⟩
      rw [if_neg (fun z => c4' z.1)] at h; exact h σ hR
  · rw [i2l_toInt, cm, cp] at q; rintro ⟨-, -, -, a⟩; exact q a
theorem merge_words {N M : Int} : ∃ z, N + M = sm (fun i => dgI N i + dgI M i) 152 + z * 2 ^ (32 * 152) := by
  have h1 := sm_dg N 152
  have h2 := sm_dg M 152
  rw [sm_add (dgI N) (dgI M)]
  refine ⟨N / 2 ^ (32 * 152) + M / 2 ^ (32 * 152), ?_⟩
  rw [Int.add_mul]
  generalize N / 2 ^ (32 * 152) * 2 ^ (32 * 152) = a at h1 ⊢
  generalize M / 2 ^ (32 * 152) * 2 ^ (32 * 152) = b at h2 ⊢
  generalize sm (dgI N) 152 = x at h1 ⊢
  generalize sm (dgI M) 152 = y at h2 ⊢
  omega
theorem s_mergeK {k k2 : Nat} {K M : KpA} {Q : Int32 → St → Prop} {σ : St} (hk : k < 6) (hk2 : k2 < 6) (hK : KpR (gI σ 6) (gI σ 7) (gI σ 8) k K) (hM : KpR (gI σ 6) (gI σ 7) (gI σ 8) k2 M)
    (cK : ∀ w, w < 3 → 0 ≤ (K.2.2 w).toInt ∧ (K.2.2 w).toInt ≤ 1000000000) (cM : ∀ w, w < 3 → 0 ≤ (M.2.2 w).toInt ∧ (M.2.2 w).toInt ≤ 1000000000)
    (h : ∀ σ', FrK k σ σ' → KpR (gI σ' 6) (gI σ' 7) (gI σ' 8) k (mergK K M) → Q 0 σ') : ∃ fu, w_X5_merge_89 Q fu (nI k) (nI k2) 0 0 σ := by
  have fin2 : ∀ S : Nat → Int32, (∀ i, i < 152 → (S (152 * k + i)).toInt % 4294967296 = dgI (K.2.1 + M.2.1) i) → (∀ j, (j < 152 * k ∨ 152 * k + 152 ≤ j) → S j = gI σ 7 j) →
      ∀ (d i : Nat) (E : Nat → Int32), i + d = 3 → (∀ w, w < i → E (3 * k + w) = cap (K.2.2 w + M.2.2 w)) → (∀ j, (j < 3 * k ∨ 3 * k + i ≤ j) → E j = gI σ 8 j) → w_X5_merge_138 Q (d + 1) (nI k) (nI k2) (nI i) (wI (wI σ 7 S) 8 E) := by
    intro S s1 s2 d
    induction d with
    | zero =>
      intro i E hi a b
      have : i = 3 := by omega
      subst this
      rw [w_X5_merge_138]
      refine ⟨fun _ => h _ ⟨(fr_w (by decide)).tr (fr_w (by decide)), fun j _ => by rw [gI_wI_ne (by decide), gI_wI_ne (by decide)], fun j hj => ?_, fun j hj => ?_⟩ ⟨?_, fun i hi => ?_, fun w hw => ?_⟩, fun q => absurd (by decide) q⟩
      · rw [gI_wI_ne (by decide), gI_wI_eq]; exact s2 j hj
      · rw [gI_wI_eq]; exact b j hj
      · rw [gI_wI_ne (by decide), gI_wI_ne (by decide)]; exact hK.1
      · rw [gI_wI_ne (by decide), gI_wI_eq]; exact s1 i hi
      · rw [gI_wI_eq]; exact a w hw
    | succ d ih =>
      intro i E hi a b
      rw [w_X5_merge_138]
      refine ⟨fun q => ?_, fun _ => ?_⟩
      · have := (nI_leI (a := 3) (b := i) (by decide) (by omega)).mp q
        omega
      · rw [m3, ix_nI (by omega), gI_wI_eq]
        have eM : E (3 * k2 + i) = M.2.2 i := by
          by_cases c : k2 = k
          · subst c
            rw [b _ (by omega)]; exact hM.2.2 i (by omega)
          · rw [b _ (by omega)]; exact hM.2.2 i (by omega)
        have eK : gI (wI (wI σ 7 S) 8 E) 8 (3 * k + i) = K.2.2 i := by
          rw [gI_wI_eq, b _ (by omega)]; exact hK.2.2 i (by omega)
        have a1 := cK i (by omega)
        have a2 := cM i (by omega)
        rw [eM]
        refine ⟨in_nI (by omega) (by decide), s_see (by omega) (by omega) (by rw [eK]; exact a1.1) (by rw [eK]; exact a1.2) a2.1 a2.2 ?_⟩
        rintro y13 rfl
        rw [nI_1, eK, gI_wI_eq, wI_wI]
        refine ih (i + 1) _ (by omega) (fun w hw => ?_) (fun j hj => ?_)
        · by_cases c : w = i
          · rw [c, upd_eq]
          · rw [upd_ne (by omega)]; exact a w (by omega)
        · rw [upd_ne (by omega)]; exact b j (by omega)
  have loop : ∀ (d i : Nat) (S : Nat → Int32) (o : Nat), i + d = 152 → (∀ j, i ≤ j → j < 152 → (S (152 * k + j)).toInt % 4294967296 = dgI K.2.1 j) → (∀ j, j < i → (S (152 * k + j)).toInt % 4294967296 = dgI (sm (fun i => dgI K.2.1 i + dgI M.2.1 i) 152) j) → (∀ j, (j < 152 * k ∨ 152 * k + i ≤ j) → S j = gI σ 7 j) →
      (o : Int) = sm (fun i => dgI K.2.1 i + dgI M.2.1 i) i / 2 ^ (32 * i) → o ≤ 1 → w_X5_merge_89 Q (d + 1) (nI k) (nI k2) (lN o) (nI i) (wI σ 7 S) := by
    intro d
    induction d with
    | zero =>
      intro i S o hi hge hlt hout ho ho1
      have : i = 152 := by omega
      subst this
      rw [w_X5_merge_89]
      refine ⟨fun _ => ?_, fun q => absurd (by decide) q⟩
      obtain ⟨z, hz⟩ := merge_words (N := K.2.1) (M := M.2.1)
      have key := fin2 S (fun j hj => by rw [hlt j hj, dg_mod hz hj]) hout 3 0 (gI σ 8) rfl (fun w hw => absurd hw (by omega)) (fun j _ => rfl)
      have e : wI (wI σ 7 S) 8 (gI σ 8) = wI σ 7 S := by
        have := wI_self (wI σ 7 S) 8
        rw [gI_wI_ne (by decide)] at this
        exact this
      rw [e] at key
      exact ⟨4, key⟩
    | succ d ih =>
      intro i S o hi hge hlt hout ho ho1
      rw [w_X5_merge_89]
      refine ⟨fun q => ?_, fun _ => ?_⟩
      · have := (nI_leI (a := 152) (b := i) (by decide) (by omega)).mp q
        omega
      · rw [m152, m152, ix_nI (by omega), gI_wI_eq]
        have eM : (S (152 * k2 + i)).toInt % 4294967296 = dgI M.2.1 i := by
          by_cases c : k2 = k
          · subst c
            rw [hout _ (by omega)]; exact hM.2.1 i (by omega)
          · rw [hout _ (by omega)]; exact hM.2.1 i (by omega)
        obtain ⟨m, hm, e1, e2⟩ := low_nat (S (152 * k2 + i))
        rw [e1]
        refine ⟨in_nI (by omega) (by decide), s_carryR (by omega) hm (by omega) (fun w o2 hw ho2 => ?_)⟩
        rintro y18 rfl
        rw [nI_1, gI_wI_eq, wI_wI]
        rw [gI_wI_eq, hge i (Nat.le_refl _) (by omega), ← e2, eM] at hw ho2
        have hov := sm_over (fun i => dgI K.2.1 i + dgI M.2.1 i) 0 i
        rw [Int.zero_add, Int.zero_add] at hov
        have hsy := sm_stay (fun i => dgI K.2.1 i + dgI M.2.1 i) 0 i
        rw [Int.zero_add, Int.zero_add] at hsy
        have hdg := sm_dig (fun i => dgI K.2.1 i + dgI M.2.1 i) 0 (show i < 152 by omega)
        rw [Int.zero_add, Int.zero_add] at hdg
        rw [← ho] at hov hsy
        have r1 := dg_rng K.2.1 i
        have r2 := dg_rng M.2.1 i
        refine ih (i + 1) _ o2 (by omega) (fun j hj hj2 => ?_) (fun j hj => ?_) (fun j hj => ?_) ?_ ?_
        · rw [upd_ne (by omega)]; exact hge j (by omega) hj2
        · by_cases hji : j = i
          · subst hji
            rw [upd_eq, hw, hdg, hsy]
          · rw [upd_ne (by omega)]; exact hlt j (by omega)
        · rw [upd_ne (by omega)]; exact hout j (by omega)
        · rw [ho2, hov]
        · omega
  have key := loop 152 0 (gI σ 7) 0 rfl (fun j _ hj => hK.2.1 j hj) (fun j hj => absurd hj (by omega)) (fun j _ => rfl) (by simp [sm]) (by decide)
  rw [wI_self] at key
  exact ⟨153, key⟩
theorem s_mergeR {A : AS} {N : Nat} {x1 x2 : Int32} {Q : Int32 → St → Prop} {σ : St} (hR : RR A σ) (ho : OK N A) (h : ∀ σ', RR (t_merge A x1 x2).2 σ' → Q (t_merge A x1 x2).1 σ') : w_X5_merge Q x1 x2 σ := by
  unfold w_X5_merge
  unfold t_merge at h
  rintro σ1 rfl
  have hR := hR.thr
  generalize uI σ 0 0 0 = σ at hR ⊢
  refine s_isKeeperR (fun c1 => ⟨fun z => absurd z n10, fun _ => s_isKeeperR (fun c2 => ⟨fun _ => ?_, fun z => absurd z n10⟩) (fun c2 => ⟨fun z => absurd rfl z, fun _ => by rw [if_neg (fun z => c2 z.2)] at h; exact h σ hR⟩)⟩) (fun c1 => ⟨fun _ => by rw [if_neg (fun z => c1 z.1)] at h; exact h σ hR, fun z => absurd rfl z⟩)
  rw [if_pos ⟨c1, c2⟩] at h
  obtain ⟨e1, l1⟩ := isK_nI c1
  obtain ⟨e2, l2⟩ := isK_nI c2
  have hK := hR.2.1 _ l1
  have hM := hR.2.1 _ l2
  have hin1 : vp_in x1 7 := by rw [e1]; exact in_nI (by omega) (by decide)
  have hin2 : vp_in x2 7 := by rw [e2]; exact in_nI (by omega) (by decide)
  rw [hK.gone, hM.gone]
  refine ⟨hin1, fun g => by rw [if_pos (Or.inl g)] at h; exact h σ hR, fun g => ⟨hin2, fun g2 => ⟨hin1, ?_⟩, fun g2 => by rw [if_pos (Or.inr g2)] at h; exact h σ hR⟩⟩
  rw [if_neg (by rintro (z | z); exact g z; exact g2 z)] at h
  have k1 : gI σ 6 (ix x1) = 0 ↔ (A.2.1 (ix x1)).1 = 0 := hK.is (n := 0) (by decide)
  have k2 : gI σ 6 (ix x2) = 0 ↔ (A.2.1 (ix x2)).1 = 0 := hM.is (n := 0) (by decide)
  have yes : ((A.2.1 (ix x1)).1 = 0 ↔ (A.2.1 (ix x2)).1 = 0) → w_X5_keep (fun σ10 => ∃ fu19 : Nat, w_X5_merge_89 Q fu19 x1 x2 0 0 σ10) x1 σ := by
    intro y
    rw [if_pos y] at h
    rw [e1, e2]
    refine s_keepR l1 hR (fun σ7 hR7 => ?_)
    exact s_mergeK l1 l2 (hR7.2.1 _ l1) (hR7.2.1 _ l2) (ho.2.1 _ l1).2.2.2.2 (ho.2.1 _ l2).2.2.2.2 (fun σ8 f8 hK8 => h σ8 (hR7.kp f8 hK8))
  have no : ¬ ((A.2.1 (ix x1)).1 = 0 ↔ (A.2.1 (ix x2)).1 = 0) → Q (-12) σ := by
    intro y
    rw [if_neg y] at h; exact h σ hR
  rw [k1]
  refine ⟨fun q => ?_, fun q => ?_⟩ <;> unfold w_X5_merge_59 <;> rw [k2] <;> refine ⟨hin2, fun q2 => ?_, fun q2 => ?_⟩ <;> unfold w_X5_merge_73
  · exact ⟨fun _ => yes ⟨fun z => absurd z q, fun z => absurd z q2⟩, fun z => absurd rfl z⟩
  · exact ⟨fun z => absurd z (by decide), fun _ => no (fun z => q (z.mpr q2))⟩
  · exact ⟨fun z => absurd z (by decide), fun _ => no (fun z => q2 (z.mp q))⟩
  · exact ⟨fun _ => yes ⟨fun _ => q2, fun _ => q⟩, fun z => absurd rfl z⟩
theorem dbl_inf {kd : Int} {v : Pl} (ho : okP kd v) : (dblP kd v = dInf ↔ srtP kd v = 1) ∧ (dblP kd v = dMinf ↔ srtP kd v = 2) := by
  have hU : ∀ (b : Bool) (n : Nat), Rn n → U b n ≠ dInf ∧ U b n ≠ dMinf := by
    intro b n hn
    have h1 := u_dk_inf (s := b) hn
    constructor
    · intro e
      rw [e, dk_inf] at h1; omega
    · intro e
      rw [e, dk_minf] at h1; omega
  unfold okP at ho
  unfold dblP srtP
  by_cases c : kd < 4
  · rw [if_pos c] at ho
    rw [if_pos c, if_pos c, u_l2d]
    have := hU (decide (v.1.toInt < 0)) _ (rn_of ho (show 1074 ≤ 2045 by decide))
    exact ⟨⟨fun z => absurd z this.1, fun z => absurd z (by decide)⟩, ⟨fun z => absurd z this.2, fun z => absurd z (by decide)⟩⟩
  · rw [if_neg c] at ho
    rw [if_neg c, if_neg c]
    rcases ho with ⟨z, b, n, hn, e⟩ | ⟨z, e⟩ | ⟨z, e⟩ | ⟨z, e⟩ <;> rw [z, e]
    · have := hU b n hn
      exact ⟨⟨fun y => absurd y this.1, fun y => absurd y (by decide)⟩, ⟨fun y => absurd y this.2, fun y => absurd y (by decide)⟩⟩
    · exact ⟨⟨fun _ => rfl, fun _ => rfl⟩, ⟨fun y => absurd y inf_ne, fun y => absurd y (by decide)⟩⟩
    · exact ⟨⟨fun y => absurd y.symm inf_ne, fun y => absurd y (by decide)⟩, ⟨fun _ => rfl, fun _ => rfl⟩⟩
    · have := hU false 0 rn_zero
      exact ⟨⟨fun y => absurd y this.1, fun y => absurd y (by decide)⟩, ⟨fun y => absurd y this.2, fun y => absurd y (by decide)⟩⟩
theorem eq_inf {x : UInt64} {op : CmpOp} (h : nn x) : dcmpF x (9218868437227405312 : UInt64) op = 0 ↔ x = dInf := by
  rw [dc_eq h nn_inf, dk_inf, dk_is_inf h]
theorem eq_minf {x : UInt64} {op : CmpOp} (h : nn x) : dcmpF x (18442240474082181120 : UInt64) op = 0 ↔ x = dMinf := by
  rw [dc_eq h nn_minf, dk_minf, dk_is_minf h]
theorem s_plainOf {r pl n : Nat} {R : RwA} {Q : UInt64 → St → Prop} {σ : St} (hr : r < 12) (hpn : pl + n ≤ 40) (hR : RowR σ r R) (g : R.1 ≠ -1) (ho : okRow R) (h : nn (plainD R pl n) → Q (plainD R pl n) σ) : w_X5_plainOf Q (nI r) (nI pl) (nI n) σ := by
  unfold w_X5_plainOf
  have loop : ∀ (d i : Nat) (s : UInt64), i + d = n → nn s → (nn (plL R.1 R.2.2 d (pl + i) s) → Q (plL R.1 R.2.2 d (pl + i) s) σ) → w_X5_plainOf_6 Q (d + 1) (nI r) (nI pl) (nI n) s (nI i) σ := by
    intro d
    induction d with
    | zero =>
      intro i s hi hs hq
      have : i = n := by omega
      subst this
      rw [w_X5_plainOf_6]
      exact ⟨fun _ => hq hs, fun q => absurd (Int32.le_refl _) q⟩
    | succ d ih =>
      intro i s hi hs hq
      have hp : pl + i < 40 := by omega
      have ok := ho g (pl + i) hp
      have hd := nn_dblP _ _ ok
      have hinf := dbl_inf ok
      rw [w_X5_plainOf_6, m40]
      refine ⟨fun q => ?_, fun _ => ?_⟩
      · have := (nI_leI (a := n) (b := i) (by omega) (by omega)).mp q
        omega
      · rintro y1 rfl
        have okr := rowR_ok hR g ok hp
        rw [← Nat.add_assoc] at okr
        have hl := okr.lt
        have es : (valP R.1 (R.2.2 (pl + i))).1 = srtP R.1 (R.2.2 (pl + i)) := by
          unfold valP srtP
          split <;> rfl
        have hq0 : (srtP R.1 (R.2.2 (pl + i)) = 3 ∨ (s = dInf ∧ dblP R.1 (R.2.2 (pl + i)) = dMinf) ∨ (s = dMinf ∧ dblP R.1 (R.2.2 (pl + i)) = dInf)) → Q FP.dconst0 σ := by
          intro z
          have e : plL R.1 R.2.2 (d + 1) (pl + i) s = U false 0 := if_pos z
          rw [e] at hq
          rw [u_zero]; exact hq (nn_U _ _)
        refine s_sortOfR hr (by omega) okr ?_
        rw [es] at hl ⊢
        have dd : ∀ {y : Nat}, y < 4 → (nI (srtP R.1 (R.2.2 (pl + i))) = nI y ↔ srtP R.1 (R.2.2 (pl + i)) = y) := fun hy => nI_eq (by omega) (by omega)
        have d1 : nI (srtP R.1 (R.2.2 (pl + i))) = 1 ↔ srtP R.1 (R.2.2 (pl + i)) = 1 := dd (y := 1) (by decide)
        have d2 : nI (srtP R.1 (R.2.2 (pl + i))) = 2 ↔ srtP R.1 (R.2.2 (pl + i)) = 2 := dd (y := 2) (by decide)
        have d3 : nI (srtP R.1 (R.2.2 (pl + i))) = 3 ↔ srtP R.1 (R.2.2 (pl + i)) = 3 := dd (y := 3) (by decide)
        have g66 : ¬ ((s = dInf ∧ dblP R.1 (R.2.2 (pl + i)) = dMinf) ∨ (s = dMinf ∧ dblP R.1 (R.2.2 (pl + i)) = dInf)) → w_X5_plainOf_66 (fun x1 x2 x3 x4 x6 σ => w_X5_plainOf_6 Q (d + 1) x1 x2 x3 x4 x6 σ) Q (nI r) (nI pl) (nI n) s (nI i) (nI (40 * r + pl + i)) (nI (srtP R.1 (R.2.2 (pl + i)))) σ := by
          intro z
          unfold w_X5_plainOf_66 w_X5_plainOf_67
          rw [d3]
          refine ⟨fun y => hq0 (Or.inl y), fun y => ⟨fun _ => ?_, fun w => absurd rfl w⟩⟩
          rw [Nat.add_assoc]
          refine s_valueOf hr hp hR g ok ?_
          have hn := nn_add hs hd (fun w => z (Or.inl w)) (fun w => z (Or.inr w))
          refine ⟨nn_vf hn, ?_⟩
          rintro y6 rfl y7 rfl
          rw [nI_1]
          have e : plL R.1 R.2.2 (d + 1) (pl + i) s = plL R.1 R.2.2 d (pl + i + 1) (FP.dadd s (dblP R.1 (R.2.2 (pl + i)))) := if_neg (by rintro (w | w); exact y w; exact z w)
          rw [e] at hq
          exact ih (i + 1) _ (by omega) hn hq
        have g62 : ((s = dInf ∧ dblP R.1 (R.2.2 (pl + i)) = dMinf) ∨ (s = dMinf ∧ dblP R.1 (R.2.2 (pl + i)) = dInf)) → w_X5_plainOf_62 (fun x1 x2 x3 x4 x6 σ => w_X5_plainOf_6 Q (d + 1) x1 x2 x3 x4 x6 σ) Q (nI r) (nI pl) (nI n) s (nI i) (nI (40 * r + pl + i)) (nI (srtP R.1 (R.2.2 (pl + i)))) σ := by
          intro z
          unfold w_X5_plainOf_62 w_X5_plainOf_67
          exact ⟨fun _ => hq0 (Or.inr z), fun y => ⟨fun w => absurd w (by decide), fun _ => hq0 (Or.inr z)⟩⟩
        have g47 : ¬ (s = dMinf ∧ dblP R.1 (R.2.2 (pl + i)) = dInf) → w_X5_plainOf_47 (fun x1 x2 x3 x4 x6 σ => w_X5_plainOf_6 Q (d + 1) x1 x2 x3 x4 x6 σ) Q (nI r) (nI pl) (nI n) s (nI i) (nI (40 * r + pl + i)) (nI (srtP R.1 (R.2.2 (pl + i)))) σ := by
          intro z
          unfold w_X5_plainOf_47
          rw [d2, eq_inf hs]
          refine ⟨fun y => g66 ?_, fun y => ⟨fun w => g66 ?_, fun w => g62 (Or.inl ⟨w, hinf.2.mpr y⟩)⟩⟩
          · rintro (w | w)
            · exact y (hinf.2.mp w.2)
            · exact z w
          · rintro (x | x)
            · exact w x.1
            · exact z x
        show _ ∧ _
        rw [d1, eq_minf hs]
        refine ⟨fun y => g47 (fun w => y (hinf.1.mp w.2)), fun y => ⟨fun w => g62 (Or.inr ⟨w, hinf.1.mpr y⟩), fun w => g47 (fun x => w x.1)⟩⟩
  rw [u_zero]
  exact ⟨n + 1, loop n 0 _ (by omega) (nn_U _ _) h⟩
theorem s_plainR {A : AS} {N : Nat} {x1 x2 x3 : Int32} {Q : UInt64 → St → Prop} {σ : St} (hR : RR A σ) (ho : OK N A) (h : ∀ σ', RR A σ' → Q (t_plain A x1 x2 x3) σ') : w_X5_plain Q x1 x2 x3 σ := by
  unfold w_X5_plain
  unfold t_plain at h
  rintro σ1 rfl
  have hR := hR.thr
  generalize uI σ 0 0 0 = σ at hR ⊢
  have h := h σ hR
  have bad : ¬ (isR x1 ∧ (0 ≤ x3.toInt ∧ x3.toInt ≤ 40) ∧ (A.1 (ix x1)).1 ≠ -1 ∧ areN (A.1 (ix x1)) x2 (ix x3)) → Q FP.dconst0 σ := by
    intro c
    rw [if_neg c] at h
    rw [u_zero]; exact h
  have c0 : (0 : Int64).toInt = 0 := by decide
  have cp : (40 : Int64).toInt = 40 := by decide
  refine s_isRowR (fun c1 => ⟨fun z => absurd z n10, fun _ => s_in (fun q => ⟨fun z => absurd z n10, fun _ => ?_⟩) (fun q => ⟨fun _ => bad ?_, fun z => absurd rfl z⟩)⟩) (fun c1 => ⟨fun _ => bad (fun z => c1 z.1), fun z => absurd rfl z⟩)
  · rw [i2l_toInt, c0, cp] at q
    obtain ⟨e1, l1⟩ := isR_nI c1
    have hr := hR.1 _ l1
    rw [e1]
    refine s_isThereR l1 hr (fun g => ⟨fun z => absurd z n10, fun _ => ?_⟩) (fun g => ⟨fun _ => bad (fun z => z.2.2.1 g), fun z => absurd rfl z⟩)
    obtain ⟨r1, r2, r3, r4, r5⟩ := hr.2 g
    have i3 : (ix x3 : Int) = x3.toInt := by rw [ix_toInt]; omega
    refine s_arePlacesR l1 r3 r4 (fun c3 => ⟨fun _ => ?_, fun z => absurd z n10⟩) (fun c3 => ⟨fun z => absurd rfl z, fun _ => bad (fun z => c3 ⟨by omega, z.2.2.2.1, by rw [← i3]; exact z.2.2.2.2⟩)⟩)
    have c3' : areN (A.1 (ix x1)) x2 (ix x3) := ⟨c3.2.1, by rw [i3]; exact c3.2.2⟩
    rw [if_pos ⟨c1, q, g, c3'⟩] at h
    have i2 : (ix x2 : Int) = x2.toInt := by rw [ix_toInt]; have := c3'.1; omega
    have hb : ix x2 + ix x3 ≤ 40 := by have := c3'.2; omega
    have e2 : x2 = nI (ix x2) := i_of (by omega) (by omega)
    have e3 : x3 = nI (ix x3) := i_of (by omega) (by omega)
    rw [e2, e3]
    exact s_plainOf l1 hb hr g (ho.1 _ l1) (fun _ => h)
  · rw [i2l_toInt, c0, cp] at q; rintro ⟨-, a, -⟩; exact q a
theorem zeroSV {σ : St} {k : Nat} {kd : Int} (h : KpR (gI σ 6) (gI σ 7) (gI σ 8) k (zeroK kd)) : SV σ k (0, fun _ => 0) := ⟨h.2.1, fun w hw => ⟨h.2.2 w hw, show (0 : Int) ≤ (0 : Int32).toInt by decide, show (0 : Int32).toInt ≤ 1000000000 by decide⟩⟩
theorem s_errorR {A : AS} {N : Nat} {x1 x2 x3 x4 : Int32} {Q : Int32 → St → Prop} {σ : St} (hR : RR A σ) (ho : OK N A) (h : ∀ σ', RR (t_error A x1 x2 x3 x4).2 σ' → Q (t_error A x1 x2 x3 x4).1 σ') : w_X5_error Q x1 x2 x3 x4 σ := by
  unfold w_X5_error
  unfold t_error at h
  rintro σ1 rfl
  have hR := hR.thr
  generalize uI σ 0 0 0 = σ at hR ⊢
  have bad : ¬ (isK x1 ∧ isR x2 ∧ (0 ≤ x4.toInt ∧ x4.toInt ≤ 40)) → Q (-3) σ := by
    intro c
    rw [if_neg c] at h
    exact h σ hR
  have c0 : (0 : Int64).toInt = 0 := by decide
  have cp : (40 : Int64).toInt = 40 := by decide
  refine s_isKeeperR (fun c1 => ⟨fun z => absurd z n10, fun _ => s_isRowR (fun c2 => ⟨fun z => absurd z n10, fun _ => s_in (fun q => ⟨fun _ => ?_, fun z => absurd z n10⟩) (fun q => ⟨fun z => absurd rfl z, fun _ => bad ?_⟩)⟩) (fun c2 => ⟨fun _ => bad (fun z => c2 z.2.1), fun z => absurd rfl z⟩)⟩) (fun c1 => ⟨fun _ => bad (fun z => c1 z.1), fun z => absurd rfl z⟩)
  · rw [i2l_toInt, c0, cp] at q
    rw [if_pos ⟨c1, c2, q⟩] at h
    obtain ⟨e1, l1⟩ := isK_nI c1
    obtain ⟨e2, l2⟩ := isR_nI c2
    have hK := hR.2.1 _ l1
    have hr := hR.1 _ l2
    have hin : vp_in x1 7 := by rw [e1]; exact in_nI (by omega) (by decide)
    rw [hK.gone]
    refine ⟨hin, fun g => by rw [if_pos (Or.inl g)] at h; exact h σ hR, fun g => ?_⟩
    rw [e2]
    refine s_isThereR l2 hr (fun g2 => ⟨fun _ => ?_, fun z => absurd z n10⟩) (fun g2 => ⟨fun z => absurd rfl z, fun _ => by rw [if_pos (Or.inr g2)] at h; exact h σ hR⟩)
    rw [if_neg (by rintro (z | z); exact g z; exact g2 z)] at h
    have k0 : gI σ 6 (ix x1) = 0 ↔ (A.2.1 (ix x1)).1 = 0 := hK.is (n := 0) (by decide)
    rw [k0]
    refine ⟨hin, fun q3 => ?_, fun q3 => by rw [if_neg q3] at h; exact h σ hR⟩
    rw [if_pos q3] at h
    obtain ⟨r1, r2, r3, r4, r5⟩ := hr.2 g2
    have i4 : (ix x4 : Int) = x4.toInt := by rw [ix_toInt]; omega
    refine s_arePlacesR l2 r3 r4 (fun c3 => ⟨fun _ => ?_, fun z => absurd z n10⟩) (fun c3 => ⟨fun z => absurd rfl z, fun _ => ?_⟩)
    · have c3' : areN (A.1 (ix x2)) x3 (ix x4) := ⟨c3.2.1, by rw [i4]; exact c3.2.2⟩
      rw [if_pos c3'] at h
      have i3 : (ix x3 : Int) = x3.toInt := by rw [ix_toInt]; have := c3'.1; omega
      have hpn : ix x3 + ix x4 ≤ 40 := by have := c3'.2; omega
      have e3 : x3 = nI (ix x3) := i_of (by omega) (by omega)
      have e4 : x4 = nI (ix x4) := i_of (by omega) (by omega)
      generalize hn : ix x4 = n at *
      generalize hpl : ix x3 = pl at *
      subst e3 e4
      rw [e1]
      have okr := ho.1 _ l2
      refine s_keepR l1 hR (fun σ14 hR14 => s_blankR l1 hR14 (fun σ15 hR15 => ?_))
      have hkd : ((pushH A (ix x1)).2.1 (ix x1)).1 = 0 := q3
      rw [hkd] at hR15
      have hK15 := hR15.2.1 _ l1
      rw [show (setK (pushH A (ix x1)) (ix x1) (zeroK 0)).2.1 (ix x1) = zeroK 0 from if_pos rfl] at hK15
      have loop := error_loop (Q := Q) (σ0 := σ15) (kp := ix x1) (r := ix x2) (pl := pl) (n := n) (s0 := (0, fun _ => 0)) (fun j => valP (A.1 (ix x2)).1 ((A.1 (ix x2)).2.2 (pl + j))) (addIt 0 (A.1 (ix x2)) pl) (by omega) l2 hpn (fun j hj => by
          have := rowR_ok (hR15.1 _ l2) g2 (okr g2 (pl + j) (by omega)) (by omega)
          rwa [← Nat.add_assoc] at this) (fun j hj => by unfold addIt; rw [if_neg (by decide)]) (fun σ' gk v => by
          rw [w_X5_error_95]
          refine ⟨fun _ => ?_, fun q => absurd (Int32.le_refl _) q⟩
          have hR' := hR15.kp gk.frk (v.kp (kd := 0) (by rw [gk.1.i (c := 6) (by decide)]; exact hK15.1))
          refine s_plainOf l2 hpn (hR'.1 _ l2) g2 okr (fun hnn => ?_)
          have hpd : plainD ((setK (setK (pushH A (ix x1)) (ix x1) (zeroK 0)) (ix x1) (0, (itr false (addIt 0 (A.1 (ix x2)) pl) n (0, fun _ => 0)).1, (itr false (addIt 0 (A.1 (ix x2)) pl) n (0, fun _ => 0)).2)).1 (ix x2)) pl n = plainD (A.1 (ix x2)) pl n := rfl
          rw [hpd] at hnn ⊢
          have fin : ∀ σ2, Gk (ix x1) σ' σ2 → SV σ2 (ix x1) (stp true (prS (valD (plainD (A.1 (ix x2)) pl n)) (0, 2 ^ 1074)) (itr false (addIt 0 (A.1 (ix x2)) pl) n (0, fun _ => 0))) → w_X5_error_205 Q (nI n) σ2 := by
            intro σ2 g2' v2
            unfold w_X5_error_205
            rintro σ19 rfl
            have hR2 := hR'.kp g2'.frk (v2.kp (kd := 0) (by rw [g2'.1.i (c := 6) (by decide), gk.1.i (c := 6) (by decide)]; exact hK15.1))
            rw [setK_twice, setK_twice] at hR2
            have e9 : gI σ2 0 9 = A.2.2.2 := hR2.2.2.2
            rw [e9]
            exact h _ hR2.ga
          have np : ¬ ((2 : Int) ^ 1074 = 0) := Int.ne_of_gt (p2 1074)
          have isb1 : isB ((0 : Nat), (2 : Int) ^ 1074) = false := decide_eq_false (by
            rintro (y | ⟨-, y⟩)
            · exact absurd y (show ¬ (0 : Nat) = 2 by decide)
            · exact absurd y (Int.not_lt.mpr (Int.le_of_lt (p2 1074))))
          have pinf : ∀ m : Nat, m = 1 ∨ m = 2 → prS (m, 0) (0, 2 ^ 1074) = (m, 0) := by
            intro m hm
            unfold prS
            rw [if_neg (by rintro (y | y); omega; exact absurd y (show ¬ (0 : Nat) = 3 by decide)), if_neg (by rintro ⟨y, -⟩; omega), if_neg (by rintro (⟨y, -⟩ | ⟨-, y⟩); omega; exact np y), isb1]
            rcases hm with rfl | rfl
            · rw [show isB ((1 : Nat), (0 : Int)) = false from rfl, if_pos rfl]
            · rw [show isB ((2 : Nat), (0 : Int)) = true from rfl, if_neg (by decide)]
          have st : ∀ (m : Nat) (s : Int × (Nat → Int32)), m = 1 ∨ m = 2 → stp true (m, 0) s = (s.1, mt s.2 (widx m true)) := fun m s hm => if_neg (by rcases hm with rfl | rfl <;> decide)
          have hz : dcmpF (plainD (A.1 (ix x2)) pl n) FP.dconst0 .g = dcmpF (plainD (A.1 (ix x2)) pl n) (U false 0) .g := by rw [u_zero]
          have hge : 0 ≤ dcmpF (plainD (A.1 (ix x2)) pl n) FP.dconst0 .g ↔ 0 ≤ dk (plainD (A.1 (ix x2)) pl n) := by
            rw [hz, dc_ge hnn (nn_U _ _), dk_U rn_zero]; rfl
          have hT := TOP_pos
          generalize plainD (A.1 (ix x2)) pl n = pd at hnn fin hge ⊢
          show _ ∧ _
          rw [eq_inf hnn, eq_minf hnn]
          refine ⟨fun ei => ?_, fun ni => ⟨fun nm => ?_, fun em => ?_⟩⟩
          · have ev : valD pd = (1, 0) := if_pos ei
            rw [ev, pinf 1 (Or.inl rfl), st 1 _ (Or.inl rfl)] at fin
            unfold w_X5_error_152 w_X5_error_166
            rw [hge, ei, dk_inf]
            refine ⟨fun _ => ?_, fun z => absurd (Int.le_of_lt hT) z⟩
            unfold w_X5_endless w_X5_endless_12
            exact ⟨fun z => absurd z (by decide), fun _ => s_seeV (w := 2) (by omega) (by decide) v fin⟩
          · have ev : valD pd = (0, dk pd) := by unfold valD; rw [if_neg ni, if_neg nm]
            have ep : prS (0, dk pd) (0, 2 ^ 1074) = (0, dk pd * 2 ^ 1074) := by
              unfold prS
              rw [if_neg (by rintro (y | y) <;> exact absurd y (show ¬ (0 : Nat) = 3 by decide)), if_pos ⟨rfl, rfl⟩]
            rw [ev, ep] at fin
            rcases nn_cases hnn with ⟨s, m, hm, e⟩ | e | e
            · rw [e, dk_U hm] at fin
              rw [e]
              refine s_apart_ hm (fun σ3 hA => ?_)
              have h18 : bz (gI σ3 0 18) := by
                obtain ⟨-, sz, -, -, -, -, -, h6⟩ := hA
                rw [h6]
                split
                · exact Or.inr rfl
                · exact Or.inl rfl
              have g202 : ∀ s0 : Int32, (s0 = 0 ↔ gI σ3 0 18 = 1) → w_X5_error_202 Q (nI n) s0 (gI σ3 0 17) (gJ σ3 0 16) 0 (nI (ix x1)) σ3 := by
                intro s0 hs0
                unfold w_X5_error_202
                refine s_oneBits (tk := 1) (by omega) hA (Or.inr rfl) (v.of hA.1) hs0 (fun σ4 g4 v4 => fin σ4 ((Gk.of hA.1).tr g4) ?_)
                unfold stp
                rw [if_pos rfl]
                exact v4
              refine ⟨fun z => g202 0 ⟨fun _ => ?_, fun _ => rfl⟩, fun z => g202 1 ⟨fun y => absurd y n10, fun y => ?_⟩⟩
              · rcases h18 with y | y
                · exact absurd y z
                · exact y
              · rw [z] at y; exact absurd y.symm n10
            · exact absurd e ni
            · exact absurd e nm
          · have ev : valD pd = (2, 0) := by unfold valD; rw [if_neg ni, if_pos em]
            rw [ev, pinf 2 (Or.inr rfl), st 2 _ (Or.inr rfl)] at fin
            unfold w_X5_error_152 w_X5_error_166
            rw [hge, em, dk_minf]
            refine ⟨fun z => absurd z (by omega), fun _ => ?_⟩
            unfold w_X5_endless w_X5_endless_12
            exact ⟨fun _ => s_seeV (w := 1) (by omega) (by decide) v fin, fun z => absurd rfl z⟩) n 0 σ15 (by omega) ⟨Fr.rfl, fun j _ => rfl, fun j _ => rfl⟩ (zeroSV hK15)
      exact ⟨_, loop⟩
    · have c3' : ¬ areN (A.1 (ix x2)) x3 (ix x4) := fun z => c3 ⟨by omega, z.1, by rw [← i4]; exact z.2⟩
      rw [if_neg c3'] at h; exact h σ hR
  · rw [i2l_toInt, c0, cp] at q; rintro ⟨-, -, a⟩; exact q a
