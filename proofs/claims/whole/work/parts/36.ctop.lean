/-! the class's calls of keepers -/
theorem iabs {x : Int32} (h1 : -40 ≤ x.toInt) (h2 : x.toInt ≤ 40) : (if 0 ≤ x then x else 0 - x) = nI x.toInt.natAbs := by
  by_cases c : 0 ≤ x
  · rw [if_pos c]
    have := i_ge0.mp c
    exact i_of (by omega) (by omega)
  · rw [if_neg c]
    have : ¬ 0 ≤ x.toInt := fun z => c (i_ge0.mpr z)
    refine i_of ?_ (by omega)
    rw [i_sub (by rw [t0]; omega) (by rw [t0]; omega), t0]; omega
theorem row_pl {A : AS} {σ : St} {r : Nat} (hR : RC A σ) (hr : r < 12) (g : (A.1 r).1 ≠ -1) (ho : okRow (A.1 r)) {p : Nat} (hp : p < 40) : okPl (gI σ (rowC r + 3)) (gJ σ (rowC r + 1)) (gI σ (rowC r + 2)) p ∧ plA (gI σ (rowC r + 3)) (gJ σ (rowC r + 1)) (gI σ (rowC r + 2)) p = valP (A.1 r).1 ((A.1 r).2.2 p) :=
  plc_ok (((hR.1 r hr).2.2 g).2.2.2.2.2 p hp) (ho g p hp)
theorem s_gatherInto {A : AS} {k k2 k3 pl n N : Nat} {x5 : Int32} {Q : Int32 → St → Prop} {σ : St} (v1 v2 it : Nat → Nat × Int) (hk : k < 6) (hN : N ≤ 512) (hR : RC A σ) (ho : OK N A) (hx1 : -40 ≤ x5.toInt) (hx2 : x5.toInt ≤ 40) (hn : n = x5.toInt.natAbs) (hpn : pl + n ≤ 40)
    (d1 : k2 + 4 ≤ keepC k ∨ keepC k + 3 ≤ k2) (d2 : k3 + 4 ≤ keepC k ∨ keepC k + 3 ≤ k3)
    (a1 : ∀ σ', RC (pushH A k) σ' → ∀ p, p < 40 → okPl (gI σ' (k2 + 3)) (gJ σ' (k2 + 1)) (gI σ' (k2 + 2)) p ∧ plA (gI σ' (k2 + 3)) (gJ σ' (k2 + 1)) (gI σ' (k2 + 2)) p = v1 p)
    (a2 : ∀ σ', RC (pushH A k) σ' → ∀ p, p < 40 → okPl (gI σ' (k3 + 3)) (gJ σ' (k3 + 1)) (gI σ' (k3 + 2)) p ∧ plA (gI σ' (k3 + 3)) (gJ σ' (k3 + 1)) (gI σ' (k3 + 2)) p = v2 p)
    (hit : ∀ j, j < n → it j = prS (v1 (pl + j)) (v2 (pl + j)))
    (h : ∀ σ', RC (setG (setK (pushH A k) k (gathK (A.2.1 k) (decide (¬ 0 ≤ x5)) it n)) (A.2.2.2 + nI n)) σ' → Q (nI n) σ') : w_X4_gatherInto Q (nI k) k2 k3 (nI pl) x5 σ := by
  unfold w_X4_gatherInto
  rintro y1 rfl
  rw [iabs hx1 hx2, ← hn]
  refine s_remember hk hR (fun σ2 hR2 => ?_)
  have hK2 : KpC σ2 (keepC k) (A.2.1 k) := hR2.2.1 k hk
  have go : ∀ tk : Int32, bz tk → decide (¬ tk = 0) = decide (¬ 0 ≤ x5) → w_X4_gatherInto_34 Q (nI n) tk (nI n) (nI pl) k3 k2 (keepC (ix (nI k))) σ2 := by
    intro tk hb ht
    unfold w_X4_gatherInto_34
    rw [ix_nI (by omega)]
    refine s_gatherK it hpn hb ht d1 d2 hK2 ((ho.2.1 k hk).rng hN) (fun p _ hp => (a1 σ2 hR2 p (by omega)).1) (fun p _ hp => (a2 σ2 hR2 p (by omega)).1) (fun j hj => ?_) (fun σ4 f4 hK4 => ?_)
    · rw [(a1 σ2 hR2 (pl + j) (by omega)).2, (a2 σ2 hR2 (pl + j) (by omega)).2]; exact hit j hj
    · rintro σ5 rfl
      have hR4 := hR2.kp hk f4 hK4
      have e6 : gI σ4 0 6 = A.2.2.2 := hR4.2.2.2.1
      rw [e6]
      exact h _ hR4.ga
  refine ⟨in_nI hk (by decide), fun q => go 0 bz0 (tk_f q), fun q => go 1 bz1 (tk_t q)⟩
theorem KpC.is {σ : St} {c n : Nat} {K : KpA} (h : KpC σ c K) (g : K.1 ≠ -1) (hn : n < 100) : gI σ c 1 = nI n ↔ K.1 = n := l2_eq _ n (h.2.2.1 g) hn
theorem s_keeperC {A : AS} {x1 x2 : Int32} {Q : Int32 → St → Prop} {σ : St} (hR : RC A σ) (h : ∀ σ', RC (t_keeper A x1 x2).2 σ' → Q (t_keeper A x1 x2).1 σ') : w_X4_keeper Q x1 x2 σ := by
  unfold w_X4_keeper
  unfold t_keeper at h
  have bad : ¬ (isK x1 ∧ (0 ≤ x2.toInt ∧ x2.toInt ≤ 2)) → Q (-3) σ := by
    intro c
    rw [if_neg c] at h
    exact h σ hR
  refine s_isKeeperC (fun c1 => ⟨fun z => absurd z n10, fun _ => ⟨fun q => bad ?_, fun q => ⟨fun q2 => ?_, fun q2 => bad ?_⟩⟩⟩) (fun c1 => ⟨fun _ => bad (fun z => c1 z.1), fun z => absurd rfl z⟩)
  · rw [i_lt, t0] at q; rintro ⟨-, a, -⟩; omega
  · rw [i_lt, t0] at q; rw [i_le, k2] at q2
    rw [if_pos ⟨c1, by omega, q2⟩] at h
    obtain ⟨e1, l1⟩ := isK_nI c1
    rw [e1, ix_nI (by omega)]
    refine s_remember l1 hR (fun σ3 hR3 => ⟨in_nI l1 (by decide), s_renewK (by omega) (fun σ5 f5 hK5 => ?_)⟩)
    exact h σ5 (hR3.kp l1 f5 hK5)
  · rw [i_le, k2] at q2; rintro ⟨-, -, a⟩; exact q2 a
theorem s_clearC {A : AS} {x1 : Int32} {Q : Int32 → St → Prop} {σ : St} (hR : RC A σ) (h : ∀ σ', RC (t_clear A x1).2 σ' → Q (t_clear A x1).1 σ') : w_X4_clear Q x1 σ := by
  unfold w_X4_clear
  unfold t_clear at h
  refine s_isKeeperC (fun c1 => ⟨fun _ => ?_, fun z => absurd z n10⟩) (fun c1 => ⟨fun z => absurd rfl z, fun _ => ?_⟩)
  · rw [if_pos c1] at h
    obtain ⟨e1, l1⟩ := isK_nI c1
    have hK := hR.2.1 _ l1
    refine ⟨by rw [e1]; exact in_nI l1 (by decide), fun q => ?_, fun q => ?_⟩
    · rw [hK.gone] at q
      rw [if_neg q] at h
      rw [e1, ix_nI (by omega)]
      refine s_remember l1 hR (fun σ4 hR4 => ?_)
      have hK4 : KpC σ4 (keepC (ix x1)) (A.2.1 (ix x1)) := hR4.2.1 _ l1
      have ek := hK4.2.2.1 q
      refine s_renewK (by rw [ek]; exact q) (fun σ5 f5 hK5 => ?_)
      rw [ek] at hK5
      exact h σ5 (hR4.kp l1 f5 hK5)
    · rw [hK.gone] at q
      rw [if_pos q] at h
      exact h σ hR
  · rw [if_neg c1] at h
    exact h σ hR
theorem s_addC {A : AS} {N : Nat} {x1 x2 x3 x4 : Int32} {Q : Int32 → St → Prop} {σ : St} (hR : RC A σ) (ho : OK N A) (hN : N ≤ 512) (h : ∀ σ', RC (t_add A x1 x2 x3 x4).2 σ' → Q (t_add A x1 x2 x3 x4).1 σ') : w_X4_add Q x1 x2 x3 x4 σ := by
  unfold w_X4_add
  unfold t_add at h
  have bad : ¬ (isK x1 ∧ isR x2 ∧ (-40 ≤ x4.toInt ∧ x4.toInt ≤ 40)) → Q (-3) σ := by
    intro c
    rw [if_neg c] at h
    exact h σ hR
  refine s_isKeeperC (fun c1 => ⟨fun z => absurd z n10, fun _ => s_isRowC (fun c2 => ⟨fun z => absurd z n10, fun _ => ⟨fun q => bad ?_, fun q => ⟨fun q2 => ?_, fun q2 => bad ?_⟩⟩⟩) (fun c2 => ⟨fun _ => bad (fun z => c2 z.2.1), fun z => absurd rfl z⟩)⟩) (fun c1 => ⟨fun _ => bad (fun z => c1 z.1), fun z => absurd rfl z⟩)
  · rw [i_lt, km40] at q; rintro ⟨-, -, a, -⟩; omega
  · rw [i_lt, km40] at q; rw [i_le, k40] at q2
    rw [if_pos ⟨c1, c2, by omega, q2⟩] at h
    obtain ⟨e1, l1⟩ := isK_nI c1
    obtain ⟨e2, l2⟩ := isR_nI c2
    have hK := hR.2.1 _ l1
    have hr := hR.1 _ l2
    refine ⟨by rw [e1]; exact in_nI l1 (by decide), by rw [e2]; exact in_nI l2 (by decide), fun g => ?_, fun g => ⟨fun g2 => ?_, fun g2 => ?_⟩⟩
    · rw [hK.gone] at g
      rw [if_pos (Or.inl g)] at h; exact h σ hR
    · rw [hK.gone] at g
      rw [hr.gone] at g2
      rw [if_neg (by rintro (z | z); exact g z; exact g2 z)] at h
      have k1 : gI σ (keepC (ix x1)) 1 = 1 ↔ (A.2.1 (ix x1)).1 = 1 := hK.is (n := 1) g (by decide)
      have k2' : gI σ (keepC (ix x1)) 1 = 2 ↔ (A.2.1 (ix x1)).1 = 2 := hK.is (n := 2) g (by decide)
      rw [k1]
      refine ⟨fun q3 => ?_, fun q3 => by rw [if_pos q3] at h; exact h σ hR⟩
      rw [if_neg q3] at h
      obtain ⟨r1, r2, r3, r4, r5, r6⟩ := hr.2.2 g2
      rintro y7 rfl
      have hab := iabs (x := x4) (by omega) q2
      rw [hab]
      have ea : (nI x4.toInt.natAbs).toInt = (x4.toInt.natAbs : Int) := nI_toInt (by omega)
      refine s_hasC r5 r3 (by rw [ea]; omega) (fun c3 => ⟨fun _ => ?_, fun z => absurd z n10⟩) (fun c3 => ⟨fun z => absurd rfl z, fun _ => ?_⟩)
      · rw [ea] at c3
        rw [if_pos c3] at h
        have i3 : (ix x3 : Int) = x3.toInt := by rw [ix_toInt]; omega
        have e3 : x3 = nI (ix x3) := i_of (by omega) (by omega)
        have okr := ho.1 _ l2
        rw [k2']
        have rp : ∀ σ', RC (pushH A (ix x1)) σ' → ∀ p, p < 40 → okPl (gI σ' (rowC (ix x2) + 3)) (gJ σ' (rowC (ix x2) + 1)) (gI σ' (rowC (ix x2) + 2)) p ∧ plA (gI σ' (rowC (ix x2) + 3)) (gJ σ' (rowC (ix x2) + 1)) (gI σ' (rowC (ix x2) + 2)) p = valP (A.1 (ix x2)).1 ((A.1 (ix x2)).2.2 p) := fun σ' hR' p hp => row_pl hR' l2 g2 okr hp
        refine ⟨fun q4 => ?_, fun q4 => ?_⟩ <;> unfold w_X4_add_117 <;> rw [e1, e3]
        · refine s_gatherInto (fun p => valP (A.1 (ix x2)).1 ((A.1 (ix x2)).2.2 p)) (fun _ => (0, 2 ^ 1074)) _ l1 hN hR ho (by omega) q2 rfl (by omega) (by unfold rowC keepC; omega) (by unfold keepC; omega) rp (fun σ' hR' p hp => ones_pl hR' hp) (fun j _ => ?_) h
          unfold addIt; rw [if_neg q4]
        · refine s_gatherInto (fun p => valP (A.1 (ix x2)).1 ((A.1 (ix x2)).2.2 p)) (fun p => valP (A.1 (ix x2)).1 ((A.1 (ix x2)).2.2 p)) _ l1 hN hR ho (by omega) q2 rfl (by omega) (by unfold rowC keepC; omega) (by unfold rowC keepC; omega) rp rp (fun j _ => ?_) h
          unfold addIt; rw [if_pos q4]
      · rw [ea] at c3
        rw [if_neg c3] at h; exact h σ hR
    · rw [hr.gone] at g2
      rw [if_pos (Or.inr g2)] at h; exact h σ hR
  · rw [i_le, k40] at q2; rintro ⟨-, -, -, a⟩; exact q2 a
theorem s_pairC {A : AS} {N : Nat} {x1 x2 x3 x4 x5 : Int32} {Q : Int32 → St → Prop} {σ : St} (hR : RC A σ) (ho : OK N A) (hN : N ≤ 512) (h : ∀ σ', RC (t_pair A x1 x2 x3 x4 x5).2 σ' → Q (t_pair A x1 x2 x3 x4 x5).1 σ') : w_X4_pair Q x1 x2 x3 x4 x5 σ := by
  unfold w_X4_pair
  unfold t_pair at h
  have bad : ¬ (isK x1 ∧ isR x2 ∧ isR x3 ∧ (-40 ≤ x5.toInt ∧ x5.toInt ≤ 40)) → Q (-3) σ := by
    intro c
    rw [if_neg c] at h
    exact h σ hR
  refine s_isKeeperC (fun c1 => ⟨fun z => absurd z n10, fun _ => s_isRowC (fun c2 => ⟨fun z => absurd z n10, fun _ => s_isRowC (fun c3 => ⟨fun z => absurd z n10, fun _ => ⟨fun q => bad ?_, fun q => ⟨fun q2 => ?_, fun q2 => bad ?_⟩⟩⟩) (fun c3 => ⟨fun _ => bad (fun z => c3 z.2.2.1), fun z => absurd rfl z⟩)⟩) (fun c2 => ⟨fun _ => bad (fun z => c2 z.2.1), fun z => absurd rfl z⟩)⟩) (fun c1 => ⟨fun _ => bad (fun z => c1 z.1), fun z => absurd rfl z⟩)
  · rw [i_lt, km40] at q; rintro ⟨-, -, -, a, -⟩; omega
  · rw [i_lt, km40] at q; rw [i_le, k40] at q2
    rw [if_pos ⟨c1, c2, c3, by omega, q2⟩] at h
    obtain ⟨e1, l1⟩ := isK_nI c1
    obtain ⟨e2, l2⟩ := isR_nI c2
    obtain ⟨e3, l3⟩ := isR_nI c3
    have hK := hR.2.1 _ l1
    have hr := hR.1 _ l2
    have hs := hR.1 _ l3
    have hin : vp_in x1 6 := by rw [e1]; exact in_nI l1 (by decide)
    refine ⟨by rw [e2]; exact in_nI l2 (by decide), by rw [e3]; exact in_nI l3 (by decide), hin, fun g => ?_, fun g => ⟨fun g2 => ?_, fun g2 => ⟨fun g3 => ⟨hin, ?_⟩, fun g3 => ?_⟩⟩⟩
    · rw [hK.gone] at g
      rw [if_pos (Or.inl g)] at h; exact h σ hR
    · rw [hr.gone] at g2
      rw [if_pos (Or.inr (Or.inl g2))] at h; exact h σ hR
    · rw [hK.gone] at g
      rw [hr.gone] at g2
      rw [hs.gone] at g3
      rw [if_neg (by rintro (z | z | z); exact g z; exact g2 z; exact g3 z)] at h
      have k0 : gI σ (keepC (ix x1)) 1 = 0 ↔ (A.2.1 (ix x1)).1 = 0 := hK.is (n := 0) g (by decide)
      rw [k0]
      refine ⟨fun q3 => ?_, fun q3 => by rw [if_pos q3] at h; exact h σ hR⟩
      rw [if_neg q3] at h
      obtain ⟨r1, r2, r3, r4, r5, r6⟩ := hr.2.2 g2
      obtain ⟨p1, p2, p3, p4, p5, p6⟩ := hs.2.2 g3
      have hab := iabs (x := x5) (by omega) q2
      have ea : (nI x5.toInt.natAbs).toInt = (x5.toInt.natAbs : Int) := nI_toInt (by omega)
      rintro y11 rfl
      rw [hab]
      refine s_hasC r5 r3 (by rw [ea]; omega) (fun c4 => ⟨fun z => absurd z n10, fun _ => ?_⟩) (fun c4 => ⟨fun _ => ?_, fun z => absurd rfl z⟩)
      · rintro y14 rfl
        refine s_hasC p5 p3 (by rw [ea]; omega) (fun c5 => ⟨fun _ => ?_, fun z => absurd z n10⟩) (fun c5 => ⟨fun z => absurd rfl z, fun _ => ?_⟩)
        · rw [ea] at c4 c5
          rw [if_pos ⟨c4, c5⟩] at h
          have i4 : (ix x4 : Int) = x4.toInt := by rw [ix_toInt]; omega
          have e4 : x4 = nI (ix x4) := i_of (by omega) (by omega)
          rw [e1, e4]
          refine s_gatherInto (fun p => valP (A.1 (ix x2)).1 ((A.1 (ix x2)).2.2 p)) (fun p => valP (A.1 (ix x3)).1 ((A.1 (ix x3)).2.2 p)) _ l1 hN hR ho (by omega) q2 rfl (by omega) (by unfold rowC keepC; omega) (by unfold rowC keepC; omega) (fun σ' hR' p hp => row_pl hR' l2 g2 (ho.1 _ l2) hp) (fun σ' hR' p hp => row_pl hR' l3 g3 (ho.1 _ l3) hp) (fun j _ => rfl) h
        · rw [ea] at c5
          rw [if_neg (fun z => c5 z.2)] at h; exact h σ hR
      · rw [ea] at c4
        rw [if_neg (fun z => c4 z.1)] at h; exact h σ hR
    · rw [hs.gone] at g3
      rw [if_pos (Or.inr (Or.inr g3))] at h; exact h σ hR
  · rw [i_le, k40] at q2; rintro ⟨-, -, -, -, a⟩; exact q2 a
theorem s_mergeC {A : AS} {N : Nat} {x1 x2 : Int32} {Q : Int32 → St → Prop} {σ : St} (hR : RC A σ) (ho : OK N A) (hN : N ≤ 512) (h : ∀ σ', RC (t_merge A x1 x2).2 σ' → Q (t_merge A x1 x2).1 σ') : w_X4_merge Q x1 x2 σ := by
  unfold w_X4_merge
  unfold t_merge at h
  refine s_isKeeperC (fun c1 => ⟨fun z => absurd z n10, fun _ => s_isKeeperC (fun c2 => ⟨fun _ => ?_, fun z => absurd z n10⟩) (fun c2 => ⟨fun z => absurd rfl z, fun _ => ?_⟩)⟩) (fun c1 => ⟨fun _ => ?_, fun z => absurd rfl z⟩)
  · rw [if_pos ⟨c1, c2⟩] at h
    obtain ⟨e1, l1⟩ := isK_nI c1
    obtain ⟨e2, l2⟩ := isK_nI c2
    have hK := hR.2.1 _ l1
    have hM := hR.2.1 _ l2
    refine ⟨by rw [e1]; exact in_nI l1 (by decide), by rw [e2]; exact in_nI l2 (by decide), fun g => ?_, fun g => ⟨fun g2 => ?_, fun g2 => ?_⟩⟩
    · rw [hK.gone] at g
      rw [if_pos (Or.inl g)] at h; exact h σ hR
    · rw [hK.gone] at g
      rw [hM.gone] at g2
      rw [if_neg (by rintro (z | z); exact g z; exact g2 z)] at h
      have k1 : gI σ (keepC (ix x1)) 1 = 0 ↔ (A.2.1 (ix x1)).1 = 0 := hK.is (n := 0) g (by decide)
      have k2 : gI σ (keepC (ix x2)) 1 = 0 ↔ (A.2.1 (ix x2)).1 = 0 := hM.is (n := 0) g2 (by decide)
      have yes : ((A.2.1 (ix x1)).1 = 0 ↔ (A.2.1 (ix x2)).1 = 0) → w_X4_remember (fun σ7 => w_X1_gainAll (keepC (ix x1)) (fun σ8 => Q 0 σ8) (keepC (ix x2)) σ7) x1 σ := by
        intro y
        rw [if_pos y] at h
        rw [e1, ix_nI (by omega)]
        refine s_remember l1 hR (fun σ7 hR7 => ?_)
        have a1 : KpC σ7 (keepC (ix x1)) (A.2.1 (ix x1)) := hR7.2.1 _ l1
        have a2 : KpC σ7 (keepC (ix x2)) (A.2.1 (ix x2)) := hR7.2.1 _ l2
        refine s_gainAll (by unfold keepC; omega) a1 a2 ((ho.2.1 _ l1).rng hN) ((ho.2.1 _ l2).rng hN) (fun σ8 f8 hK8 => ?_)
        exact h σ8 (hR7.kp l1 f8 hK8)
      have no : ¬ ((A.2.1 (ix x1)).1 = 0 ↔ (A.2.1 (ix x2)).1 = 0) → Q (-12) σ := by
        intro y
        rw [if_neg y] at h; exact h σ hR
      rw [k1]
      refine ⟨fun q => ?_, fun q => ?_⟩ <;> unfold w_X4_merge_62 <;> rw [k2] <;> refine ⟨fun q2 => ?_, fun q2 => ?_⟩ <;> unfold w_X4_merge_75
      · exact ⟨fun _ => yes ⟨fun z => absurd z q, fun z => absurd z q2⟩, fun z => absurd rfl z⟩
      · exact ⟨fun z => absurd z (by decide), fun _ => no (fun z => q (z.mpr q2))⟩
      · exact ⟨fun z => absurd z (by decide), fun _ => no (fun z => q2 (z.mp q))⟩
      · exact ⟨fun _ => yes ⟨fun _ => q2, fun _ => q⟩, fun z => absurd rfl z⟩
    · rw [hM.gone] at g2
      rw [if_pos (Or.inr g2)] at h; exact h σ hR
  · rw [if_neg (fun z => c2 z.2)] at h; exact h σ hR
  · rw [if_neg (fun z => c1 z.1)] at h; exact h σ hR
theorem s_plainC {A : AS} {N : Nat} {x1 x2 x3 : Int32} {Q : UInt64 → St → Prop} {σ : St} (hR : RC A σ) (ho : OK N A) (h : ∀ σ', RC A σ' → Q (t_plain A x1 x2 x3) σ') : w_X4_plain Q x1 x2 x3 σ := by
  unfold w_X4_plain
  unfold t_plain at h
  have h := h σ hR
  have bad : ¬ (isR x1 ∧ (0 ≤ x3.toInt ∧ x3.toInt ≤ 40) ∧ (A.1 (ix x1)).1 ≠ -1 ∧ areN (A.1 (ix x1)) x2 (ix x3)) → Q FP.dconst0 σ := by
    intro c
    rw [if_neg c] at h
    rw [u_zero]; exact h
  refine s_isRowC (fun c1 => ⟨fun z => absurd z n10, fun _ => ⟨fun q => bad ?_, fun q => ⟨fun q2 => ?_, fun q2 => bad ?_⟩⟩⟩) (fun c1 => ⟨fun _ => bad (fun z => c1 z.1), fun z => absurd rfl z⟩)
  · rw [i_lt, t0] at q; rintro ⟨-, ⟨a, -⟩, -⟩; omega
  · rw [i_lt, t0] at q; rw [i_le, k40] at q2
    obtain ⟨e1, l1⟩ := isR_nI c1
    have hr := hR.1 _ l1
    refine ⟨by rw [e1]; exact in_nI l1 (by decide), fun g => bad ?_, fun g => ?_⟩
    · rw [hr.gone] at g; exact fun z => z.2.2.1 g
    · rw [hr.gone] at g
      obtain ⟨r1, r2, r3, r4, r5, r6⟩ := hr.2.2 g
      have i3 : (ix x3 : Int) = x3.toInt := by rw [ix_toInt]; omega
      refine s_hasC r5 r3 (by omega) (fun c3 => ⟨fun _ => ?_, fun z => absurd z n10⟩) (fun c3 => ⟨fun z => absurd rfl z, fun _ => bad (fun z => c3 ⟨z.2.2.2.1, by rw [← i3]; exact z.2.2.2.2⟩)⟩)
      rw [← i3] at c3
      rw [if_pos ⟨c1, ⟨by omega, q2⟩, g, c3⟩] at h
      have i2 : (ix x2 : Int) = x2.toInt := by rw [ix_toInt]; omega
      have e2 : x2 = nI (ix x2) := i_of (by omega) (by omega)
      have e3 : x3 = nI (ix x3) := i_of (by omega) (by omega)
      rw [e2, e3]
      exact s_summed (by omega) hr g (ho.1 _ l1) (fun _ => h)
  · rw [i_le, k40] at q2; rintro ⟨-, ⟨-, a⟩, -⟩; exact q2 a
theorem s_errorC {A : AS} {N : Nat} {x1 x2 x3 x4 : Int32} {Q : Int32 → St → Prop} {σ : St} (hR : RC A σ) (ho : OK N A) (hErr : ∀ R pl n, okRow R → R.1 ≠ -1 → pl + n ≤ 40 → -2 ^ (32 * 149) ≤ (gathK (zeroK 0) false (addIt 0 R pl) n).2.1 ∧ (gathK (zeroK 0) false (addIt 0 R pl) n).2.1 < 2 ^ (32 * 149)) (h : ∀ σ', RC (t_error A x1 x2 x3 x4).2 σ' → Q (t_error A x1 x2 x3 x4).1 σ') : w_X4_error Q x1 x2 x3 x4 σ := by
  unfold w_X4_error
  unfold t_error at h
  have bad : ¬ (isK x1 ∧ isR x2 ∧ (0 ≤ x4.toInt ∧ x4.toInt ≤ 40)) → Q (-3) σ := by
    intro c
    rw [if_neg c] at h
    exact h σ hR
  refine s_isKeeperC (fun c1 => ⟨fun z => absurd z n10, fun _ => s_isRowC (fun c2 => ⟨fun z => absurd z n10, fun _ => ⟨fun q => bad ?_, fun q => ⟨fun q2 => ?_, fun q2 => bad ?_⟩⟩⟩) (fun c2 => ⟨fun _ => bad (fun z => c2 z.2.1), fun z => absurd rfl z⟩)⟩) (fun c1 => ⟨fun _ => bad (fun z => c1 z.1), fun z => absurd rfl z⟩)
  · rw [i_lt, t0] at q; rintro ⟨-, -, a, -⟩; omega
  · rw [i_lt, t0] at q; rw [i_le, k40] at q2
    rw [if_pos ⟨c1, c2, by omega, q2⟩] at h
    obtain ⟨e1, l1⟩ := isK_nI c1
    obtain ⟨e2, l2⟩ := isR_nI c2
    have hK := hR.2.1 _ l1
    have hr := hR.1 _ l2
    refine ⟨by rw [e1]; exact in_nI l1 (by decide), by rw [e2]; exact in_nI l2 (by decide), fun g => ?_, fun g => ⟨fun g2 => ?_, fun g2 => ?_⟩⟩
    · rw [hK.gone] at g
      rw [if_pos (Or.inl g)] at h; exact h σ hR
    · rw [hK.gone] at g
      rw [hr.gone] at g2
      rw [if_neg (by rintro (z | z); exact g z; exact g2 z)] at h
      have k0 : gI σ (keepC (ix x1)) 1 = 0 ↔ (A.2.1 (ix x1)).1 = 0 := hK.is (n := 0) g (by decide)
      rw [k0]
      refine ⟨fun q3 => ?_, fun q3 => by rw [if_neg q3] at h; exact h σ hR⟩
      rw [if_pos q3] at h
      obtain ⟨r1, r2, r3, r4, r5, r6⟩ := hr.2.2 g2
      have i4 : (ix x4 : Int) = x4.toInt := by rw [ix_toInt]; omega
      refine s_hasC r5 r3 (by omega) (fun c3 => ⟨fun _ => ?_, fun z => absurd z n10⟩) (fun c3 => ⟨fun z => absurd rfl z, fun _ => ?_⟩)
      · rw [← i4] at c3
        rw [if_pos c3] at h
        have i3 : (ix x3 : Int) = x3.toInt := by rw [ix_toInt]; omega
        have e3 : x3 = nI (ix x3) := i_of (by omega) (by omega)
        have e4 : x4 = nI (ix x4) := i_of (by omega) (by omega)
        generalize hn : ix x4 = n at *
        generalize hpl : ix x3 = pl at *
        subst e3 e4
        have hpn : pl + n ≤ 40 := by omega
        rw [e1, ix_nI (by omega)]
        have okr := ho.1 _ l2
        refine s_remember l1 hR (fun σ9 hR9 => s_renewK (by decide) (fun σ10 f10 hK10 => ?_))
        have hR10 := hR9.kp l1 f10 hK10
        have hr10 : RowC σ10 (rowC (ix x2)) (A.1 (ix x2)) := hR10.1 _ l2
        refine s_summed hpn hr10 g2 okr (fun hnn => ?_)
        refine s_writeDouble hnn (fun σ13 f13 ok13 pl13 => ?_)
        have hR13 := hR10.scr (f13.mono (fun c z => by unfold cS; omega))
        have hK13 : KpC σ13 (keepC (ix x1)) (zeroK 0) := by
          have := hR13.2.1 _ l1
          rw [show (setK (pushH A (ix x1)) (ix x1) (zeroK (Int32.toInt 0))).2.1 (ix x1) = zeroK 0 from if_pos rfl] at this
          exact this
        have z0 : (0 : Int32) = nI 0 := rfl
        have z1 : (1 : Int32) = nI 1 := rfl
        refine s_gatherK (t := false) (addIt 0 (A.1 (ix x2)) pl) hpn bz0 rfl (by unfold rowC keepC; omega) (by unfold keepC; omega) hK13 (by constructor <;> decide +kernel) (fun p _ hp => (row_pl hR13 l2 g2 okr (by omega)).1) (fun p _ hp => (ones_pl hR13 (by omega)).1) (fun j hj => ?_) (fun σ14 f14 hK14 => ?_)
        · have a1 := (row_pl hR13 l2 g2 okr (p := pl + j) (by omega)).2
          have a2 := (ones_pl hR13 (p := pl + j) (by omega)).2
          rw [a1]
          show _ = prS _ (plA (gI σ13 47) (gJ σ13 45) (gI σ13 46) (pl + j))
          rw [a2]
          unfold addIt; rw [if_neg (by decide)]; rfl
        · have hR14 := hR13.kp l1 f14 hK14
          have u51 : gI σ14 51 = gI σ13 51 := (f14 51 (by unfold keepC; omega)).1
          have u49 : gJ σ14 49 = gJ σ13 49 := (f14 49 (by unfold keepC; omega)).2
          have u50 : gI σ14 50 = gI σ13 50 := (f14 50 (by unfold keepC; omega)).1
          rw [← u51, ← u49, ← u50] at ok13 pl13
          refine s_gatherK (t := true) (k1 := 48) (k2 := 44) (place := 0) (many := 1) (fun _ => prS (valD (plainD (A.1 (ix x2)) pl n)) (0, 2 ^ 1074)) (by decide) bz1 rfl (by unfold keepC; omega) (by unfold keepC; omega) hK14 (hErr _ _ _ okr g2 hpn) (fun p _ hp => by rw [show p = 0 by omega]; exact ok13) (fun p _ hp => (ones_pl hR14 (by omega)).1) (fun j hj => ?_) (fun σ15 f15 hK15 => ?_)
          · have a2 := (ones_pl hR14 (p := 0 + j) (by omega)).2
            show _ = prS (plA (gI σ14 51) (gJ σ14 49) (gI σ14 50) (0 + j)) (plA (gI σ14 47) (gJ σ14 45) (gI σ14 46) (0 + j))
            rw [a2, show 0 + j = 0 by omega, pl13]
          · rintro σ16 rfl
            have hR15 := hR14.kp l1 f15 hK15
            have e6 : gI σ15 0 6 = A.2.2.2 := hR15.2.2.2.1
            rw [e6]
            refine h _ ?_
            have e7 := hR15.ga (v := A.2.2.2 + nI n)
            have e8 : setG (setK (setK (setK (pushH A (ix x1)) (ix x1) (zeroK (Int32.toInt 0))) (ix x1) (gathK (zeroK 0) false (addIt 0 (A.1 (ix x2)) pl) n)) (ix x1) (gathK (gathK (zeroK 0) false (addIt 0 (A.1 (ix x2)) pl) n) true (fun _ => prS (valD (plainD (A.1 (ix x2)) pl n)) (0, 2 ^ 1074)) 1)) (A.2.2.2 + nI n) = setG (setK (pushH A (ix x1)) (ix x1) (errK (A.1 (ix x2)) pl n)) (A.2.2.2 + nI n) := by
              unfold setG setK errK
              refine congrArg (fun f => (A.1, f, (pushH A (ix x1)).2.2.1, A.2.2.2 + nI n)) ?_
              funext j
              show (if j = ix x1 then _ else (if j = ix x1 then _ else (if j = ix x1 then _ else _))) = if j = ix x1 then _ else _
              by_cases c : j = ix x1
              · rw [if_pos c, if_pos c]
              · rw [if_neg c, if_neg c, if_neg c, if_neg c]
            rw [e8] at e7
            exact e7
      · rw [← i4] at c3
        rw [if_neg c3] at h; exact h σ hR
    · rw [hr.gone] at g2
      rw [if_pos (Or.inr g2)] at h; exact h σ hR
  · rw [i_le, k40] at q2; rintro ⟨-, -, -, a⟩; exact q2 a
theorem s_findingOf {A : AS} {x1 : Int32} {Q : Int32 → St → Prop} {σ : St} (hR : RC A σ) (h1 : isK x1 → (A.2.1 (ix x1)).1 ≠ -1 → Q 0 σ) (h2 : isK x1 → (A.2.1 (ix x1)).1 = -1 → Q (-11) σ) (h3 : ¬ isK x1 → Q (-3) σ) : w_X4_findingOf Q x1 σ := by
  unfold w_X4_findingOf
  refine s_isKeeperC (fun c1 => ⟨fun _ => ?_, fun z => absurd z n10⟩) (fun c1 => ⟨fun z => absurd rfl z, fun _ => h3 c1⟩)
  obtain ⟨e1, l1⟩ := isK_nI c1
  have hK := hR.2.1 _ l1
  rw [hK.gone]
  exact ⟨by rw [e1]; exact in_nI l1 (by decide), fun g => h2 c1 g, fun g => h1 c1 g⟩
theorem s_sortC {A : AS} {x1 : Int32} {Q : Int32 → St → Prop} {σ : St} (hR : RC A σ) (h : ∀ σ', RC A σ' → Q (t_sort A x1) σ') : w_X4_sort Q x1 σ := by
  unfold w_X4_sort
  unfold t_sort at h
  have h := h σ hR
  refine s_findingOf hR (fun c g => ⟨fun _ => ?_, fun z => absurd rfl z⟩) (fun c g => ⟨fun z => absurd z (by decide), fun _ => by rw [if_pos c, if_pos g] at h; exact h⟩) (fun c => ⟨fun z => absurd z (by decide), fun _ => by rw [if_neg c] at h; exact h⟩)
  rw [if_pos c, if_neg g] at h
  obtain ⟨e1, l1⟩ := isK_nI c
  exact ⟨by rw [e1]; exact in_nI l1 (by decide), s_state (hR.2.1 _ l1) h⟩
theorem s_seenC {A : AS} {x1 x2 : Int32} {Q : Int32 → St → Prop} {σ : St} (hR : RC A σ) (h : ∀ σ', RC A σ' → Q (t_seen A x1 x2) σ') : w_X4_seen Q x1 x2 σ := by
  unfold w_X4_seen
  unfold t_seen at h
  have h := h σ hR
  have bad : ¬ (isK x1 ∧ (0 ≤ x2.toInt ∧ x2.toInt ≤ 2)) → Q (-3) σ := by
    intro c
    rw [if_neg c] at h
    exact h
  refine s_isKeeperC (fun c1 => ⟨fun z => absurd z n10, fun _ => ⟨fun q => bad ?_, fun q => ⟨fun q2 => ?_, fun q2 => bad ?_⟩⟩⟩) (fun c1 => ⟨fun _ => bad (fun z => c1 z.1), fun z => absurd rfl z⟩)
  · rw [i_lt, t0] at q; rintro ⟨-, a, -⟩; omega
  · rw [i_lt, t0] at q; rw [i_le, k2] at q2
    rw [if_pos ⟨c1, by omega, q2⟩] at h
    obtain ⟨e1, l1⟩ := isK_nI c1
    have hK := hR.2.1 _ l1
    rw [hK.gone]
    refine ⟨by rw [e1]; exact in_nI l1 (by decide), fun g => by rw [if_pos g] at h; exact h, fun g => ⟨in_iff.mpr ⟨by omega, by omega⟩, ?_⟩⟩
    rw [if_neg g] at h
    rw [hK.2.2.2.2 (ix x2) (by rw [ix_toInt]; omega)]; exact h
  · rw [i_le, k2] at q2; rintro ⟨-, -, a⟩; exact q2 a
theorem s_orderC {A : AS} {x1 x2 : Int32} {Q : Int32 → St → Prop} {σ : St} (hR : RC A σ) (h : ∀ σ', RC A σ' → Q (t_order A x1 x2) σ') : w_X4_order Q x1 x2 σ := by
  unfold w_X4_order
  unfold t_order at h
  have h := h σ hR
  refine s_isKeeperC (fun c1 => ⟨fun z => absurd z n10, fun _ => s_isKeeperC (fun c2 => ⟨fun _ => ?_, fun z => absurd z n10⟩) (fun c2 => ⟨fun z => absurd rfl z, fun _ => by rw [if_neg (fun z => c2 z.2)] at h; exact h⟩)⟩) (fun c1 => ⟨fun _ => by rw [if_neg (fun z => c1 z.1)] at h; exact h, fun z => absurd rfl z⟩)
  rw [if_pos ⟨c1, c2⟩] at h
  obtain ⟨e1, l1⟩ := isK_nI c1
  obtain ⟨e2, l2⟩ := isK_nI c2
  have hK := hR.2.1 _ l1
  have hM := hR.2.1 _ l2
  rw [hK.gone, hM.gone]
  refine ⟨by rw [e1]; exact in_nI l1 (by decide), by rw [e2]; exact in_nI l2 (by decide), fun g => by rw [if_pos (Or.inl g)] at h; exact h, fun g => ⟨fun g2 => ?_, fun g2 => by rw [if_pos (Or.inr g2)] at h; exact h⟩⟩
  rw [if_neg (by rintro (z | z); exact g z; exact g2 z)] at h
  refine s_comparedWith hK hM ?_
  by_cases a : (A.2.1 (ix x1)).2.1 = (A.2.1 (ix x2)).2.1
  · rw [if_pos a] at h ⊢
    exact ⟨fun z => absurd rfl z, fun _ => h⟩
  · rw [if_neg a] at h ⊢
    by_cases b : (A.2.1 (ix x1)).2.1 < (A.2.1 (ix x2)).2.1
    · rw [if_pos b] at h ⊢
      exact ⟨fun _ => ⟨fun z => absurd z (by decide), fun _ => h⟩, fun z => absurd z (by decide)⟩
    · rw [if_neg b] at h ⊢
      exact ⟨fun _ => ⟨fun _ => h, fun z => absurd (by decide) z⟩, fun z => absurd z (by decide)⟩
theorem s_undoC {A : AS} {N : Nat} {Q : Int32 → St → Prop} {σ : St} (hR : RC A σ) (ho : OK N A) (h : ∀ σ', RC (t_undo A).2 σ' → Q (t_undo A).1 σ') : w_X4_undo Q σ := by
  unfold w_X4_undo
  unfold t_undo at h
  obtain ⟨h1, h2, ⟨b1, b2, l, hl, b3, b4⟩, h4, h5⟩ := id hR
  rw [b1]
  have ho3 := ho.2.2
  cases hH : A.2.2.1 with
  | nil =>
    rw [hH] at h
    exact ⟨fun z => absurd rfl z, fun _ => h σ hR⟩
  | cons e t =>
    rw [hH] at h b2 b4 ho3
    rw [List.length_cons] at b2 ⊢
    refine ⟨fun _ => ?_, fun z => ?_⟩
    · obtain ⟨s1, s2⟩ := b4 0 e rfl
      rw [show (l + 12 - 0) % 12 = l by omega] at s1 s2
      have he := (ho3 0 e rfl).1
      unfold w_X0_latestKeeper
      rw [b3, ix_nI (by omega), s1]
      refine ⟨in_nI hl (by decide), s_isKeeperC (fun c1 => ⟨fun _ => ⟨in_nI he (by decide), ?_⟩, fun z => absurd z n10⟩) (fun c1 => absurd ⟨by rw [nI_toInt (by omega)]; omega, by rw [nI_toInt (by omega)]; omega⟩ c1)⟩
      unfold w_X0_takeBack
      rw [b3, ix_nI (by omega), ix_nI (by omega)]
      refine ⟨in_nI hl (by decide), s_become (K := e.2) (by unfold befC keepC; omega) s2 (fun σ2 f2 hK2 => ?_)⟩
      rintro σ3 rfl σ4 rfl
      have hRk := hR.kp he f2 hK2
      obtain ⟨q1, q2, ⟨d1, d2, l', hl', d3, d4⟩, q4, q5⟩ := hRk
      have c3 : gI σ2 3 = gI σ 3 := (f2 3 (by unfold keepC; omega)).1
      have e33 : gI σ2 3 3 = nI l := by rw [c3]; exact b3
      have e32 : gI σ2 3 2 = nI (t.length + 1) := by rw [c3, b1, hH]; rfl
      have er : gI σ2 3 3 + 12 - 1 - (gI σ2 3 3 + 12 - 1) / (12 : Int32) * (12 : Int32) = nI ((l + 11) % 12) := by
        have e1 : nI l + (12 : Int32) - (1 : Int32) = nI (l + 11) := by
          rw [show (12 : Int32) = nI 12 from rfl, nI_add]
          exact pk_sub (b := 1) (by omega)
        rw [e33, e1, nI_rem12 (by omega)]
      rw [er]
      generalize hτ : uI (uI σ2 3 3 (nI ((l + 11) % 12))) 3 2 (gI (uI σ2 3 3 (nI ((l + 11) % 12))) 3 2 - 1) = τ
      have F : FrC (fun c => c = 3) σ2 τ := by
        rw [← hτ]
        exact FrC.tr (I := fun c => c = 3) (frc_uI rfl) (frc_uI rfl)
      have g3 : gI τ 3 = upd (upd (gI σ 3) 3 (nI ((l + 11) % 12))) 2 (nI t.length) := by
        rw [← hτ, uI_w, gI_wI_eq, uI_w, gI_wI_eq, upd_ne (by decide), c3]
        have : gI σ 3 2 - 1 = nI t.length := by
          rw [b1, hH]
          exact pk_sub (a := t.length + 1) (b := 1) (by omega)
        rw [this]
      refine h τ ⟨fun r hr => (q1 r hr).fr F (fun i hi => by unfold rowC; omega), fun k hk => (q2 k hk).fr F (fun i hi => by unfold keepC; omega), ⟨?_, ?_, (l + 11) % 12, by omega, ?_, fun j x hx => ?_⟩, ?_, fun p hp => ?_⟩
      · rw [g3, upd_eq]; rfl
      · show t.length ≤ 12
        omega
      · rw [g3, upd_ne (by decide), upd_eq]
      · have hx : t[j]? = some x := hx
        obtain ⟨u1, u2⟩ := b4 (j + 1) x hx
        have hs : ((l + 11) % 12 + 12 - j) % 12 = (l + 12 - (j + 1)) % 12 := by
          have : j < t.length := (List.getElem?_eq_some_iff.mp hx).1
          omega
        rw [hs]
        refine ⟨?_, ?_⟩
        · rw [(F 5 (by decide)).1, (f2 5 (by unfold keepC; omega)).1]; exact u1
        · exact (u2.fr f2 (fun i hi => by unfold keepC befC; omega)).fr F (fun i hi => by unfold befC; omega)
      · rw [(F 0 (by decide)).1]; exact q4
      · rw [(F 47 (by decide)).1, (F 45 (by decide)).2, (F 46 (by decide)).1]; exact q5 p hp
    · exfalso
      have := (nI_eq (a := t.length + 1) (b := 0) (by omega) (by decide)).mp z
      omega
