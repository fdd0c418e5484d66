/-! a row's places and their products, as sort and value -/
def okPl (S : Nat → Int32) (W : Nat → Int64) (P : Nat → Int32) (p : Nat) : Prop :=
  (S p = 0 ∧ (W p).toInt.natAbs < 2 ^ 53 ∧ -1074 ≤ (P p).toInt ∧ (P p).toInt ≤ 971) ∨ (S p = 4 ∧ W p = 0 ∧ P p = 0) ∨ ((S p = 1 ∨ S p = 2 ∨ S p = 3) ∧ W p = 0 ∧ P p = 0)
def plA (S : Nat → Int32) (W : Nat → Int64) (P : Nat → Int32) (p : Nat) : Nat × Int :=
  if S p = 0 ∨ S p = 4 then (0, (W p).toInt * 2 ^ ((P p).toInt + 1074).toNat) else (ix (S p), 0)
def isB (a : Nat × Int) : Bool := decide (a.1 = 2 ∨ (a.1 = 0 ∧ a.2 < 0))
def prS (a b : Nat × Int) : Nat × Int :=
  if a.1 = 3 ∨ b.1 = 3 then (3, 0) else if a.1 = 0 ∧ b.1 = 0 then (0, a.2 * b.2)
  else if (a.1 = 0 ∧ a.2 = 0) ∨ (b.1 = 0 ∧ b.2 = 0) then (3, 0) else (if isB a = isB b then 1 else 2, 0)
def widx (s : Nat) (taken : Bool) : Nat := if s = 3 then 0 else if s = 1 then (if taken then 2 else 1) else (if taken then 1 else 2)
def mt (E : Nat → Int32) (w : Nat) : Nat → Int32 := upd E w (if (1000000000 : Int32) < E w + 1 then 1000000000 else E w + 1)
def stp (taken : Bool) (x : Nat × Int) (s : Int × (Nat → Int32)) : Int × (Nat → Int32) := if x.1 = 0 then (s.1 + sgnI taken x.2, s.2) else (s.1, mt s.2 (widx x.1 taken))
def itr (taken : Bool) (it : Nat → Nat × Int) : Nat → Int × (Nat → Int32) → Int × (Nat → Int32)
  | 0, s => s
  | n + 1, s => stp taken (it n) (itr taken it n s)
theorem mulpow_sign (w : Int) (k : Nat) : (w * 2 ^ k < 0 ↔ w < 0) ∧ (w * 2 ^ k = 0 ↔ w = 0) := by
  have hp := p2 k
  refine ⟨⟨fun h => ?_, fun h => ?_⟩, ⟨fun h => ?_, fun h => ?_⟩⟩
  · rcases ilg w 0 with g | g
    · exact g
    · have := Int.mul_nonneg g (Int.le_of_lt hp); omega
  · exact Int.mul_neg_of_neg_of_pos h hp
  · rcases Int.mul_eq_zero.mp h with g | g
    · exact g
    · omega
  · rw [h, Int.zero_mul]
theorem l_zero {x : Int64} : x = 0 ↔ x.toInt = 0 := by
  rw [← Int64.toInt_inj, Int64.toInt_zero]
theorem s_sortAt {k p : Nat} {Q : Int32 → St → Prop} {σ : St} (hp : p < 40) (hok : okPl (gI σ (k + 3)) (gJ σ (k + 1)) (gI σ (k + 2)) p) (h : Q (nI (plA (gI σ (k + 3)) (gJ σ (k + 1)) (gI σ (k + 2)) p).1) σ) : w_X2_sortAt k Q (nI p) σ := by
  unfold w_X2_sortAt
  have hin : vp_in (nI p) 40 := in_nI hp (by decide)
  rw [ix_nI (by omega)]
  refine ⟨hin, fun h4 => ⟨hin, ?_⟩, fun h4 => ?_⟩
  · rcases hok with ⟨q, -⟩ | ⟨q, -⟩ | ⟨q, -⟩
    · rw [q]; unfold plA at h; rw [if_pos (Or.inl q)] at h; exact h
    · exact absurd q h4
    · unfold plA at h
      rcases q with q | q | q <;> rw [q] at h ⊢ <;> exact h
  · unfold plA at h; rw [if_pos (Or.inr h4)] at h; exact h
theorem s_sop {k1 k2 p : Nat} {Q : Int32 → St → Prop} {σ : St} (hp : p < 40) (ok1 : okPl (gI σ (k1 + 3)) (gJ σ (k1 + 1)) (gI σ (k1 + 2)) p) (ok2 : okPl (gI σ (k2 + 3)) (gJ σ (k2 + 1)) (gI σ (k2 + 2)) p)
    (h : Q (nI (prS (plA (gI σ (k1 + 3)) (gJ σ (k1 + 1)) (gI σ (k1 + 2)) p) (plA (gI σ (k2 + 3)) (gJ σ (k2 + 1)) (gI σ (k2 + 2)) p)).1) σ) : w_X1_sortOfProduct Q k1 k2 (nI p) σ := by
  unfold w_X1_sortOfProduct
  refine s_sortAt hp ok1 ?_
  refine s_sortAt hp ok2 ?_
  have hin : vp_in (nI p) 40 := in_nI hp (by decide)
  have gen : ∀ {k : Nat}, okPl (gI σ (k + 3)) (gJ σ (k + 1)) (gI σ (k + 2)) p → ∃ (s : Nat) (v : Int), plA (gI σ (k + 3)) (gJ σ (k + 1)) (gI σ (k + 2)) p = (s, v) ∧ s < 4 ∧ (s ≠ 0 → v = 0 ∧ (gJ σ (k + 1) p).toInt = 0) ∧ (s = 0 → (v < 0 ↔ (gJ σ (k + 1) p).toInt < 0) ∧ (v = 0 ↔ (gJ σ (k + 1) p).toInt = 0)) := by
    intro k hok
    unfold plA
    rcases hok with ⟨q, -⟩ | ⟨q, w, z⟩ | ⟨q, w, z⟩
    · rw [if_pos (Or.inl q)]
      exact ⟨0, _, rfl, by decide, fun c => absurd rfl c, fun _ => mulpow_sign _ _⟩
    · rw [if_pos (Or.inr q)]
      exact ⟨0, _, rfl, by decide, fun c => absurd rfl c, fun _ => mulpow_sign _ _⟩
    · have e : ∀ (s : Int32), gI σ (k + 3) p = s → (s = 1 ∨ s = 2 ∨ s = 3) → ¬ (gI σ (k + 3) p = 0 ∨ gI σ (k + 3) p = 4) := by
        rintro s e1 (rfl | rfl | rfl) <;> rw [e1] <;> decide
      rw [if_neg (e _ rfl q)]
      refine ⟨_, _, rfl, ?_, fun _ => ⟨rfl, by rw [w]; rfl⟩, fun c => ?_⟩
      · rcases q with q | q | q <;> rw [q] <;> decide
      · exfalso
        rcases q with q | q | q <;> rw [q] at c <;> exact absurd c (by decide)
  obtain ⟨s1, v1, e1, l1, n1, z1⟩ := gen ok1
  obtain ⟨s2, v2, e2, l2, n2, z2⟩ := gen ok2
  rw [e1, e2] at h
  rw [e1, e2]
  show ((nI s1 = 3 → _) ∧ _)
  have d : ∀ {a b : Nat}, a < 4 → b < 4 → (nI a = nI b ↔ a = b) := fun ha hb => nI_eq (by omega) (by omega)
  have c3 : (3 : Int32) = nI 3 := rfl
  have c2 : (2 : Int32) = nI 2 := rfl
  have c0 : (0 : Int32) = nI 0 := rfl
  have wz : ∀ {k : Nat}, (gJ σ (k + 1) p = 0 ↔ (gJ σ (k + 1) p).toInt = 0) := l_zero
  have i115 : ∀ (b1 b2 : Bool) (x5 s0 : Int32), x5 = (if b1 then 1 else 0) → s0 = (if b2 then 1 else 0) → Q (nI (if b1 = b2 then 1 else 2)) σ → w_X1_sortOfProduct_115 Q x5 s0 σ := by
    rintro b1 b2 x5 s0 rfl rfl hq
    unfold w_X1_sortOfProduct_115
    cases b1 <;> cases b2 <;> refine ⟨fun q => ?_, fun q => ?_⟩ <;> first | exact hq | exact absurd rfl q | exact absurd q (by decide)
  have sg1 : ∀ {k s : Nat} {v : Int}, s < 4 → s ≠ 3 → (s ≠ 0 → v = 0 ∧ (gJ σ (k + 1) p).toInt = 0) → (s = 0 → (v < 0 ↔ (gJ σ (k + 1) p).toInt < 0) ∧ (v = 0 ↔ (gJ σ (k + 1) p).toInt = 0)) → (isB (s, v) = true ↔ (s = 2 ∨ (gJ σ (k + 1) p).toInt < 0)) := by
    intro k s v l n3 n z
    unfold isB
    rw [decide_eq_true_iff]
    refine ⟨fun q => ?_, fun q => ?_⟩
    · rcases q with q | ⟨q, q2⟩
      · exact Or.inl q
      · exact Or.inr ((z q).1.mp q2)
    · rcases q with q | q
      · exact Or.inl q
      · by_cases c : s = 0
        · exact Or.inr ⟨c, (z c).1.mpr q⟩
        · have := (n c).2
          omega
  have k70 : s1 ≠ 3 → s2 ≠ 3 → Q (nI (if isB (s1, v1) = isB (s2, v2) then 1 else 2)) σ → w_X1_sortOfProduct_70 Q k1 k2 (nI p) (nI s1) (nI s2) σ := by
    intro t1 t2 hq
    have B1 := sg1 l1 t1 n1 z1
    have B2 := sg1 l2 t2 n2 z2
    have k91 : ∀ x5 : Int32, x5 = (if isB (s1, v1) then 1 else 0) → w_X1_sortOfProduct_91 Q k2 (nI p) (nI s2) x5 σ := by
      intro x5 hx5
      unfold w_X1_sortOfProduct_91 w_X1_sortOfProduct_110
      rw [c2, ix_nI (by omega)]
      refine ⟨fun q => ?_, fun q => ⟨hin, fun q2 => ?_, fun q2 => ?_⟩⟩
      · refine i115 _ (isB (s2, v2)) _ _ hx5 ?_ hq
        rw [B2.mpr (Or.inl ((d l2 (by decide)).mp q)), if_pos rfl]
      · refine i115 _ (isB (s2, v2)) _ _ hx5 ?_ hq
        have : isB (s2, v2) = false := by
          rcases hb : isB (s2, v2) with _ | _
          · rfl
          · rcases B2.mp hb with g | g
            · exact absurd (congrArg nI g) q
            · have := l_ge0.mp q2; omega
        rw [this]; rfl
      · refine i115 _ (isB (s2, v2)) _ _ hx5 ?_ hq
        have : (gJ σ (k2 + 1) p).toInt < 0 := by
          rcases ilg (gJ σ (k2 + 1) p).toInt 0 with g | g
          · exact g
          · exact absurd (l_ge0.mpr g) q2
        rw [B2.mpr (Or.inr this), if_pos rfl]
    unfold w_X1_sortOfProduct_70 w_X1_sortOfProduct_86
    rw [c2, ix_nI (by omega)]
    refine ⟨fun q => k91 _ ?_, fun q => ⟨hin, fun q2 => k91 _ ?_, fun q2 => k91 _ ?_⟩⟩
    · rw [B1.mpr (Or.inl ((d l1 (by decide)).mp q)), if_pos rfl]
    · have : isB (s1, v1) = false := by
        rcases hb : isB (s1, v1) with _ | _
        · rfl
        · rcases B1.mp hb with g | g
          · exact absurd (congrArg nI g) q
          · have := l_ge0.mp q2; omega
      rw [this]; rfl
    · have : (gJ σ (k1 + 1) p).toInt < 0 := by
        rcases ilg (gJ σ (k1 + 1) p).toInt 0 with g | g
        · exact g
        · exact absurd (l_ge0.mpr g) q2
      rw [B1.mpr (Or.inr this), if_pos rfl]
  have main : s1 ≠ 3 → s2 ≠ 3 → ¬ (s1 = 0 ∧ s2 = 0) → w_X1_sortOfProduct_37 Q k1 k2 (nI p) (nI s1) (nI s2) σ := by
    intro t1 t2 nz
    unfold prS at h
    rw [if_neg (fun q => by rcases q with q | q; exact t1 q; exact t2 q), if_neg nz] at h
    unfold w_X1_sortOfProduct_37
    have k52 : ¬ (s1 = 0 ∧ v1 = 0) → w_X1_sortOfProduct_52 Q k1 k2 (nI p) (nI s1) (nI s2) σ := by
      intro nv
      unfold w_X1_sortOfProduct_52
      rw [c0, ix_nI (by omega)]
      refine ⟨fun q => k70 t1 t2 ?_, fun q => ⟨hin, fun q2 => k70 t1 t2 ?_, fun q2 => ?_⟩⟩
      · rw [if_neg (fun g => by rcases g with g | g; exact nv g; exact q (congrArg nI g.1))] at h; exact h
      · rw [if_neg (fun g => by rcases g with g | g; exact nv g; exact q2 (l_zero.mpr ((z2 g.1).2.mp g.2)))] at h; exact h
      · have a2 := (d l2 (by decide)).mp q
        rw [if_pos (Or.inr ⟨a2, (z2 a2).2.mpr (l_zero.mp q2)⟩)] at h; exact h
    rw [c0, ix_nI (by omega)]
    refine ⟨fun q => k52 (fun g => q (congrArg nI g.1)), fun q => ⟨hin, fun q2 => ?_, fun q2 => k52 (fun g => q2 (l_zero.mpr ((z1 g.1).2.mp g.2)))⟩⟩
    have a1 := (d l1 (by decide)).mp q
    rw [if_pos (Or.inl ⟨a1, (z1 a1).2.mpr (l_zero.mp q2)⟩)] at h; exact h
  rw [c3]
  refine ⟨fun q => ?_, fun q => ⟨fun q2 => ⟨fun q3 => ?_, fun q3 => ⟨fun q4 => ?_, fun q4 => ?_⟩⟩, fun q2 => ?_⟩⟩
  · have := (d l1 (by decide)).mp q
    subst this
    unfold prS at h
    rw [if_pos (Or.inl rfl)] at h; exact h
  · exact main (fun g => q (congrArg nI g)) (fun g => q2 (congrArg nI g)) (fun g => q3 (congrArg nI g.1))
  · exact main (fun g => q (congrArg nI g)) (fun g => q2 (congrArg nI g)) (fun g => q4 (congrArg nI g.2))
  · have a1 := (d l1 (by decide)).mp (q3.trans c0)
    have a2 := (d l2 (by decide)).mp (q4.trans c0)
    subst a1 a2
    unfold prS at h
    rw [if_neg (fun z => by rcases z with z | z <;> exact absurd z (show ¬ (0 : Nat) = 3 by decide)), if_pos ⟨rfl, rfl⟩] at h; exact h
  · have := (d l2 (by decide)).mp q2
    subst this
    unfold prS at h
    rw [if_pos (Or.inr rfl)] at h; exact h
theorem s_meet {k : Nat} {Q : St → Prop} {σ : St} {s : Nat} {taken : Int32} (hs : s = 1 ∨ s = 2 ∨ s = 3) (ht : bz taken) (h : Q (wI σ (k + 1) (mt (gI σ (k + 1)) (widx s (decide (¬ taken = 0)))))) : w_X1_meet k Q (nI s) taken σ := by
  have k27 : ∀ w : Nat, w < 3 → w = widx s (decide (¬ taken = 0)) → w_X1_meet_27 k Q (nI w) σ := by
    intro w hw e
    unfold w_X1_meet_27
    refine ⟨in_nI hw (by decide), ?_⟩
    rintro y2 rfl
    refine ⟨in_nI hw (by decide), ?_⟩
    rintro σ4 rfl
    rw [ix_nI (by omega), uI_w, e]
    exact h
  unfold w_X1_meet
  rcases hs with rfl | rfl | rfl
  · refine ⟨fun q => absurd q (by decide), fun _ => ⟨fun q => absurd rfl q, fun _ => ?_⟩⟩
    unfold w_X1_meet_17 w_X1_meet_26
    rcases ht with rfl | rfl
    · exact ⟨fun _ => k27 1 (by decide) rfl, fun q => absurd q (by decide)⟩
    · exact ⟨fun q => absurd rfl q, fun _ => k27 2 (by decide) rfl⟩
  · refine ⟨fun q => absurd q (by decide), fun _ => ⟨fun _ => ?_, fun q => absurd q (by decide)⟩⟩
    unfold w_X1_meet_17 w_X1_meet_26
    rcases ht with rfl | rfl
    · exact ⟨fun q => absurd rfl q, fun _ => k27 2 (by decide) rfl⟩
    · exact ⟨fun _ => k27 1 (by decide) rfl, fun q => absurd q (by decide)⟩
  · exact ⟨fun _ => k27 0 (by decide) rfl, fun q => absurd rfl q⟩
theorem prS_rng {a b : Nat × Int} : (prS a b).1 = 0 ∨ (prS a b).1 = 1 ∨ (prS a b).1 = 2 ∨ (prS a b).1 = 3 := by
  unfold prS
  split
  · exact Or.inr (Or.inr (Or.inr rfl))
  · split
    · exact Or.inl rfl
    · split
      · exact Or.inr (Or.inr (Or.inr rfl))
      · show ite _ 1 2 = 0 ∨ _
        split
        · exact Or.inr (Or.inl rfl)
        · exact Or.inr (Or.inr (Or.inl rfl))
theorem plA_num {S : Nat → Int32} {W : Nat → Int64} {P : Nat → Int32} {p : Nat} (hok : okPl S W P p) (h : (plA S W P p).1 = 0) : (plA S W P p).2 = (W p).toInt * 2 ^ ((P p).toInt + 1074).toNat ∧ (W p).toInt.natAbs < 2 ^ 53 ∧ -1074 ≤ (P p).toInt ∧ (P p).toInt ≤ 971 := by
  unfold plA at h ⊢
  rcases hok with ⟨q, w⟩ | ⟨q, w, z⟩ | ⟨q, w, z⟩
  · rw [if_pos (Or.inl q)]; exact ⟨rfl, w⟩
  · rw [if_pos (Or.inr q)]; exact ⟨rfl, by rw [w]; decide, by rw [z]; decide, by rw [z]; decide⟩
  · exfalso
    rw [if_neg (by rcases q with q | q | q <;> rw [q] <;> decide)] at h
    rcases q with q | q | q <;> rw [q] at h <;> exact absurd h (by decide)
theorem prS_num {a b : Nat × Int} (h : (prS a b).1 = 0) : a.1 = 0 ∧ b.1 = 0 ∧ (prS a b).2 = a.2 * b.2 := by
  unfold prS at h ⊢
  split at h
  · exact absurd h (by decide)
  · rename_i n3
    split at h
    · rename_i z
      rw [if_neg n3, if_pos z]
      exact ⟨z.1, z.2, rfl⟩
    · split at h
      · exact absurd h (by decide)
      · exfalso
        revert h
        show ite _ 1 2 = 0 → False
        split <;> decide
/-- the class gathers the places of two rows -/
theorem gather_loop {kk k1 k2 : Nat} {Q : St → Prop} {σ : St} {place many : Nat} {taken : Int32} {S0 : Int} {E0 : Nat → Int32} (hpm : place + many ≤ 40) (ht : bz taken)
    (d1 : k1 + 1 ≠ kk + 2 ∧ k1 + 2 ≠ kk + 1 ∧ k1 + 3 ≠ kk + 1) (d2 : k2 + 1 ≠ kk + 2 ∧ k2 + 2 ≠ kk + 1 ∧ k2 + 3 ≠ kk + 1)
    (ok1 : ∀ p, place ≤ p → p < place + many → okPl (gI σ (k1 + 3)) (gJ σ (k1 + 1)) (gI σ (k1 + 2)) p) (ok2 : ∀ p, place ≤ p → p < place + many → okPl (gI σ (k2 + 3)) (gJ σ (k2 + 1)) (gI σ (k2 + 2)) p)
    (it : Nat → Nat × Int) (hit : ∀ j, j < many → it j = prS (plA (gI σ (k1 + 3)) (gJ σ (k1 + 1)) (gI σ (k1 + 2)) (place + j)) (plA (gI σ (k2 + 3)) (gJ σ (k2 + 1)) (gI σ (k2 + 2)) (place + j)))
    (h : ∀ L', KV L' (itr (decide (¬ taken = 0)) it many (S0, E0)).1 → Q (wJ (wI σ (kk + 1) (itr (decide (¬ taken = 0)) it many (S0, E0)).2) (kk + 2) L')) :
    ∀ (d j : Nat) (L : Nat → Int64) (E : Nat → Int32), j + d = many → (∀ i, i < 150 → -(4294967296 + (j : Int) * 34359738368) ≤ (L i).toInt ∧ (L i).toInt ≤ 4294967296 + (j : Int) * 34359738368) →
      sm (fun i => (L i).toInt) 150 = (itr (decide (¬ taken = 0)) it j (S0, E0)).1 → E = (itr (decide (¬ taken = 0)) it j (S0, E0)).2 →
      w_X1_gather_3 kk Q (d + 1) k1 k2 (nI place) (nI many) taken (nI (place + j)) (wJ (wI σ (kk + 1) E) (kk + 2) L) := by
  intro d
  induction d with
  | zero =>
    intro j L E hj hL hs hE
    have : j = many := by omega
    subst this
    rw [w_X1_gather_3, nI_add]
    refine ⟨fun _ => ?_, fun q => absurd (Int32.le_refl _) q⟩
    refine s_carry (fun i hi => by have := hL i hi; omega) (fun L' hL' => ?_)
    rw [hs] at hL'
    rw [hE]
    exact h L' hL'
  | succ d ih =>
    intro j L E hj hL hs hE
    rw [w_X1_gather_3, nI_add]
    refine ⟨fun q => ?_, fun _ => ?_⟩
    · have := (nI_leI (a := place + many) (b := place + j) (by omega) (by omega)).mp q
      omega
    · have hp : place + j < 40 := by omega
      have r1 : gJ (wJ (wI σ (kk + 1) E) (kk + 2) L) (k1 + 1) = gJ σ (k1 + 1) := gJ_wJ_ne d1.1
      have r2 : gI (wJ (wI σ (kk + 1) E) (kk + 2) L) (k1 + 2) = gI σ (k1 + 2) := gI_wI_ne d1.2.1
      have r3 : gI (wJ (wI σ (kk + 1) E) (kk + 2) L) (k1 + 3) = gI σ (k1 + 3) := gI_wI_ne d1.2.2
      have t1 : gJ (wJ (wI σ (kk + 1) E) (kk + 2) L) (k2 + 1) = gJ σ (k2 + 1) := gJ_wJ_ne d2.1
      have t2 : gI (wJ (wI σ (kk + 1) E) (kk + 2) L) (k2 + 2) = gI σ (k2 + 2) := gI_wI_ne d2.2.1
      have t3 : gI (wJ (wI σ (kk + 1) E) (kk + 2) L) (k2 + 3) = gI σ (k2 + 3) := gI_wI_ne d2.2.2
      have o1 := ok1 (place + j) (by omega) (by omega)
      have o2 := ok2 (place + j) (by omega) (by omega)
      refine s_sop hp (by rw [r1, r2, r3]; exact o1) (by rw [t1, t2, t3]; exact o2) ?_
      rw [r1, r2, r3, t1, t2, t3, ← hit j (by omega)]
      have hin : vp_in (nI (place + j)) 40 := in_nI hp (by decide)
      have hnx : nI (place + j) + (1 : Int32) = nI (place + (j + 1)) := nI_1 _
      have hr : (it j).1 = 0 ∨ (it j).1 = 1 ∨ (it j).1 = 2 ∨ (it j).1 = 3 := by rw [hit j (by omega)]; exact prS_rng
      have hstep : itr (decide (¬ taken = 0)) it (j + 1) (S0, E0) = stp (decide (¬ taken = 0)) (it j) (itr (decide (¬ taken = 0)) it j (S0, E0)) := rfl
      refine ⟨fun q => ?_, fun q => ?_⟩
      · have hn0 : (it j).1 ≠ 0 := fun z => q (by rw [z]; rfl)
        refine s_meet (by omega) ht ?_
        rintro y5 rfl
        rw [hnx]
        have e1 : wI (wJ (wI σ (kk + 1) E) (kk + 2) L) (kk + 1) (mt (gI (wJ (wI σ (kk + 1) E) (kk + 2) L) (kk + 1)) (widx (it j).1 (decide (¬ taken = 0)))) = wJ (wI σ (kk + 1) (mt E (widx (it j).1 (decide (¬ taken = 0))))) (kk + 2) L := by
          rw [gI_wJ, gI_wI_eq, wI_wJ, wI_wI]
        rw [e1]
        refine ih (j + 1) L _ (by omega) (fun i hi => by have := hL i hi; omega) ?_ ?_
        · rw [hstep]; unfold stp; rw [if_neg hn0]; exact hs
        · rw [hstep]; unfold stp; rw [if_neg hn0, hE]
      · have h0 : (it j).1 = 0 := (nI_eq (by omega) (by decide)).mp (q.trans (show (0 : Int32) = nI 0 from rfl))
        have hz := h0
        rw [hit j (by omega)] at hz
        obtain ⟨a0, b0, hv⟩ := prS_num hz
        obtain ⟨ea, wa, la, ua⟩ := plA_num o1 a0
        obtain ⟨eb, wb, lb_, ub⟩ := plA_num o2 b0
        refine ⟨hin, hin, hin, hin, ?_⟩
        rw [ix_nI (by omega)]
        have hps : (gI σ (k1 + 2) (place + j) + gI σ (k2 + 2) (place + j)).toInt = (gI σ (k1 + 2) (place + j)).toInt + (gI σ (k2 + 2) (place + j)).toInt := i_add (by omega) (by omega)
        refine s_gain (B := 4294967296 + (j : Int) * 34359738368) (at_ := ((gI σ (k1 + 2) (place + j)).toInt + 1074).toNat + ((gI σ (k2 + 2) (place + j)).toInt + 1074).toNat) (by omega) wa wb (by rw [hps]; omega) (by omega) ht hL (fun L' e1 b1 => ?_)
        rintro y11 rfl
        rw [hnx]
        refine ih (j + 1) L' E (by omega) (fun i hi => by have := b1 i hi; omega) ?_ ?_
        · rw [hstep]; unfold stp; rw [if_pos h0, e1, hs]
          have hv2 : (it j).2 = (gJ σ (k1 + 1) (place + j)).toInt * (gJ σ (k2 + 1) (place + j)).toInt * 2 ^ (((gI σ (k1 + 2) (place + j)).toInt + 1074).toNat + ((gI σ (k2 + 2) (place + j)).toInt + 1074).toNat) := by
            rw [hit j (by omega), hv, ea, eb, Int.pow_add]
            generalize (2 : Int) ^ ((gI σ (k1 + 2) (place + j)).toInt + 1074).toNat = X
            generalize (2 : Int) ^ ((gI σ (k2 + 2) (place + j)).toInt + 1074).toNat = Y
            simp only [Int.mul_assoc, Int.mul_left_comm]
          rw [hv2]
        · rw [hstep]; unfold stp; rw [if_pos h0]; exact hE
theorem s_gather {kk k1 k2 : Nat} {Q : St → Prop} {σ : St} {place many : Nat} {taken : Int32} {N : Int} (hpm : place + many ≤ 40) (ht : bz taken)
    (d1 : k1 + 1 ≠ kk + 2 ∧ k1 + 2 ≠ kk + 1 ∧ k1 + 3 ≠ kk + 1) (d2 : k2 + 1 ≠ kk + 2 ∧ k2 + 2 ≠ kk + 1 ∧ k2 + 3 ≠ kk + 1)
    (ok1 : ∀ p, place ≤ p → p < place + many → okPl (gI σ (k1 + 3)) (gJ σ (k1 + 1)) (gI σ (k1 + 2)) p) (ok2 : ∀ p, place ≤ p → p < place + many → okPl (gI σ (k2 + 3)) (gJ σ (k2 + 1)) (gI σ (k2 + 2)) p)
    (it : Nat → Nat × Int) (hit : ∀ j, j < many → it j = prS (plA (gI σ (k1 + 3)) (gJ σ (k1 + 1)) (gI σ (k1 + 2)) (place + j)) (plA (gI σ (k2 + 3)) (gJ σ (k2 + 1)) (gI σ (k2 + 2)) (place + j)))
    (hK : KV (gJ σ (kk + 2)) N) (hN1 : -2 ^ (32 * 149) ≤ N) (hN2 : N < 2 ^ (32 * 149))
    (h : ∀ L', KV L' (itr (decide (¬ taken = 0)) it many (N, gI σ (kk + 1))).1 → Q (wJ (wI σ (kk + 1) (itr (decide (¬ taken = 0)) it many (N, gI σ (kk + 1))).2) (kk + 2) L')) : w_X1_gather kk Q k1 k2 (nI place) (nI many) taken σ := by
  unfold w_X1_gather
  refine ⟨many + 1, ?_⟩
  have e : σ = wJ (wI σ (kk + 1) (gI σ (kk + 1))) (kk + 2) (gJ σ (kk + 2)) := by
    rw [wI_self, wJ_self]
  have key := gather_loop (Q := Q) hpm ht d1 d2 ok1 ok2 it hit h many 0 (gJ σ (kk + 2)) (gI σ (kk + 1)) (by omega) (fun i hi => ?_) (KV_sm hK) rfl
  · rw [← e] at key
    exact key
  · by_cases c : i = 149
    · subst c
      rw [hK.2]
      rcases ilg N 0 with g | g
      · rw [div_m1_of g hN1]; decide
      · rw [div_zero_of g hN2]; decide
    · rw [hK.1 i (by omega)]
      have := dg_rng N i
      omega
