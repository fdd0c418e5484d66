/-! what is valid stays valid -/
def LN (A : AS) : Prop := ∀ r, r < 12 → (A.1 r).1 ≠ -1 → (A.1 r).2.1 ≤ 40
theorem RC.ln {A : AS} {σ : St} (h : RC A σ) : LN A := fun r hr g => ((h.1 r hr).2.2 g).2.2.1
def VB : Int := 2 ^ 2098
def PB : Int := 2 ^ 4196
theorem ab {a b : Int} : a.natAbs ≤ b.natAbs → 0 ≤ b → -b ≤ a ∧ a ≤ b := by omega
theorem sg_ab (s : Bool) (n : Nat) : (sg s n).natAbs = n := by cases s <;> simp [sg]
theorem VBn : VB.natAbs = 2 ^ 2098 := by decide +kernel
theorem vb_val {kd : Int} {p : Pl} (h : okP kd p) : (valP kd p).2.natAbs ≤ VB.natAbs := by
  rw [VBn]
  unfold okP at h
  unfold valP
  by_cases c : kd < 4
  · rw [if_pos c] at h ⊢
    show (p.1.toInt * 2 ^ 1074).natAbs ≤ _
    rw [Int.natAbs_mul, show ((2 : Int) ^ 1074).natAbs = 2 ^ 1074 by decide +kernel]
    have := Nat.mul_le_mul_right (2 ^ 1074) (Nat.le_of_lt h)
    exact Nat.le_trans this (by decide +kernel)
  · rw [if_neg c] at h ⊢
    show (if p.2.1 = 0 then dk p.2.2 else 0).natAbs ≤ _
    rcases h with ⟨e, b, n, hn, hp⟩ | ⟨e, _⟩ | ⟨e, _⟩ | ⟨e, _⟩
    · rw [if_pos e, hp, dk_U hn, sg_ab]
      exact Nat.le_of_lt (rn_lt hn)
    · rw [if_neg (by omega)]; exact Nat.zero_le _
    · rw [if_neg (by omega)]; exact Nat.zero_le _
    · rw [if_neg (by omega)]; exact Nat.zero_le _
theorem pb_prS {a b : Nat × Int} (ha : a.2.natAbs ≤ VB.natAbs) (hb : b.2.natAbs ≤ VB.natAbs) : -PB ≤ (prS a b).2 ∧ (prS a b).2 ≤ PB := by
  have hp : (0 : Int) ≤ PB := by decide +kernel
  have z : ∀ n : Nat, -PB ≤ ((n, (0 : Int)) : Nat × Int).2 ∧ ((n, (0 : Int)) : Nat × Int).2 ≤ PB := fun n => ⟨by show -PB ≤ 0; omega, hp⟩
  unfold prS
  split
  · exact z 3
  · split
    · refine ab ?_ hp
      show (a.2 * b.2).natAbs ≤ _
      rw [Int.natAbs_mul]
      refine Nat.le_trans (Nat.mul_le_mul ha hb) ?_
      rw [VBn, show PB.natAbs = 2 ^ 4196 by decide +kernel, ← Nat.pow_add]
      exact Nat.le_refl _
    · split
      · exact z 3
      · split
        · exact z 1
        · exact z 2
theorem one_vb : ((0, 2 ^ 1074) : Nat × Int).2.natAbs ≤ VB.natAbs := by decide +kernel
theorem cnt_mt {E : Nat → Int32} {w : Nat} (h : ∀ w, w < 3 → 0 ≤ (E w).toInt ∧ (E w).toInt ≤ 1000000000) : ∀ v, v < 3 → 0 ≤ (mt E w v).toInt ∧ (mt E w v).toInt ≤ 1000000000 := by
  intro v hv
  unfold mt
  by_cases c : v = w
  · subst c
    rw [upd_eq]
    have := h v hv
    have e : (E v + 1).toInt = (E v).toInt + 1 := by rw [i_add (by rw [t1]; omega) (by rw [t1]; omega), t1]
    split
    · exact ⟨by decide, by decide⟩
    · rename_i q
      rw [cap_lt, e] at q
      omega
  · rw [upd_ne c]; exact h v hv
theorem itr_ok {t : Bool} {it : Nat → Nat × Int} {n : Nat} {s : Int × (Nat → Int32)} (hi : ∀ j, j < n → -PB ≤ (it j).2 ∧ (it j).2 ≤ PB) (hs : ∀ w, w < 3 → 0 ≤ (s.2 w).toInt ∧ (s.2 w).toInt ≤ 1000000000) :
    s.1 - n * PB ≤ (itr t it n s).1 ∧ (itr t it n s).1 ≤ s.1 + n * PB ∧ ∀ w, w < 3 → 0 ≤ ((itr t it n s).2 w).toInt ∧ ((itr t it n s).2 w).toInt ≤ 1000000000 := by
  have hp : (0 : Int) ≤ PB := by decide +kernel
  generalize PB = P at hi hp ⊢
  induction n with
  | zero => exact ⟨by show s.1 - ((0 : Nat) : Int) * P ≤ s.1; rw [Int.natCast_zero, Int.zero_mul]; omega, by show s.1 ≤ s.1 + ((0 : Nat) : Int) * P; rw [Int.natCast_zero, Int.zero_mul]; omega, hs⟩
  | succ n ih =>
    have h := ih (fun j hj => hi j (by omega))
    have hn := hi n (by omega)
    show _ ≤ (stp t (it n) (itr t it n s)).1 ∧ (stp t (it n) (itr t it n s)).1 ≤ _ ∧ _
    have e : ((n + 1 : Nat) : Int) * P = n * P + P := by rw [Int.natCast_add, Int.add_mul]; simp
    rw [e]
    generalize (n : Int) * P = nP at h ⊢
    show _ ∧ _ ∧ ∀ w, w < 3 → 0 ≤ ((stp t (it n) (itr t it n s)).2 w).toInt ∧ ((stp t (it n) (itr t it n s)).2 w).toInt ≤ 1000000000
    unfold stp
    split
    · refine ⟨?_, ?_, h.2.2⟩
      · show _ ≤ (itr t it n s).1 + sgnI t (it n).2
        unfold sgnI; split <;> omega
      · show (itr t it n s).1 + sgnI t (it n).2 ≤ _
        unfold sgnI; split <;> omega
    · refine ⟨?_, ?_, cnt_mt h.2.2⟩
      · show _ ≤ (itr t it n s).1
        omega
      · show (itr t it n s).1 ≤ _
        omega
theorem BB_ge (n : Nat) : (2 : Int) ^ 4203 ≤ BB n := by
  unfold BB
  have h1 : 2 ^ 4203 ≤ 2 ^ (4203 + n) := Nat.pow_le_pow_right (n := 2) (by decide) (by omega)
  have h2 : ((2 ^ 4203 : Nat) : Int) ≤ ((2 ^ (4203 + n) : Nat) : Int) := Int.ofNat_le.mpr h1
  rwa [p2c, p2c] at h2
theorem BB_dbl (n : Nat) : BB (n + 1) = BB n + BB n := by
  unfold BB
  rw [show 4203 + (n + 1) = 4203 + n + 1 by omega, Int.pow_succ]; omega
theorem ok_mono {n : Nat} {K : KpA} (h : okKp (BB n) K) : okKp (BB (n + 1)) K := by
  have := BB_dbl n
  have h0 : 0 ≤ BB n := Int.le_trans (by decide +kernel) (BB_ge n)
  obtain ⟨a, b, c, d, e⟩ := h
  generalize BB n = x at *
  exact ⟨a, b, by omega, by omega, e⟩
theorem OK.up {n : Nat} {A : AS} (h : OK n A) : OK (n + 1) A := ⟨h.1, fun k hk => ok_mono (h.2.1 k hk), fun j e he => ⟨(h.2.2 j e he).1, ok_mono (h.2.2 j e he).2⟩⟩
theorem OK.setR {n r : Nat} {R : RwA} {A : AS} (h : OK n A) (hR : okRow R) : OK n (setR A r R) := by
  refine ⟨fun j hj => ?_, h.2⟩
  show okRow (if j = r then R else A.1 j)
  split
  · exact hR
  · exact h.1 j hj
theorem OK.setK {n k : Nat} {K : KpA} {A : AS} (h : OK n A) (hK : okKp (BB n) K) : OK n (setK A k K) := by
  refine ⟨h.1, fun j hj => ?_, h.2.2⟩
  show okKp _ (if j = k then K else A.2.1 j)
  split
  · exact hK
  · exact h.2.1 j hj
theorem OK.setG {n : Nat} {g : Int32} {A : AS} (h : OK n A) : OK n (setG A g) := h
theorem ok_zero {n : Nat} {kd : Int} (h1 : -1 ≤ kd) (h2 : kd ≤ 2) : okKp (BB n) (zeroK kd) := by
  have h0 : 0 ≤ BB n := Int.le_trans (by decide +kernel) (BB_ge n)
  exact ⟨h1, h2, by show -BB n ≤ 0; omega, h0, fun w _ => ⟨by show 0 ≤ (0 : Int32).toInt; decide, by show (0 : Int32).toInt ≤ 1000000000; decide⟩⟩
theorem ok_gath {n N : Nat} {K : KpA} {t : Bool} {it : Nat → Nat × Int} (h : okKp (BB N) K) (hn : n ≤ 40) (hi : ∀ j, j < n → -PB ≤ (it j).2 ∧ (it j).2 ≤ PB) : okKp (BB (N + 1)) (gathK K t it n) := by
  obtain ⟨a, b, c, d, e⟩ := h
  have g := itr_ok (t := t) (s := (K.2.1, K.2.2)) hi e
  have f := BB_ge N
  have f2 : (n : Int) * PB ≤ 2 ^ 4203 := Int.le_trans (Int.mul_le_mul_of_nonneg_right (Int.ofNat_le.mpr hn) (by decide +kernel)) (by decide +kernel)
  have f3 := BB_dbl N
  refine ⟨a, b, ?_, ?_, g.2.2⟩
  · have g := g.1
    have : (K.2.1, K.2.2).1 = K.2.1 := rfl
    show -BB (N + 1) ≤ (itr t it n (K.2.1, K.2.2)).1
    generalize (itr t it n (K.2.1, K.2.2)).1 = x at *
    generalize (n : Int) * PB = y at *
    generalize (2 : Int) ^ 4203 = z at *
    generalize BB N = u at *
    omega
  · have g := g.2.1
    have : (K.2.1, K.2.2).1 = K.2.1 := rfl
    show (itr t it n (K.2.1, K.2.2)).1 ≤ BB (N + 1)
    generalize (itr t it n (K.2.1, K.2.2)).1 = x at *
    generalize (n : Int) * PB = y at *
    generalize (2 : Int) ^ 4203 = z at *
    generalize BB N = u at *
    omega
theorem add_pb {kd : Int} {R : RwA} {pl n : Nat} (hR : okRow R) (g : R.1 ≠ -1) (h : pl + n ≤ 40) : ∀ j, j < n → -PB ≤ (addIt kd R pl j).2 ∧ (addIt kd R pl j).2 ≤ PB := by
  intro j hj
  have v := vb_val (hR g (pl + j) (by omega))
  unfold addIt
  split
  · exact pb_prS v v
  · exact pb_prS v one_vb
theorem pair_pb {R O : RwA} {pl n : Nat} (hR : okRow R) (g : R.1 ≠ -1) (hO : okRow O) (g2 : O.1 ≠ -1) (h : pl + n ≤ 40) : ∀ j, j < n → -PB ≤ (pairIt R O pl j).2 ∧ (pairIt R O pl j).2 ≤ PB := by
  intro j hj
  exact pb_prS (vb_val (hR g (pl + j) (by omega))) (vb_val (hO g2 (pl + j) (by omega)))
theorem h_err (R : RwA) (pl n : Nat) (hR : okRow R) (g : R.1 ≠ -1) (h : pl + n ≤ 40) : -2 ^ (32 * 149) ≤ (gathK (zeroK 0) false (addIt 0 R pl) n).2.1 ∧ (gathK (zeroK 0) false (addIt 0 R pl) n).2.1 < 2 ^ (32 * 149) :=
  (ok_gath (N := 0) (ok_zero (by decide) (by decide)) (by omega) (add_pb hR g h)).rng (by decide)
theorem nn_plL {kd : Int} {f : Nat → Pl} : ∀ (d i : Nat) (s : UInt64), nn s → (∀ j, j < d → okP kd (f (i + j))) → nn (plL kd f d i s) := by
  intro d
  induction d with
  | zero => intro i s h _; exact h
  | succ d ih =>
    intro i s h hf
    unfold plL
    have h0 := nn_dblP kd _ (hf 0 (by omega))
    rw [Nat.add_zero] at h0
    split
    · exact nn_U _ _
    · rename_i c
      refine ih (i + 1) _ (nn_add h h0 (fun z => c (Or.inr (Or.inl z))) (fun z => c (Or.inr (Or.inr z)))) (fun j hj => ?_)
      rw [show i + 1 + j = i + (j + 1) by omega]
      exact hf (j + 1) (by omega)
theorem vb_valD {d : UInt64} (h : nn d) : (valD d).2.natAbs ≤ VB.natAbs := by
  unfold valD
  split
  · exact Nat.zero_le _
  · rename_i c1
    split
    · exact Nat.zero_le _
    · rename_i c2
      rcases nn_cases h with ⟨s, n, hn, e⟩ | e | e
      · rw [VBn, e, dk_U hn, sg_ab]
        exact Nat.le_of_lt (rn_lt hn)
      · exact absurd e c1
      · exact absurd e c2
theorem ok_err {N pl n : Nat} {R : RwA} (hR : okRow R) (g : R.1 ≠ -1) (h : pl + n ≤ 40) : okKp (BB (N + 1)) (errK R pl n) := by
  have hd : nn (plainD R pl n) := nn_plL n pl _ (nn_U _ _) (fun j hj => hR g (pl + j) (by omega))
  have g1 := itr_ok (t := false) (s := ((zeroK 0).2.1, (zeroK 0).2.2)) (add_pb (kd := 0) hR g h) (fun w _ => ⟨by show 0 ≤ (0 : Int32).toInt; decide, by show (0 : Int32).toInt ≤ 1000000000; decide⟩)
  have g2 := itr_ok (t := true) (n := 1) (it := fun _ => prS (valD (plainD R pl n)) (0, 2 ^ 1074)) (s := ((gathK (zeroK 0) false (addIt 0 R pl) n).2.1, (gathK (zeroK 0) false (addIt 0 R pl) n).2.2)) (fun j _ => pb_prS (vb_valD hd) one_vb) g1.2.2
  have hn : n ≤ 40 := by omega
  have f := BB_ge (N + 1)
  have f2 : (n : Int) * PB ≤ 2 ^ 4203 - ((1 : Nat) : Int) * PB := Int.le_trans (Int.mul_le_mul_of_nonneg_right (Int.ofNat_le.mpr hn) (by decide +kernel)) (by decide +kernel)
  have a1 : (0 : Int) - n * PB ≤ (gathK (zeroK 0) false (addIt 0 R pl) n).2.1 := g1.1
  have a2 : (gathK (zeroK 0) false (addIt 0 R pl) n).2.1 ≤ 0 + n * PB := g1.2.1
  have b1 : (gathK (zeroK 0) false (addIt 0 R pl) n).2.1 - ((1 : Nat) : Int) * PB ≤ (errK R pl n).2.1 := g2.1
  have b2 : (errK R pl n).2.1 ≤ (gathK (zeroK 0) false (addIt 0 R pl) n).2.1 + ((1 : Nat) : Int) * PB := g2.2.1
  refine ⟨by show (-1 : Int) ≤ 0; decide, by show (0 : Int) ≤ 2; decide, ?_, ?_, g2.2.2⟩
  · clear g1 g2
    generalize (errK R pl n).2.1 = x at *
    generalize (gathK (zeroK 0) false (addIt 0 R pl) n).2.1 = x2 at *
    generalize (n : Int) * PB = y at *
    generalize ((1 : Nat) : Int) * PB = y3 at *
    generalize (2 : Int) ^ 4203 = z at *
    generalize BB (N + 1) = u at *
    omega
  · clear g1 g2
    generalize (errK R pl n).2.1 = x at *
    generalize (gathK (zeroK 0) false (addIt 0 R pl) n).2.1 = x2 at *
    generalize (n : Int) * PB = y at *
    generalize ((1 : Nat) : Int) * PB = y3 at *
    generalize (2 : Int) ^ 4203 = z at *
    generalize BB (N + 1) = u at *
    omega
theorem ok_merg {N : Nat} {K O : KpA} (h : okKp (BB N) K) (k : okKp (BB N) O) : okKp (BB (N + 1)) (mergK K O) := by
  have f3 := BB_dbl N
  obtain ⟨a, b, c, d, e⟩ := h
  obtain ⟨a', b', c', d', e'⟩ := k
  refine ⟨a, b, ?_, ?_, fun w hw => ?_⟩
  · show -BB (N + 1) ≤ K.2.1 + O.2.1
    generalize BB N = u at *
    omega
  · show K.2.1 + O.2.1 ≤ BB (N + 1)
    generalize BB N = u at *
    omega
  · have h1 := e w hw
    have h2 := e' w hw
    refine cap_rng ?_
    rw [i_add (by omega) (by omega)]; omega
theorem m8 (x : Int32) : x.toInt8.toInt32.toInt64.toInt.natAbs ≤ 2 ^ 31 := by
  rw [i2l_toInt]
  have := ib x.toInt8.toInt32
  omega
theorem ok_put {kd : Int} {m : Int64} {e : Int32} (h1 : -9007199254740991 ≤ m.toInt ∧ m.toInt ≤ 9007199254740991) (h2 : -1074 ≤ e.toInt ∧ e.toInt ≤ 971) : okP kd (putP kd m e) := by
  have sm : ∀ x : Int32, x.toInt64.toInt.natAbs < 2 ^ 53 := fun x => by
    rw [i2l_toInt]
    have := ib x
    omega
  unfold okP putP
  by_cases c : kd < 4
  · rw [if_pos c]
    split
    · exact sm _
    · split
      · exact sm _
      · split
        · exact sm _
        · split
          · show m.toInt.natAbs < 2 ^ 53
            omega
          · split
            · omega
            · show (0 : Int64).toInt.natAbs < 2 ^ 53
              decide
  · rw [if_neg c, if_neg (by omega), if_neg (by omega), if_neg (by omega), if_neg (by omega)]
    split
    · unfold fltP
      split
      · rename_i q
        by_cases s : m.toInt < 0
        · right; right; left
          rw [if_pos s, if_pos s]; exact ⟨rfl, rfl⟩
        · right; left
          rw [if_neg s, if_neg s]; exact ⟨rfl, rfl⟩
      · rename_i q
        left
        refine ⟨rfl, _, _, ?_, rfl⟩
        by_cases z : fltN m e = 0
        · rw [z, Nat.zero_mul]; exact rn_zero
        · have hb : ¬ 128 < (bl (fltN m e) : Int) + fltW m e := fun y => q ⟨z, y⟩
          have hw : -1074 ≤ fltW m e := by unfold fltW; omega
          refine rn_bl ?_ (by omega)
          have := near_le (w := m.toInt.natAbs) (d := (fltW m e - e.toInt).toNat)
          unfold fltN
          omega
    · left
      refine ⟨rfl, _, _, ?_, rfl⟩
      exact rn_of (by omega) (by omega)
theorem ok_mark {kd : Int} {x : Int32} (hk : ¬ kd < 4) : okP kd (markP kd x) := by
  unfold okP markP
  rw [if_neg hk]
  split
  · exact Or.inr (Or.inl ⟨rfl, rfl⟩)
  · split
    · exact Or.inr (Or.inr (Or.inl ⟨rfl, rfl⟩))
    · split
      · exact Or.inr (Or.inr (Or.inr ⟨rfl, rfl⟩))
      · split
        · exact Or.inl ⟨rfl, _, _, rn_zero, rfl⟩
        · split
          · refine Or.inl ⟨rfl, _, _, ?_, rfl⟩
            split
            · exact rn_mostF
            · exact rn_most
          · refine Or.inl ⟨rfl, _, _, ?_, rfl⟩
            split
            · exact rn_pow (by decide)
            · exact rn_pow (k := 0) (by decide)
theorem ok_zeroP {kd : Int} : okP kd zeroP := by
  unfold okP zeroP
  split
  · show (0 : Int64).toInt.natAbs < 2 ^ 53
    decide
  · exact Or.inl ⟨rfl, _, _, rn_zero, rfl⟩
theorem ok_setP {R : RwA} {p : Nat} {v : Pl} (h : okRow R) (hv : okP R.1 v) : okRow (setP R p v) := by
  intro g q hq
  show okP R.1 (if q = p then v else R.2.2 q)
  split
  · exact hv
  · exact h g q hq
theorem k_row {A : AS} {n : Nat} {x1 x2 x3 : Int32} (h : OK n A) : OK (n + 1) (t_row A x1 x2 x3).2 := by
  unfold t_row
  split
  · split
    · exact h.up.setR (fun _ _ _ => ok_zeroP)
    · exact h.up
  · exact h.up
theorem k_lose {A : AS} {n : Nat} {x1 : Int32} (h : OK n A) : OK (n + 1) (t_lose A x1).2 := by
  unfold t_lose
  split
  · split
    · exact h.up
    · exact h.up.setR (fun g => absurd rfl g)
  · exact h.up
theorem isR_lt {x : Int32} (c : isR x) : ix x < 12 := by rw [ix_toInt]; omega
theorem isK_lt {x : Int32} (c : isK x) : ix x < 6 := by rw [ix_toInt]; omega
theorem k_put {A : AS} {n : Nat} {x1 x2 : Int32} {m : Int64} {e : Int32} (h : OK n A) : OK (n + 1) (t_put A x1 x2 m e).2 := by
  unfold t_put
  split
  · rename_i c
    split
    · exact h.up
    · split
      · exact h.up.setR (ok_setP (h.1 _ (isR_lt c.1)) (ok_put c.2.1 c.2.2))
      · exact h.up
  · exact h.up
theorem k_mark {A : AS} {n : Nat} {x1 x2 x3 : Int32} (h : OK n A) : OK (n + 1) (t_mark A x1 x2 x3).2 := by
  unfold t_mark
  split
  · rename_i c
    split
    · exact h.up
    · split
      · exact h.up
      · split
        · rename_i q _
          exact h.up.setR (ok_setP (h.1 _ (isR_lt c.1)) (ok_mark q))
        · exact h.up
  · exact h.up
theorem k_copy {A : AS} {n : Nat} {x1 x2 x3 x4 x5 : Int32} (h : OK n A) (l : LN A) : OK (n + 1) (t_copy A x1 x2 x3 x4 x5).2 := by
  unfold t_copy
  split
  · rename_i c
    split
    · exact h.up
    · rename_i q
      have q1 : (A.1 (ix x1)).1 ≠ -1 := fun z => q (Or.inl z)
      have q2 : (A.1 (ix x3)).1 ≠ -1 := fun z => q (Or.inr z)
      split
      · rename_i e
        split
        · rename_i a
          refine h.up.setR (fun _ p hp => ?_)
          show okP (A.1 (ix x3)).1 (va_cpy (A.1 (ix x1)).2.2 (A.1 (ix x3)).2.2 (ix x2) (ix x4) (ix x5) p)
          unfold va_cpy
          have l1 := l _ (isR_lt c.1) q1
          split
          · rename_i w
            rw [← e]
            refine h.1 _ (isR_lt c.1) q1 _ ?_
            have := a.1.2.2
            have e2 : (ix x2 : Int) = x2.toInt := by rw [ix_toInt]; have := a.1.2.1; omega
            have e5 : (ix x5 : Int) = x5.toInt := by rw [ix_toInt]; have := a.1.1; omega
            omega
          · exact h.1 _ (isR_lt c.2) q2 p hp
        · exact h.up
      · exact h.up
  · exact h.up
theorem k_keeper {A : AS} {n : Nat} {x1 x2 : Int32} (h : OK n A) : OK (n + 1) (t_keeper A x1 x2).2 := by
  unfold t_keeper
  split
  · rename_i c
    exact ((h.push (isK_lt c.1)).up).setK (ok_zero (by omega) c.2.2)
  · exact h.up
theorem k_clear {A : AS} {n : Nat} {x1 : Int32} (h : OK n A) : OK (n + 1) (t_clear A x1).2 := by
  unfold t_clear
  split
  · rename_i c
    split
    · exact h.up
    · have := h.2.1 _ (isK_lt c)
      exact ((h.push (isK_lt c)).up).setK (ok_zero this.1 this.2.1)
  · exact h.up
theorem k_add {A : AS} {n : Nat} {x1 x2 x3 x4 : Int32} (h : OK n A) (l : LN A) : OK (n + 1) (t_add A x1 x2 x3 x4).2 := by
  unfold t_add
  split
  · rename_i c
    split
    · exact h.up
    · rename_i q
      have q2 : (A.1 (ix x2)).1 ≠ -1 := fun z => q (Or.inr z)
      split
      · exact h.up
      · split
        · rename_i a
          have l1 := l _ (isR_lt c.2.1) q2
          have e3 : (ix x3 : Int) = x3.toInt := by rw [ix_toInt]; have := a.1; omega
          exact (((h.push (isK_lt c.1)).up).setK (ok_gath (h.2.1 _ (isK_lt c.1)) (by omega) (add_pb (h.1 _ (isR_lt c.2.1)) q2 (by have := a.2; omega)))).setG
        · exact h.up
  · exact h.up
theorem k_pair {A : AS} {n : Nat} {x1 x2 x3 x4 x5 : Int32} (h : OK n A) (l : LN A) : OK (n + 1) (t_pair A x1 x2 x3 x4 x5).2 := by
  unfold t_pair
  split
  · rename_i c
    split
    · exact h.up
    · rename_i q
      have q2 : (A.1 (ix x2)).1 ≠ -1 := fun z => q (Or.inr (Or.inl z))
      have q3 : (A.1 (ix x3)).1 ≠ -1 := fun z => q (Or.inr (Or.inr z))
      split
      · exact h.up
      · split
        · rename_i a
          have l1 := l _ (isR_lt c.2.1) q2
          have e3 : (ix x4 : Int) = x4.toInt := by rw [ix_toInt]; have := a.1.1; omega
          exact (((h.push (isK_lt c.1)).up).setK (ok_gath (h.2.1 _ (isK_lt c.1)) (by omega) (pair_pb (h.1 _ (isR_lt c.2.1)) q2 (h.1 _ (isR_lt c.2.2.1)) q3 (by have := a.1.2; omega)))).setG
        · exact h.up
  · exact h.up
theorem k_merge {A : AS} {n : Nat} {x1 x2 : Int32} (h : OK n A) : OK (n + 1) (t_merge A x1 x2).2 := by
  unfold t_merge
  split
  · rename_i c
    split
    · exact h.up
    · split
      · exact ((h.push (isK_lt c.1)).up).setK (ok_merg (h.2.1 _ (isK_lt c.1)) (h.2.1 _ (isK_lt c.2)))
      · exact h.up
  · exact h.up
theorem k_error {A : AS} {n : Nat} {x1 x2 x3 x4 : Int32} (h : OK n A) (l : LN A) : OK (n + 1) (t_error A x1 x2 x3 x4).2 := by
  unfold t_error
  split
  · rename_i c
    split
    · exact h.up
    · rename_i q
      have q2 : (A.1 (ix x2)).1 ≠ -1 := fun z => q (Or.inr z)
      split
      · split
        · rename_i a
          have l1 := l _ (isR_lt c.2.1) q2
          have e3 : (ix x3 : Int) = x3.toInt := by rw [ix_toInt]; have := a.1; omega
          have e4 : (ix x4 : Int) = x4.toInt := by rw [ix_toInt]; have := c.2.2.1; omega
          exact (((h.push (isK_lt c.1)).up).setK (ok_err (h.1 _ (isR_lt c.2.1)) q2 (by have := a.2; omega))).setG
        · exact h.up
      · exact h.up
  · exact h.up
theorem k_undo {A : AS} {n : Nat} (h : OK n A) : OK (n + 1) (t_undo A).2 := by
  unfold t_undo
  cases e : A.2.2.1 with
  | nil => exact h.up
  | cons x t =>
    have h0 := h.2.2 0 x (by rw [e]; rfl)
    refine OK.up ⟨h.1, fun k hk => ?_, fun j y hy => ?_⟩
    · show okKp _ (if k = x.1 then x.2 else A.2.1 k)
      split
      · exact h0.2
      · exact h.2.1 k hk
    · exact h.2.2 (j + 1) y (by rw [e]; exact hy)
def A0 : AS := (fun _ => goneR, fun _ => (-1, 0, fun _ => 0), [], 0)
theorem k_A0 : OK 0 A0 := ⟨fun r _ g => absurd rfl g, fun k _ => ok_zero (by decide) (by decide), fun j e he => absurd he (by simp [A0])⟩
