/-! doubles made of a whole and a power: by the reference step by step, by the class at once -/
theorem rn_bl {w k : Nat} (hw : w ≤ 2 ^ 53) (h : bl w + k ≤ 2098) : Rn (w * 2 ^ k) := by
  rcases Nat.lt_or_ge w (2 ^ 53) with g | g
  · rcases Nat.lt_or_ge 2045 k with q | q
    · rcases Nat.eq_zero_or_pos w with z | z
      · rw [z, Nat.zero_mul]; exact rn_zero
      · have e : w * 2 ^ k = (w * 2 ^ (k - 2045)) * 2 ^ 2045 := by
          rw [Nat.mul_assoc, ← Nat.pow_add]; exact congrArg (fun j => w * 2 ^ j) (by omega)
        rw [e]
        refine rn_of ?_ (Nat.le_refl _)
        rw [← bl_le, bl_mulpow z]
        omega
    · exact rn_of g q
  · have e : w = 2 ^ 53 := by omega
    have hb : bl w = 54 := bl_eq (k := 53) g (by omega)
    rw [e, ← Nat.pow_add]
    exact rn_pow (by omega)
theorem made_dn {c : Nat} {s : Bool} {e : Int32} {Q : UInt64 → St → Prop} {σ : St} (he : -1074 ≤ e.toInt) (he0 : e.toInt ≤ 0) (hR : ∀ K, K ≤ 1074 → Rn (c * 2 ^ K)) (h : Q (U s (c * 2 ^ (e.toInt + 1074).toNat)) σ) :
    ∀ (d : Nat) (k : Int32), k.toInt = e.toInt + d → k.toInt ≤ 0 → w_X5_made_27 Q (d + 1) e (U s (c * 2 ^ (k.toInt + 1074).toNat)) k σ := by
  intro d
  induction d with
  | zero =>
    intro k hk hk0
    rw [w_X5_made_27]
    have : k = e := i_ext (by omega)
    subst this
    exact ⟨fun _ => h, fun q => absurd (Int32.le_refl _) q⟩
  | succ d ih =>
    intro k hk hk0
    rw [w_X5_made_27]
    refine ⟨fun q => ?_, fun _ => ?_⟩
    · have := Int32.le_iff_toInt_le.mp q; omega
    · have hk1 : (k + (-1 : Int32)).toInt = k.toInt - 1 := by
        have h1 : (-1 : Int32).toInt = -1 := by decide
        rw [i_add (by omega) (by omega), h1]; omega
      have hm : FP.dmul (U s (c * 2 ^ (k.toInt + 1074).toNat)) (4602678819172646912 : UInt64) = U s (c * 2 ^ ((k + (-1 : Int32)).toInt + 1074).toNat) := by
        rw [u_half, u_mulPow (hR _ (by omega)) (by decide) (r := c * 2 ^ ((k + (-1 : Int32)).toInt + 1074).toNat)]
        rw [Nat.mul_assoc, Nat.mul_assoc, ← Nat.pow_add, ← Nat.pow_add, hk1]
        exact congrArg (fun j => c * 2 ^ j) (by omega)
      refine ⟨by rw [hm]; exact u_vf _ _, ?_⟩
      rintro y2 rfl y3 rfl
      rw [hm]
      exact ih _ (by rw [hk1]; omega) (by rw [hk1]; omega)
theorem made_up {c : Nat} {s : Bool} {e : Int32} {Q : UInt64 → St → Prop} {σ : St} (he : -1074 ≤ e.toInt) (hR : ∀ K, K ≤ 1074 ∨ K ≤ (e.toInt + 1074).toNat → Rn (c * 2 ^ K)) (h : Q (U s (c * 2 ^ (e.toInt + 1074).toNat)) σ) :
    ∀ (d : Nat) (k : Int32), 0 ≤ k.toInt → (k.toInt + d = e.toInt ∨ (d = 0 ∧ k = 0 ∧ e.toInt ≤ 0)) → w_X5_made_6 Q (d + 1) e (U s (c * 2 ^ (k.toInt + 1074).toNat)) k σ := by
  intro d
  induction d with
  | zero =>
    intro k hk hd
    rw [w_X5_made_6]
    refine ⟨fun _ => ?_, fun q => ?_⟩
    · rcases ilg 0 e.toInt with g | g
      · have : k = e := i_ext (by omega)
        subst this
        refine ⟨1, ?_⟩
        rw [w_X5_made_27]
        exact ⟨fun _ => h, fun q => absurd (Int32.le_iff_toInt_le.mpr (by rw [Int32.toInt_zero]; omega)) q⟩
      · have hk0 : k.toInt = 0 := by
          rcases hd with q | ⟨-, q, -⟩
          · omega
          · rw [q]; rfl
        refine ⟨(-e.toInt).toNat + 1, ?_⟩
        rw [hk0]
        have key := made_dn (s := s) he g (fun K hK => hR K (Or.inl hK)) h (-e.toInt).toNat 0 (by rw [Int32.toInt_zero]; omega) (by rw [Int32.toInt_zero]; exact Int.le_refl _)
        rw [Int32.toInt_zero] at key
        exact key
    · exfalso
      refine q (Int32.le_iff_toInt_le.mpr ?_)
      rcases hd with r | ⟨-, r, r2⟩
      · omega
      · rw [r, Int32.toInt_zero]; exact r2
  | succ d ih =>
    intro k hk hd
    have hd : k.toInt + (d + 1 : Nat) = e.toInt := by
      rcases hd with r | ⟨r, -⟩
      · exact r
      · omega
    have hb := ib e
    rw [w_X5_made_6]
    refine ⟨fun q => ?_, fun _ => ?_⟩
    · have := Int32.le_iff_toInt_le.mp q; omega
    · have hk1 : (k + (1 : Int32)).toInt = k.toInt + 1 := by
        have h1 : (1 : Int32).toInt = 1 := by decide
        rw [i_add (by omega) (by omega), h1]
      have hm : FP.dmul (U s (c * 2 ^ (k.toInt + 1074).toNat)) (4611686018427387904 : UInt64) = U s (c * 2 ^ ((k + (1 : Int32)).toInt + 1074).toNat) := by
        rw [u_two, u_mulPow (hR _ (by omega)) (by decide) (r := c * 2 ^ ((k + (1 : Int32)).toInt + 1074).toNat)]
        rw [Nat.mul_assoc, Nat.mul_assoc, ← Nat.pow_add, ← Nat.pow_add, hk1]
        exact congrArg (fun j => c * 2 ^ j) (by omega)
      refine ⟨by rw [hm]; exact u_vf _ _, ?_⟩
      rintro y5 rfl y6 rfl
      rw [hm]
      exact ih _ (by rw [hk1]; omega) (Or.inl (by rw [hk1]; omega))
theorem s_made {m : Int64} {e : Int32} {Q : UInt64 → St → Prop} {σ : St} (he : -1074 ≤ e.toInt) (hc : m.toInt.natAbs ≤ 2 ^ 53) (hb : (bl m.toInt.natAbs : Int) + e.toInt ≤ 1024) (h : Q (U (decide (m.toInt < 0)) (m.toInt.natAbs * 2 ^ (e.toInt + 1074).toNat)) σ) : w_X5_made Q m e σ := by
  unfold w_X5_made
  rintro y1 rfl
  rw [u_l2d]
  have hbl : bl m.toInt.natAbs ≤ 54 := bl_le.mpr (by omega)
  refine ⟨e.toInt.toNat + 1, ?_⟩
  have key := made_up (c := m.toInt.natAbs) (s := decide (m.toInt < 0)) he (fun K hK => rn_bl hc (by rcases hK with g | g <;> omega)) h e.toInt.toNat 0 (by rw [Int32.toInt_zero]; exact Int.le_refl _) (by
    rw [Int32.toInt_zero]
    rcases ilg 0 e.toInt with g | g
    · left; omega
    · right; exact ⟨by omega, rfl, g⟩)
  rw [Int32.toInt_zero] at key
  exact key
/-- what the class's finished() answers -/
def finV (w : Nat) (st : Int) (below : Bool) (way : Int32) (isF : Bool) : UInt64 :=
  if w = 0 then U false 0
  else if (if isF then (128 : Int) else 1024) < (bl w : Int) + st then
    (if way = 0 ∨ way = (if below then 3 else 2) then (if below then dMinf else dInf) else U below (if isF then (2 ^ 24 - 1) * 2 ^ 1178 else (2 ^ 53 - 1) * 2 ^ 2045))
  else U below (w * 2 ^ (st + 1074).toNat)
theorem rn_most : Rn ((2 ^ 53 - 1) * 2 ^ 2045) := rn_of (by decide) (by decide)
theorem rn_mostF : Rn ((2 ^ 24 - 1) * 2 ^ 1178) := rn_of (by decide) (by decide)
theorem fin_91 {x3 : Int32} {v r : UInt64} {Q : UInt64 → St → Prop} {σ : St} (hv : (x3 = 0 → r = v) ∧ (¬ x3 = 0 → r = FP.dneg v)) (h : Q r σ) : w_X4_finished_91 Q x3 v σ := by
  unfold w_X4_finished_91
  exact ⟨fun q => by rw [← hv.1 q]; exact h, fun q => by rw [← hv.2 q]; exact h⟩
theorem s_finished {w : Nat} {st below way isF : Int32} {Q : UInt64 → St → Prop} {σ : St} (hw : w ≤ 2 ^ 53) (h1 : -1074 ≤ st.toInt) (h2 : st.toInt ≤ 100000)
    (h : Q (finV w st.toInt (decide (¬ below = 0)) way (decide (¬ isF = 0))) σ) : w_X4_finished Q (lN w) st below way isF σ := by
  unfold w_X4_finished
  have hbl : bl w ≤ 54 := bl_le.mpr (by omega)
  refine ⟨fun hz => ?_, fun hz => ?_⟩
  · have hw0 : ¬ w = 0 := fun q => hz (by rw [q]; rfl)
    have key : ∀ lim : Int32, lim.toInt = (if decide (¬ isF = 0) then (128 : Int) else 1024) → w_X4_finished_22 Q (lN w) st below way isF lim σ := by
      intro lim hlim
      have hl2 : lim.toInt ≤ 1024 := by rw [hlim]; split <;> decide
      unfold w_X4_finished_22
      refine s_bits (by omega) ?_
      have hsum : (nI (bl w) + st).toInt = (bl w : Int) + st.toInt := by
        have : (nI (bl w)).toInt = (bl w : Int) := nI_toInt (by omega)
        rw [i_add (by omega) (by omega), this]
      unfold finV at h
      rw [if_neg hw0] at h
      refine ⟨fun hc => ?_, fun hc => ?_⟩
      · have hc := Int32.le_iff_toInt_le.mp hc
        rw [hsum, hlim] at hc
        rw [if_neg (by omega)] at h
        have hb1 := bl_pos (Nat.pos_of_ne_zero hw0)
        refine s_power (k := (st.toInt + 1074).toNat) h1 (by omega) (by omega) ?_
        have hl : FP.l2d (lN w) = U false (w * 2 ^ 1074) := by
          rw [u_l2d, pk_lT (by omega)]
          rw [show decide ((w : Int) < 0) = false by simp, Int.natAbs_natCast]
        have hm : FP.dmul (FP.l2d (lN w)) (U false (2 ^ (st.toInt + 1074).toNat)) = U false (w * 2 ^ (st.toInt + 1074).toNat) := by
          rw [hl, u_mulPow (rn_bl hw (by omega)) (by omega) (r := w * 2 ^ (st.toInt + 1074).toNat)]
          rw [Nat.mul_right_comm]
        refine ⟨by rw [hm]; exact u_vf _ _, ?_⟩
        rintro y5 rfl
        rw [hm]
        have hr : Rn (w * 2 ^ (st.toInt + 1074).toNat) := rn_bl hw (by omega)
        refine fin_91 ⟨fun q => ?_, fun q => ?_⟩ h
        · rw [decide_eq_false (fun z => z q)]
        · rw [decide_eq_true q, u_neg _ _ hr]; rfl
      · have hc : lim.toInt < (nI (bl w) + st).toInt := by
          rcases ilg lim.toInt (nI (bl w) + st).toInt with g | g
          · exact g
          · exact absurd (Int32.le_iff_toInt_le.mpr g) hc
        rw [hsum, hlim] at hc
        rw [if_pos hc] at h
        have away : (way = 0 ∨ way = (if decide (¬ below = 0) then 3 else 2)) → w_X4_finished_54 Q below isF σ := by
          intro q
          rw [if_pos q] at h
          unfold w_X4_finished_54 w_X4_finished_59
          refine ⟨fun z => absurd z (by decide), fun _ => ?_⟩
          unfold w_X4_endless w_X4_finished_77
          refine fin_91 ⟨fun q => ?_, fun q => ?_⟩ h
          · rw [decide_eq_false (fun z => z q)]; rfl
          · rw [decide_eq_true q, if_pos rfl]; exact minf_eq.symm
        have toward : ¬ (way = 0 ∨ way = (if decide (¬ below = 0) then 3 else 2)) → w_X4_finished_59 Q below isF 0 σ := by
          intro q
          rw [if_neg q] at h
          unfold w_X4_finished_59
          refine ⟨fun _ => ?_, fun z => absurd rfl z⟩
          unfold w_X4_greatest w_X4_finished_77
          refine ⟨fun z => ?_, fun z => ?_⟩
          · rw [decide_eq_false (p := ¬ isF = 0) (fun y => y z)] at h
            refine fin_91 ⟨fun q => ?_, fun q => ?_⟩ h
            · rw [decide_eq_false (p := ¬ below = 0) (fun z => z q), u_most]; rfl
            · rw [decide_eq_true q, u_most, u_neg _ _ rn_most]; rfl
          · rw [decide_eq_true (p := ¬ isF = 0) z] at h
            refine fin_91 ⟨fun q => ?_, fun q => ?_⟩ h
            · rw [decide_eq_false (p := ¬ below = 0) (fun z => z q), u_mostF]; rfl
            · rw [decide_eq_true q, u_mostF, u_neg _ _ rn_mostF]; rfl
        refine ⟨fun q => away (Or.inl q), fun q => ⟨fun b => ?_, fun b => ?_⟩⟩
        · unfold w_X4_finished_51
          refine ⟨fun z => toward ?_, fun z => away ?_⟩
          · rw [decide_eq_false (fun y => y b)]
            rintro (r | r)
            · exact q r
            · exact z r
          · rw [decide_eq_false (fun y => y b)]
            exact Or.inr z
        · unfold w_X4_finished_51
          refine ⟨fun z => toward ?_, fun z => away ?_⟩
          · rw [decide_eq_true b]
            rintro (r | r)
            · exact q r
            · exact z r
          · rw [decide_eq_true b]
            exact Or.inr z
    refine ⟨fun q => key 1024 ?_, fun q => key 128 ?_⟩
    · rw [decide_eq_false (fun y => y q)]; rfl
    · rw [decide_eq_true q]; rfl
  · have hw0 : w = 0 := by
      have e : lN w = lN 0 := hz
      exact (pk_lEQ (by omega) (by decide)).mp e
    unfold finV at h
    rw [if_pos hw0] at h
    rw [u_zero]; exact h
