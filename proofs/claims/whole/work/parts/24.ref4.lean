/-! a place of the reference as sort and value, and one gathered place -/
def okR (σ : St) (r k : Nat) (a : Nat × Int) : Prop :=
  ((gI σ 1 r).toInt < 4 ∧ a.1 = 0 ∧ a.2 = (gJ σ 3 k).toInt * 2 ^ 1074 ∧ (gJ σ 3 k).toInt.natAbs < 2 ^ 53) ∨
  (4 ≤ (gI σ 1 r).toInt ∧ (((a.1 = 1 ∨ a.1 = 2 ∨ a.1 = 3) ∧ gI σ 5 k = nI a.1 ∧ a.2 = 0) ∨ (a.1 = 0 ∧ gI σ 5 k = 0 ∧ ∃ s n, Rn n ∧ gD σ 4 k = U s n ∧ a.2 = sg s n)))
theorem okR.lt {σ : St} {r k : Nat} {a : Nat × Int} (h : okR σ r k a) : a.1 < 4 := by
  rcases h with ⟨-, h, -⟩ | ⟨-, ⟨h, -⟩ | ⟨h, -⟩⟩ <;> omega
theorem okR.fr {σ τ : St} {r k : Nat} {a : Nat × Int} (h : okR σ r k a) (f : Fr [7, 8] σ τ) : okR τ r k a := by
  unfold okR
  rw [f.i (c := 1) (by decide), f.i (c := 5) (by decide), f.j (c := 3) (by decide), f.d (c := 4) (by decide)]
  exact h
theorem s_isReal {r : Nat} {Q : Int32 → St → Prop} {σ : St} (hr : r < 12) (h : Q (if (gI σ 1 r).toInt < 4 then 0 else 1) σ) : w_X5_isReal Q (nI r) σ := by
  unfold w_X5_isReal
  rw [ix_nI (by omega)]
  have h4 : gI σ 1 r < (4 : Int32) ↔ (gI σ 1 r).toInt < 4 := by rw [Int32.lt_iff_toInt_lt]; rfl
  refine ⟨in_nI hr (by decide), fun q => ?_, fun q => ?_⟩
  · rw [if_pos (h4.mp q)] at h; exact h
  · rw [if_neg (fun z => q (h4.mpr z))] at h; exact h
theorem s_sortOfR {r k : Nat} {a : Nat × Int} {Q : Int32 → St → Prop} {σ : St} (hr : r < 12) (hk : k < 480) (ok : okR σ r k a) (h : Q (nI a.1) σ) : w_X5_sortOf Q (nI r) (nI k) σ := by
  unfold w_X5_sortOf
  refine s_isReal hr ?_
  rw [ix_nI (by omega)]
  refine ⟨fun q => ?_, fun q => ⟨in_nI hk (by decide), ?_⟩⟩
  · rcases ok with ⟨g, e, -⟩ | ⟨g, -⟩
    · rw [e] at h; exact h
    · rw [if_neg (by omega)] at q; exact absurd q (by decide)
  · rcases ok with ⟨g, -⟩ | ⟨g, ⟨-, e, -⟩ | ⟨e, e2, -⟩⟩
    · rw [if_pos g] at q; exact absurd rfl q
    · rw [e]; exact h
    · rw [e2]; rw [e] at h; exact h
theorem s_isZeroR {r k : Nat} {a : Nat × Int} {Q : Int32 → St → Prop} {σ : St} (hr : r < 12) (hk : k < 480) (ok : okR σ r k a) (h : Q (if a.1 = 0 ∧ a.2 = 0 then 1 else 0) σ) : w_X5_isZero Q (nI r) (nI k) σ := by
  unfold w_X5_isZero
  refine s_isReal hr ?_
  rw [ix_nI (by omega)]
  refine ⟨fun q => ⟨in_nI hk (by decide), ?_⟩, fun q => ⟨in_nI hk (by decide), ?_⟩⟩
  · rcases ok with ⟨g, e, e2, -⟩ | ⟨g, -⟩
    · have hz : a.2 = 0 ↔ gJ σ 3 k = 0 := by rw [e2, (mulpow_sign _ 1074).2, l_zero]
      refine ⟨fun z => ?_, fun z => ?_⟩
      · rw [if_neg (fun y => z (hz.mp y.2))] at h; exact h
      · rw [if_pos ⟨e, hz.mpr z⟩] at h; exact h
    · rw [if_neg (by omega)] at q; exact absurd q (by decide)
  · rcases ok with ⟨g, -⟩ | ⟨g, ⟨e, e2, -⟩ | ⟨e, e2, s, n, hn, e3, e4⟩⟩
    · rw [if_pos g] at q; exact absurd rfl q
    · have hne : ¬ nI a.1 = 0 := by
        rcases e with e | e | e <;> rw [e] <;> decide
      rw [e2]
      refine ⟨fun _ => ?_, fun z => absurd z hne⟩
      rw [if_neg (by rintro ⟨y, -⟩; omega)] at h; exact h
    · rw [e2, e3]
      have hz : dcmpF (U s n) FP.dconst0 .l = 0 ↔ a.2 = 0 := by
        rw [u_zero, dc_eq (nn_U _ _) (nn_U _ _), dk_U hn, dk_U rn_zero, e4]; rfl
      refine ⟨fun z => absurd rfl z, fun _ => ⟨in_nI hk (by decide), fun z => ?_, fun z => ?_⟩⟩
      · rw [if_neg (fun y => z (hz.mpr y.2))] at h; exact h
      · rw [if_pos ⟨e, hz.mp z⟩] at h; exact h
theorem s_isBelowR {r k : Nat} {a : Nat × Int} {Q : Int32 → St → Prop} {σ : St} (hr : r < 12) (hk : k < 480) (ok : okR σ r k a) (h : Q (if isB a then 1 else 0) σ) : w_X5_isBelow Q (nI r) (nI k) σ := by
  unfold w_X5_isBelow
  refine s_isReal hr ?_
  rw [ix_nI (by omega)]
  have tr : (a.1 = 2 ∨ (a.1 = 0 ∧ a.2 < 0)) → isB a = true := fun z => decide_eq_true z
  have fl : ¬ (a.1 = 2 ∨ (a.1 = 0 ∧ a.2 < 0)) → isB a = false := fun z => decide_eq_false z
  refine ⟨fun q => ⟨in_nI hk (by decide), ?_⟩, fun q => ⟨in_nI hk (by decide), ?_⟩⟩
  · rcases ok with ⟨g, e, e2, -⟩ | ⟨g, -⟩
    · have hz : a.2 < 0 ↔ (gJ σ 3 k).toInt < 0 := by rw [e2, (mulpow_sign _ 1074).1]
      clear e2
      refine ⟨fun z => ?_, fun z => ?_⟩
      · have := l_ge0.mp z
        rw [fl (by rintro (y | ⟨-, y⟩); omega; have := hz.mp y; omega)] at h; exact h
      · have : (gJ σ 3 k).toInt < 0 := by
          rcases ilg (gJ σ 3 k).toInt 0 with y | y
          · exact y
          · exact absurd (l_ge0.mpr y) z
        rw [tr (Or.inr ⟨e, hz.mpr this⟩)] at h; exact h
    · rw [if_neg (by omega)] at q; exact absurd q (by decide)
  · rcases ok with ⟨g, -⟩ | ⟨g, ⟨e, e2, e3⟩ | ⟨e, e2, s, n, hn, e3, e4⟩⟩
    · rw [if_pos g] at q; exact absurd rfl q
    · rw [e2]
      refine ⟨fun z => ?_, fun z => ⟨in_nI hk (by decide), fun y => ?_, fun y => ?_⟩⟩
      · have : a.1 = 2 := by
          rcases e with e | e | e <;> rw [e] at z
          · exact absurd z (by decide)
          · exact e
          · exact absurd z (by decide)
        rw [tr (Or.inl this)] at h; exact h
      · have : ¬ a.1 = 2 := fun x => z (by rw [x]; rfl)
        rw [fl (by rintro (x | ⟨x, -⟩); exact this x; omega)] at h; exact h
      · exfalso
        rcases e with e | e | e <;> rw [e] at y <;> exact absurd y (by decide)
    · rw [e2, e3]
      have hz : 0 ≤ dcmpF (U s n) FP.dconst0 .g ↔ 0 ≤ a.2 := by
        rw [u_zero, dc_ge (nn_U _ _) (nn_U _ _), dk_U hn, dk_U rn_zero, e4]; rfl
      refine ⟨fun z => absurd z (by decide), fun _ => ⟨in_nI hk (by decide), fun z => absurd rfl z, fun _ => ⟨in_nI hk (by decide), fun z => ?_, fun z => ?_⟩⟩⟩
      · have := hz.mp z
        rw [fl (by rintro (y | ⟨-, y⟩) <;> omega)] at h; exact h
      · have : a.2 < 0 := by
          rcases ilg a.2 0 with y | y
          · exact y
          · exact absurd (hz.mpr y) z
        rw [tr (Or.inr ⟨e, this⟩)] at h; exact h
theorem s_apartR {r k : Nat} {a : Nat × Int} {Q : St → Prop} {σ : St} (hr : r < 12) (hk : k < 480) (ok : okR σ r k a) (h0 : a.1 = 0) (h : ∀ σ', Ap σ σ' a.2 → Q σ') : w_X5_apart Q (nI r) (nI k) σ := by
  unfold w_X5_apart
  rintro σ1 rfl
  have hF : Fr [] σ (uI σ 0 17 0) := fr_u (by decide)
  have h17 : gI (uI σ 0 17 0) 0 17 = 0 := by rw [uI_w, gI_wI_eq, upd_eq]
  generalize uI σ 0 17 0 = σ1 at hF h17 ⊢
  refine s_isReal hr ?_
  rw [ix_nI (by omega), hF.i (c := 1) (by decide), hF.j (c := 3) (by decide), hF.d (c := 4) (by decide)]
  refine ⟨fun q => ⟨in_nI hk (by decide), ?_⟩, fun q => ⟨in_nI hk (by decide), ?_⟩⟩
  · rcases ok with ⟨g, -⟩ | ⟨g, ⟨e, -⟩ | ⟨e, e2, s, n, hn, e3, e4⟩⟩
    · rw [if_pos g] at q; exact absurd rfl q
    · omega
    · rw [e3]
      refine s_apart_ hn (fun σ' hA => h σ' ?_)
      rw [e4]
      exact ⟨hF.tr hA.1, hA.2⟩
  · rcases ok with ⟨g, e, e2, e3⟩ | ⟨g, -⟩
    · have hz : a.2 < 0 ↔ (gJ σ 3 k).toInt < 0 := by rw [e2, (mulpow_sign _ 1074).1]
      have hab : (gJ σ 3 k).toInt.natAbs * E74 = a.2.natAbs := by rw [e2, Int.natAbs_mul, Int.natAbs_pow]; rfl
      clear e2
      have key : ∀ b : Int32, (b = 0 ↔ 0 ≤ a.2) → bz b → w_X5_apart_30 Q (nI k) b σ1 := by
        intro b hb hbz
        unfold w_X5_apart_30
        refine ⟨hbz, ?_⟩
        rintro σ7 rfl
        have hF2 : Fr [] σ (uI σ1 0 18 b) := hF.tr (fr_u (by decide))
        have g17 : gI (uI σ1 0 18 b) 0 17 = 0 := by rw [uI_w, gI_wI_eq, upd_ne (by decide), h17]
        have g18 : gI (uI σ1 0 18 b) 0 18 = b := by rw [uI_w, gI_wI_eq, upd_eq]
        generalize uI σ1 0 18 b = σ7 at hF2 g17 g18 ⊢
        rw [ix_nI (by omega), hF2.j (c := 3) (by decide), g18]
        have fin : ∀ w : Int64, w = lN (gJ σ 3 k).toInt.natAbs → w_X5_apart_57 Q w σ7 := by
          rintro w rfl
          unfold w_X5_apart_57
          rintro σ9 rfl
          have f17 : gI (uJ σ7 0 16 (lN (gJ σ 3 k).toInt.natAbs)) 0 17 = 0 := g17
          have f18 : gI (uJ σ7 0 16 (lN (gJ σ 3 k).toInt.natAbs)) 0 18 = b := g18
          refine h _ ⟨hF2.tr fr_uJ, _, e3, by rw [uJ_w, gJ_wJ_eq, updL_eq], ?_, ?_, ?_, ?_⟩
          · rw [f17]; decide
          · rw [f17]; decide
          · rw [f17]; exact hab
          · rw [f18]
            rcases ilg a.2 0 with y | y
            · rw [if_pos y]
              rcases hbz with z | z
              · have := hb.mp z; omega
              · exact z
            · rw [if_neg (by omega)]; exact hb.mpr y
        refine ⟨fun y => ⟨in_nI hk (by decide), fin _ ?_⟩, fun y => ⟨in_nI hk (by decide), fin _ ?_⟩⟩
        · have h1 := hb.mp y
          have h2 : ¬ (gJ σ 3 k).toInt < 0 := fun z => by
            have h3 := hz.mpr z
            omega
          refine l_of ?_ (by omega)
          omega
        · have : (gJ σ 3 k).toInt < 0 := by
            rcases ilg a.2 0 with y2 | y2
            · exact hz.mp y2
            · exact absurd (hb.mpr y2) y
          refine l_of ?_ (by omega)
          rw [l_neg (by omega)]; omega
      refine ⟨fun y => key 0 ?_ (Or.inl rfl), fun y => key 1 ?_ (Or.inr rfl)⟩
      · have := l_ge0.mp y
        refine ⟨fun _ => ?_, fun _ => rfl⟩
        rcases ilg a.2 0 with z | z
        · have := hz.mp z; omega
        · exact z
      · have : ¬ 0 ≤ (gJ σ 3 k).toInt := fun z => y (l_ge0.mpr z)
        refine ⟨fun z => absurd z (by decide), fun z => ?_⟩
        exfalso
        rcases ilg a.2 0 with z2 | z2
        · omega
        · have h2 : (gJ σ 3 k).toInt < 0 := by omega
          have h3 := hz.mpr h2
          omega
    · rw [if_neg (by omega)] at q; exact absurd q (by decide)
