/-! the reference's calls of rows -/
theorem m40x {r : Nat} {x : Int32} (e : x = nI (ix x)) : (40 : Int32) * nI r + x = nI (40 * r + ix x) := by
  have h : (40 : Int32) * nI r + nI (ix x) = nI (40 * r + ix x) := m40'
  rwa [← e] at h
theorem RR.scr {A : AS} {σ τ : St} (h : RR A σ) (f : Fr [] σ τ) : RR A τ := by
  obtain ⟨h1, h2, h3, h4⟩ := h
  refine ⟨fun r hr => ?_, ?_, ?_, ?_⟩
  · unfold RowR
    rw [f.i (c := 1) (by decide), f.i (c := 2) (by decide), f.i (c := 5) (by decide), f.j (c := 3) (by decide), f.d (c := 4) (by decide)]
    exact h1 r hr
  · rw [f.i (c := 6) (by decide), f.i (c := 7) (by decide), f.i (c := 8) (by decide)]
    exact h2
  · unfold HistR
    rw [f.2.2.2.2.1, f.2.2.2.2.2, f.i (c := 9) (by decide), f.i (c := 10) (by decide), f.i (c := 11) (by decide), f.i (c := 12) (by decide)]
    exact h3
  · rw [f.2.2.2.1]; exact h4
theorem RR.thr {A : AS} {σ : St} (h : RR A σ) : RR A (uI σ 0 0 0) := h.scr (fr_u (by decide))
def FrR (r : Nat) (σ τ : St) : Prop := (∀ c, c ≠ 1 → c ≠ 2 → c ≠ 5 → gI τ c = gI σ c) ∧ (∀ j, j ≠ r → gI τ 1 j = gI σ 1 j ∧ gI τ 2 j = gI σ 2 j) ∧ ∀ j, (j < 40 * r ∨ 40 * r + 40 ≤ j) → gI τ 5 j = gI σ 5 j ∧ gJ τ 3 j = gJ σ 3 j ∧ gD τ 4 j = gD σ 4 j
theorem RR.row {A : AS} {σ τ : St} {r : Nat} {R : RwA} (h : RR A σ) (f : FrR r σ τ) (hR : RowR τ r R) : RR (setR A r R) τ := by
  obtain ⟨h1, h2, h3, h4⟩ := h
  refine ⟨fun j hj => ?_, ?_, ?_, ?_⟩
  · show RowR τ j (if j = r then R else A.1 j)
    by_cases c : j = r
    · rw [if_pos c, c]; exact hR
    · rw [if_neg c]
      have a := h1 j hj
      unfold RowR at a ⊢
      rw [(f.2.1 j c).1, (f.2.1 j c).2]
      refine ⟨a.1, fun g => ⟨(a.2 g).1, (a.2 g).2.1, (a.2 g).2.2.1, (a.2 g).2.2.2.1, fun p hp => ?_⟩⟩
      obtain ⟨e1, e2, e3⟩ := f.2.2 (40 * j + p) (by omega)
      rw [e1, e2, e3]
      exact (a.2 g).2.2.2.2 p hp
  · rw [f.1 6 (by decide) (by decide) (by decide), f.1 7 (by decide) (by decide) (by decide), f.1 8 (by decide) (by decide) (by decide)]
    exact h2
  · unfold HistR
    rw [f.1 0 (by decide) (by decide) (by decide), f.1 9 (by decide) (by decide) (by decide), f.1 10 (by decide) (by decide) (by decide), f.1 11 (by decide) (by decide) (by decide), f.1 12 (by decide) (by decide) (by decide)]
    exact h3
  · rw [f.1 0 (by decide) (by decide) (by decide)]; exact h4
theorem s_in {v lo hi : Int64} {Q : Int32 → St → Prop} {σ : St} (h1 : lo.toInt ≤ v.toInt ∧ v.toInt ≤ hi.toInt → Q 1 σ) (h0 : ¬ (lo.toInt ≤ v.toInt ∧ v.toInt ≤ hi.toInt) → Q 0 σ) : w_X5_in Q v lo hi σ := by
  unfold w_X5_in
  refine ⟨fun q => h0 ?_, fun q => ⟨fun q2 => h0 ?_, fun q2 => h1 ?_⟩⟩
  · rw [l_lt] at q; omega
  · rw [l_lt] at q2; omega
  · rw [l_lt] at q q2; omega
theorem bz1 : bz (1 : Int32) := Or.inr rfl
theorem bz0 : bz (0 : Int32) := Or.inl rfl
theorem s_isRowR {x : Int32} {Q : Int32 → St → Prop} {σ : St} (h1 : isR x → Q 1 σ) (h0 : ¬ isR x → Q 0 σ) : w_X5_isRow Q x σ := by
  unfold w_X5_isRow
  have c0 : (0 : Int64).toInt = 0 := by decide
  have c11 : (11 : Int64).toInt = 11 := by decide
  refine s_in (fun q => ⟨bz1, h1 ?_⟩) (fun q => ⟨bz0, h0 ?_⟩)
  · rw [i2l_toInt, c0, c11] at q; constructor <;> omega
  · rw [i2l_toInt, c0, c11] at q; rintro ⟨a, b⟩; omega
theorem s_isKeeperR {x : Int32} {Q : Int32 → St → Prop} {σ : St} (h1 : isK x → Q 1 σ) (h0 : ¬ isK x → Q 0 σ) : w_X5_isKeeper Q x σ := by
  unfold w_X5_isKeeper
  have c0 : (0 : Int64).toInt = 0 := by decide
  have c5 : (5 : Int64).toInt = 5 := by decide
  refine s_in (fun q => ⟨bz1, h1 ?_⟩) (fun q => ⟨bz0, h0 ?_⟩)
  · rw [i2l_toInt, c0, c5] at q; constructor <;> omega
  · rw [i2l_toInt, c0, c5] at q; rintro ⟨a, b⟩; omega
theorem gm1 {x : Int32} {v : Int} (h : x.toInt = v) : x = -1 ↔ v = -1 := by
  rw [← h]
  exact ⟨fun q => by rw [q]; rfl, fun q => i_ext q⟩
theorem s_isThereR {r : Nat} {R : RwA} {Q : Int32 → St → Prop} {σ : St} (hr : r < 12) (hR : RowR σ r R) (h1 : R.1 ≠ -1 → Q 1 σ) (h0 : R.1 = -1 → Q 0 σ) : w_X5_isThere Q (nI r) σ := by
  unfold w_X5_isThere
  rw [ix_nI (by omega)]
  exact ⟨in_nI hr (by decide), fun q => h0 ((gm1 hR.1).mp q), fun q => h1 (fun z => q ((gm1 hR.1).mpr z))⟩
theorem s_isRealR {r : Nat} {R : RwA} {Q : Int32 → St → Prop} {σ : St} (hr : r < 12) (hR : RowR σ r R) (h1 : ¬ R.1 < 4 → Q 1 σ) (h0 : R.1 < 4 → Q 0 σ) : w_X5_isReal Q (nI r) σ := by
  refine s_isReal hr ?_
  rw [hR.1]
  by_cases c : R.1 < 4
  · rw [if_pos c]; exact h0 c
  · rw [if_neg c]; exact h1 c
theorem s_isPlaceR {r : Nat} {R : RwA} {x : Int32} {Q : Int32 → St → Prop} {σ : St} (hr : r < 12) (hn : R.2.1 ≤ 40) (hg : gI σ 2 r = nI R.2.1) (h1 : isPl R x → Q 1 σ) (h0 : ¬ isPl R x → Q 0 σ) : w_X5_isPlace Q (nI r) x σ := by
  unfold w_X5_isPlace
  rw [ix_nI (by omega), hg]
  have e1 : (nI R.2.1).toInt = (R.2.1 : Int) := nI_toInt (by omega)
  have e2 : (nI R.2.1 - 1).toInt = (R.2.1 : Int) - 1 := by rw [i_sub (by rw [t1]; omega) (by rw [t1]; omega), e1, t1]
  have c0 : (0 : Int64).toInt = 0 := by decide
  refine ⟨in_nI hr (by decide), s_in (fun q => ⟨bz1, h1 ?_⟩) (fun q => ⟨bz0, h0 ?_⟩)⟩
  · rw [i2l_toInt, i2l_toInt, c0, e2] at q; constructor <;> omega
  · rw [i2l_toInt, i2l_toInt, c0, e2] at q; rintro ⟨a, b⟩; omega
theorem s_arePlacesR {r : Nat} {R : RwA} {x n : Int32} {Q : Int32 → St → Prop} {σ : St} (hr : r < 12) (hn : R.2.1 ≤ 40) (hg : gI σ 2 r = nI R.2.1) (h1 : arePl R x n → Q 1 σ) (h0 : ¬ arePl R x n → Q 0 σ) : w_X5_arePlaces Q (nI r) x n σ := by
  unfold w_X5_arePlaces
  rw [ix_nI (by omega), hg]
  have e1 : (nI R.2.1).toInt = (R.2.1 : Int) := nI_toInt (by omega)
  have c0 : (0 : Int64).toInt = 0 := by decide
  refine ⟨in_nI hr (by decide), s_in (fun q => ⟨fun z => absurd z n10, fun _ => ⟨in_nI hr (by decide), ?_⟩⟩) (fun q => ⟨fun _ => h0 ?_, fun z => absurd rfl z⟩)⟩
  · rw [i2l_toInt, i2l_toInt, c0, e1] at q
    rw [hg]
    have e2 : (nI R.2.1 - n).toInt = (R.2.1 : Int) - n.toInt := by rw [i_sub (by omega) (by omega), e1]
    refine s_in (fun q2 => ⟨fun z => absurd z n10, fun _ => h1 ?_⟩) (fun q2 => ⟨fun _ => h0 ?_, fun z => absurd rfl z⟩)
    · rw [i2l_toInt, i2l_toInt, c0, e2] at q2; refine ⟨?_, ?_, ?_⟩ <;> omega
    · rw [i2l_toInt, i2l_toInt, c0, e2] at q2; rintro ⟨a, b, c⟩; omega
  · rw [i2l_toInt, i2l_toInt, c0, e1] at q; rintro ⟨a, b, c⟩; omega
/-- the three rows of places, replaced -/
def sR (σ : St) (F : Nat → Int64) (G : Nat → UInt64) (H : Nat → Int32) : St := wI (wD (wJ σ 3 F) 4 G) 5 H
theorem sR_J {σ : St} {F : Nat → Int64} {G : Nat → UInt64} {H : Nat → Int32} {k : Nat} {v : Int64} : uJ (sR σ F G H) 3 k v = sR σ (vp_updL F k v) G H := by
  rw [uJ_w]
  unfold sR
  have e : gJ (wI (wD (wJ σ 3 F) 4 G) 5 H) 3 = F := by rw [gJ_wI, gJ_wD, gJ_wJ_eq]
  rw [e]
  refine st_ext rfl ?_ rfl
  funext a b
  rw [gJ_wJ, gJ_wI, gJ_wD, gJ_wI, gJ_wD, gJ_wJ, gJ_wJ]
  by_cases c : a = 3
  · rw [if_pos c, if_pos c]
  · rw [if_neg c, if_neg c, if_neg c]
theorem sR_D {σ : St} {F : Nat → Int64} {G : Nat → UInt64} {H : Nat → Int32} {k : Nat} {v : UInt64} : uD (sR σ F G H) 4 k v = sR σ F (vf_upd G k v) H := by
  rw [uD_w]
  unfold sR
  have e : gD (wI (wD (wJ σ 3 F) 4 G) 5 H) 4 = G := by rw [gD_wI, gD_wD_eq]
  rw [e, ← wI_wD, wD_wD]
theorem sR_I {σ : St} {F : Nat → Int64} {G : Nat → UInt64} {H : Nat → Int32} {k : Nat} {v : Int32} : uI (sR σ F G H) 5 k v = sR σ F G (upd H k v) := by
  rw [uI_w]
  unfold sR
  rw [gI_wI_eq, wI_wI]
theorem sR_self (σ : St) : sR σ (gJ σ 3) (gD σ 4) (gI σ 5) = σ := by
  unfold sR
  refine st_ext ?_ ?_ ?_
  · rw [show gI σ 5 = gI (wD (wJ σ 3 (gJ σ 3)) 4 (gD σ 4)) 5 from rfl, wI_self]; rfl
  · rw [gJ_wI, gJ_wD, wJ_self]
  · funext a b
    rw [gD_wI, gD_wD]
    by_cases c : a = 4
    · rw [if_pos c, c]
    · rw [if_neg c]; rfl
theorem sR_3 {σ : St} {F : Nat → Int64} {G : Nat → UInt64} {H : Nat → Int32} : gJ (sR σ F G H) 3 = F := by unfold sR; rw [gJ_wI, gJ_wD, gJ_wJ_eq]
theorem sR_4 {σ : St} {F : Nat → Int64} {G : Nat → UInt64} {H : Nat → Int32} : gD (sR σ F G H) 4 = G := by unfold sR; rw [gD_wI, gD_wD_eq]
theorem sR_5 {σ : St} {F : Nat → Int64} {G : Nat → UInt64} {H : Nat → Int32} : gI (sR σ F G H) 5 = H := by unfold sR; rw [gI_wI_eq]
theorem sR_i {σ : St} {F : Nat → Int64} {G : Nat → UInt64} {H : Nat → Int32} {c : Nat} (h : c ≠ 5) : gI (sR σ F G H) c = gI σ c := by unfold sR; rw [gI_wI_ne h]; rfl
theorem vfu_eq {α : Type} {f : Nat → α} {k : Nat} {x : α} : vf_upd f k x k = x := if_pos rfl
theorem vfu_ne {α : Type} {f : Nat → α} {k j : Nat} {x : α} (h : j ≠ k) : vf_upd f k x j = f j := if_neg h
/-- one place of a row of the reference -/
def FrP (k : Nat) (σ τ : St) : Prop := (∀ c, c ≠ 5 → gI τ c = gI σ c) ∧ ∀ j, j ≠ k → gI τ 5 j = gI σ 5 j ∧ gJ τ 3 j = gJ σ 3 j ∧ gD τ 4 j = gD σ 4 j
theorem RR.put {A : AS} {σ τ : St} {r p : Nat} {v : Pl} (h : RR A σ) (hr : r < 12) (hp : p < 40) (h1 : (A.1 r).1 ≠ -1) (f : FrP (40 * r + p) σ τ) (hv : PlR (A.1 r).1 (gJ τ 3 (40 * r + p)) (gI τ 5 (40 * r + p)) (gD τ 4 (40 * r + p)) v) : RR (setR A r (setP (A.1 r) p v)) τ := by
  have a := h.1 r hr
  refine h.row ⟨fun c _ _ h5 => f.1 c h5, fun j _ => ⟨by rw [f.1 1 (by decide)], by rw [f.1 2 (by decide)]⟩, fun j hj => f.2 j (by omega)⟩ ?_
  unfold RowR setP
  rw [f.1 1 (by decide), f.1 2 (by decide)]
  obtain ⟨b1, b2, b3, b4, b5⟩ := a.2 h1
  refine ⟨a.1, fun _ => ⟨b1, b2, b3, b4, fun q hq => ?_⟩⟩
  show PlR (A.1 r).1 _ _ _ (if q = p then v else (A.1 r).2.2 q)
  by_cases c : q = p
  · subst c
    rw [if_pos rfl]; exact hv
  · rw [if_neg c]
    obtain ⟨e1, e2, e3⟩ := f.2 (40 * r + q) (by omega)
    rw [e1, e2, e3]
    exact b5 q hq
theorem s_rowR {A : AS} {x1 x2 x3 : Int32} {Q : Int32 → St → Prop} {σ : St} (hR : RR A σ) (h : ∀ σ', RR (t_row A x1 x2 x3).2 σ' → Q (t_row A x1 x2 x3).1 σ') : w_X5_row Q x1 x2 x3 σ := by
  unfold w_X5_row
  unfold t_row at h
  rintro σ1 rfl
  have hR := hR.thr
  generalize uI σ 0 0 0 = σ at hR ⊢
  have bad : ¬ (isR x1 ∧ (0 ≤ x2.toInt ∧ x2.toInt ≤ 5) ∧ x3.toInt ≤ 40) → Q (-3) σ := by
    intro c
    rw [if_neg c] at h
    exact h σ hR
  have c0 : (0 : Int64).toInt = 0 := by decide
  have c5 : (5 : Int64).toInt = 5 := by decide
  refine s_isRowR (fun c1 => ⟨fun z => absurd z n10, fun _ => s_in (fun q => ⟨fun z => absurd z n10, fun _ => ⟨fun q3 => ⟨fun q4 => ?_, fun q4 => ?_⟩, fun q3 => bad ?_⟩⟩) (fun q => ⟨fun _ => bad ?_, fun z => absurd rfl z⟩)⟩) (fun c1 => ⟨fun _ => bad (fun z => c1 z.1), fun z => absurd rfl z⟩)
  · rw [i2l_toInt, c0, c5] at q; rw [i_le, k40] at q3
    have q4' := i_ge0.mp q4
    rw [if_pos ⟨c1, q, q3⟩, if_pos q4'] at h
    obtain ⟨e1, l1⟩ := isR_nI c1
    obtain ⟨e3, l3, -⟩ := pos_nI q4' q3 (by decide)
    have hin : vp_in x1 12 := by rw [e1]; exact in_nI l1 (by decide)
    refine ⟨hin, ?_⟩
    rintro σ7 rfl
    refine ⟨hin, ?_⟩
    rintro σ9 rfl y10 rfl
    generalize hr : ix x1 = r at *
    generalize hτ : uI (uI σ 1 r x2) 2 r x3 = τ
    have g1 : gI τ 1 = upd (gI σ 1) r x2 := by rw [← hτ, uI_w, gI_wI_ne (by decide), uI_w, gI_wI_eq]
    have g2 : gI τ 2 = upd (gI σ 2) r x3 := by rw [← hτ, uI_w, gI_wI_eq, uI_w, gI_wI_ne (by decide)]
    have gi : ∀ c, c ≠ 1 → c ≠ 2 → gI τ c = gI σ c := fun c a b => by rw [← hτ, uI_w, gI_wI_ne b, uI_w, gI_wI_ne a]
    have gj : gJ τ = gJ σ := by rw [← hτ]; rfl
    have gd : gD τ = gD σ := by rw [← hτ]; rfl
    have m1 : (40 : Int32) * x1 = nI (40 * r) := by rw [e1, show (40 : Int32) = nI 40 from rfl, pk_mul]
    have m2 : (40 : Int32) * x1 + 40 = nI (40 * r + 40) := by rw [m1]; exact nI_add _ 40
    have loop : ∀ (d i : Nat) (F : Nat → Int64) (G : Nat → UInt64) (H : Nat → Int32), i + d = 40 → (∀ j, 40 * r ≤ j → j < 40 * r + i → F j = 0 ∧ G j = U false 0 ∧ H j = 0) → (∀ j, (j < 40 * r ∨ 40 * r + i ≤ j) → F j = gJ σ 3 j ∧ G j = gD σ 4 j ∧ H j = gI σ 5 j) →
        w_X5_row_60 Q (d + 1) x1 x3 (nI (40 * r + i)) (sR τ F G H) := by
      intro d
      induction d with
      | zero =>
        intro i F G H hi ha hb
        have : i = 40 := by omega
        subst this
        rw [w_X5_row_60, m2]
        refine ⟨fun _ => h _ (hR.row ⟨fun c a b d => by rw [sR_i d, gi c a b], fun j hj => ?_, fun j hj => ?_⟩ ?_), fun q => absurd (Int32.le_refl _) q⟩
        · rw [sR_i (by decide), sR_i (by decide), g1, g2, upd_ne hj, upd_ne hj]; exact ⟨rfl, rfl⟩
        · rw [sR_3, sR_4, sR_5]
          obtain ⟨a1, a2, a3⟩ := hb j hj
          exact ⟨a3, a1, a2⟩
        · unfold RowR newRow
          rw [sR_i (by decide), sR_i (by decide), g1, g2, upd_eq, upd_eq, sR_3, sR_4, sR_5]
          refine ⟨rfl, fun _ => ⟨q.1, q.2, l3, e3, fun p hp => ?_⟩⟩
          obtain ⟨a1, a2, a3⟩ := ha (40 * r + p) (by omega) (by omega)
          rw [a1, a2, a3]
          unfold PlR
          split
          · rfl
          · exact ⟨rfl, fun _ => rfl⟩
      | succ d ih =>
        intro i F G H hi ha hb
        have hin2 : vp_in (nI (40 * r + i)) 480 := in_nI (by omega) (by decide)
        rw [w_X5_row_60, m2]
        refine ⟨fun q => ?_, fun _ => ⟨hin2, ?_⟩⟩
        · have := (nI_leI (a := 40 * r + 40) (b := 40 * r + i) (by omega) (by omega)).mp q
          omega
        · rintro σ12 rfl
          refine ⟨hin2, ?_⟩
          rintro σ14 rfl
          refine ⟨hin2, ?_⟩
          rintro σ16 rfl y17 rfl
          rw [nI_1, ix_nI (by omega), sR_J, sR_D, sR_I]
          refine ih (i + 1) _ _ _ (by omega) (fun j hj hj2 => ?_) (fun j hj => ?_)
          · by_cases c : j = 40 * r + i
            · rw [c, updL_eq, vfu_eq, upd_eq]; exact ⟨rfl, u_zero, rfl⟩
            · rw [updL_ne c, vfu_ne c, upd_ne c]; exact ha j hj (by omega)
          · have c : j ≠ 40 * r + i := by omega
            rw [updL_ne c, vfu_ne c, upd_ne c]; exact hb j (by omega)
    have key := loop 40 0 (gJ τ 3) (gD τ 4) (gI τ 5) (by omega) (fun j _ _ => by omega) (fun j _ => by rw [gj, gd, gi 5 (by decide) (by decide)]; exact ⟨rfl, rfl, rfl⟩)
    rw [sR_self, Nat.add_zero] at key
    rw [m1]
    exact ⟨41, key⟩
  · rw [i2l_toInt, c0, c5] at q; rw [i_le, k40] at q3
    rw [if_pos ⟨c1, q, q3⟩, if_neg (fun z => q4 (i_ge0.mpr z))] at h
    exact h σ hR
  · rw [i_le, k40] at q3; rintro ⟨-, -, a⟩; exact q3 a
  · rw [i2l_toInt, c0, c5] at q; rintro ⟨-, a, -⟩; exact q a
theorem s_loseR {A : AS} {x1 : Int32} {Q : Int32 → St → Prop} {σ : St} (hR : RR A σ) (h : ∀ σ', RR (t_lose A x1).2 σ' → Q (t_lose A x1).1 σ') : w_X5_lose Q x1 σ := by
  unfold w_X5_lose
  unfold t_lose at h
  rintro σ1 rfl
  have hR := hR.thr
  generalize uI σ 0 0 0 = σ at hR ⊢
  refine s_isRowR (fun c1 => ⟨fun _ => ?_, fun z => absurd z n10⟩) (fun c1 => ⟨fun z => absurd rfl z, fun _ => ?_⟩)
  · rw [if_pos c1] at h
    obtain ⟨e1, l1⟩ := isR_nI c1
    have hr := hR.1 _ l1
    have hin : vp_in x1 12 := by rw [e1]; exact in_nI l1 (by decide)
    rw [e1]
    refine s_isThereR l1 hr (fun g => ⟨fun _ => ?_, fun z => absurd z n10⟩) (fun g => ⟨fun z => absurd rfl z, fun _ => ?_⟩)
    · rw [if_neg g] at h
      rw [← e1]
      refine ⟨hin, ?_⟩
      rintro σ7 rfl
      refine ⟨hin, ?_⟩
      rintro y9 rfl
      refine ⟨hin, ?_⟩
      rintro σ11 rfl
      have e2 : gI (uI σ 1 (ix x1) (-1)) 2 (ix x1) = nI (A.1 (ix x1)).2.1 := by
        rw [uI_w, gI_wI_ne (by decide)]; exact (hr.2 g).2.2.2.1
      rw [e2]
      have g1 : gI (uI (uI σ 1 (ix x1) (-1)) 2 (ix x1) 0) 1 = upd (gI σ 1) (ix x1) (-1) := by rw [uI_w, gI_wI_ne (by decide), uI_w, gI_wI_eq]
      have g2 : gI (uI (uI σ 1 (ix x1) (-1)) 2 (ix x1) 0) 2 = upd (gI σ 2) (ix x1) 0 := by rw [uI_w, gI_wI_eq, uI_w, gI_wI_ne (by decide)]
      refine h _ (hR.row ⟨fun c a b d => by rw [uI_w, gI_wI_ne b, uI_w, gI_wI_ne a], fun j hj => ?_, fun j hj => ⟨?_, rfl, rfl⟩⟩ ⟨?_, fun z => absurd rfl z⟩)
      · rw [g1, g2, upd_ne hj, upd_ne hj]; exact ⟨rfl, rfl⟩
      · rw [uI_w, gI_wI_ne (by decide), uI_w, gI_wI_ne (by decide)]
      · rw [g1, upd_eq]; rfl
    · rw [if_pos g] at h
      exact h σ hR
  · rw [if_neg c1] at h
    exact h σ hR
theorem s_lookR {A : AS} {x1 x2 x3 : Int32} {Q : Int64 → St → Prop} {σ : St} (hR : RR A σ) (h : ∀ σ', RR A σ' → Q (t_look A x1 x2 x3) σ') : w_X5_look Q x1 x2 x3 σ := by
  unfold w_X5_look
  unfold t_look at h
  rintro σ1 rfl
  have hR := hR.thr
  generalize uI σ 0 0 0 = σ at hR ⊢
  have h := h σ hR
  have bad : ¬ (isR x1 ∧ (0 ≤ x2.toInt ∧ x2.toInt ≤ 3)) → Q (-3) σ := by
    intro c
    rw [if_neg c] at h
    exact h
  have c0 : (0 : Int64).toInt = 0 := by decide
  have c3 : (3 : Int64).toInt = 3 := by decide
  refine s_isRowR (fun c1 => ⟨fun z => absurd z n10, fun _ => s_in (fun q => ⟨fun _ => ?_, fun z => absurd z n10⟩) (fun q => ⟨fun z => absurd rfl z, fun _ => bad ?_⟩)⟩) (fun c1 => ⟨fun _ => bad (fun z => c1 z.1), fun z => absurd rfl z⟩)
  · rw [i2l_toInt, c0, c3] at q
    rw [if_pos ⟨c1, q⟩] at h
    obtain ⟨e1, l1⟩ := isR_nI c1
    have hr := hR.1 _ l1
    have hin : vp_in x1 12 := by rw [e1]; exact in_nI l1 (by decide)
    rw [e1]
    refine s_isThereR l1 hr (fun g => ⟨fun _ => ?_, fun z => absurd z n10⟩) (fun g => ⟨fun z => absurd rfl z, fun _ => by rw [if_pos g] at h; exact h⟩)
    rw [if_neg g] at h
    obtain ⟨r1, r2, r3, r4, r5⟩ := hr.2 g
    rw [← e1]
    refine ⟨hin, fun q3 => ?_, fun q3 => ?_⟩
    · have ek : (A.1 (ix x1)).1 = x2.toInt := by rw [← hr.1, q3]
      rw [if_pos ek] at h
      rw [e1]
      refine s_isPlaceR l1 r3 r4 (fun c3 => ⟨fun z => absurd z n10, fun _ => ?_⟩) (fun c3 => ⟨fun _ => by rw [if_neg c3] at h; exact h, fun z => absurd rfl z⟩)
      rw [if_pos c3] at h
      obtain ⟨e3, l3, i3⟩ := pos_nI c3.1 (n := 40) (by have := c3.2; omega) (by decide)
      have hp : ix x3 < 40 := by have := c3.2; omega
      have ek2 : (40 : Int32) * nI (ix x1) + x3 = nI (40 * ix x1 + ix x3) := m40x e3
      rw [ek2, ix_nI (by omega)]
      refine ⟨in_nI (by omega) (by decide), ?_⟩
      have hv := r5 _ hp
      unfold PlR at hv
      rw [if_pos (by omega)] at hv
      rw [hv]; exact h
    · rw [if_neg (fun z => q3 (i_ext (hr.1.trans z)))] at h; exact h
  · rw [i2l_toInt, c0, c3] at q; rintro ⟨-, a⟩; exact q a
theorem s_valueOf {r p : Nat} {R : RwA} {Q : UInt64 → St → Prop} {σ : St} (hr : r < 12) (hp : p < 40) (hR : RowR σ r R) (g : R.1 ≠ -1) (ho : okP R.1 (R.2.2 p)) (h : Q (dblP R.1 (R.2.2 p)) σ) : w_X5_valueOf Q (nI r) (nI (40 * r + p)) σ := by
  unfold w_X5_valueOf
  have hin : vp_in (nI (40 * r + p)) 480 := in_nI (by omega) (by decide)
  have hv := (hR.2 g).2.2.2.2 p hp
  unfold PlR at hv
  unfold okP at ho
  unfold dblP at h
  refine s_isRealR hr hR (fun c => ⟨fun _ => ?_, fun z => absurd z n10⟩) (fun c => ⟨fun z => absurd rfl z, fun _ => ?_⟩)
  · rw [if_neg c] at hv ho h
    rw [ix_nI (by omega), hv.1]
    rcases ho with ⟨z, -⟩ | ⟨z, w⟩ | ⟨z, w⟩ | ⟨z, w⟩ <;> rw [z]
    · rw [← hv.2 (Or.inl z)] at h
      exact ⟨hin, fun _ => ⟨hin, fun _ => ⟨hin, h⟩, fun q => absurd q (by decide)⟩, fun q => absurd q (by decide)⟩
    · rw [w] at h
      exact ⟨hin, fun q => absurd rfl q, fun _ => h⟩
    · rw [w] at h
      exact ⟨hin, fun _ => ⟨hin, fun q => absurd rfl q, fun _ => h⟩, fun q => absurd q (by decide)⟩
    · rw [← hv.2 (Or.inr z)] at h
      exact ⟨hin, fun _ => ⟨hin, fun _ => ⟨hin, h⟩, fun q => absurd q (by decide)⟩, fun q => absurd q (by decide)⟩
  · rw [if_pos c] at hv h
    rw [ix_nI (by omega), hv]
    exact ⟨hin, h⟩
theorem s_seeR {A : AS} {n : Nat} {x1 x2 : Int32} {Q : UInt64 → St → Prop} {σ : St} (hR : RR A σ) (ho : OK n A) (h : ∀ σ', RR A σ' → Q (t_see A x1 x2) σ') : w_X5_see Q x1 x2 σ := by
  unfold w_X5_see
  unfold t_see at h
  rintro σ1 rfl
  have hR := hR.thr
  generalize uI σ 0 0 0 = σ at hR ⊢
  have h := h σ hR
  have bad : ¬ (isR x1 ∧ (A.1 (ix x1)).1 ≠ -1 ∧ 4 ≤ (A.1 (ix x1)).1 ∧ isPl (A.1 (ix x1)) x2) → Q FP.dconst0 σ := by
    intro c
    rw [if_neg c] at h
    rw [u_zero]; exact h
  refine s_isRowR (fun c1 => ⟨fun z => absurd z n10, fun _ => ?_⟩) (fun c1 => ⟨fun _ => bad (fun z => c1 z.1), fun z => absurd rfl z⟩)
  obtain ⟨e1, l1⟩ := isR_nI c1
  have hr := hR.1 _ l1
  rw [e1]
  refine s_isThereR l1 hr (fun g => ⟨fun z => absurd z n10, fun _ => ?_⟩) (fun g => ⟨fun _ => bad (fun z => z.2.1 g), fun z => absurd rfl z⟩)
  obtain ⟨r1, r2, r3, r4, r5⟩ := hr.2 g
  refine s_isRealR l1 hr (fun c2 => ⟨fun z => absurd z n10, fun _ => ?_⟩) (fun c2 => ⟨fun _ => bad (fun z => by omega), fun z => absurd rfl z⟩)
  refine s_isPlaceR l1 r3 r4 (fun c3 => ⟨fun _ => ?_, fun z => absurd z n10⟩) (fun c3 => ⟨fun z => absurd rfl z, fun _ => bad (fun z => c3 z.2.2.2)⟩)
  rw [if_pos ⟨c1, g, by omega, c3⟩] at h
  obtain ⟨e3, l3, i3⟩ := pos_nI c3.1 (n := 40) (by have := c3.2; omega) (by decide)
  have hp : ix x2 < 40 := by have := c3.2; omega
  have ek2 : (40 : Int32) * nI (ix x1) + x2 = nI (40 * ix x1 + ix x2) := m40x e3
  rw [ek2]
  refine s_valueOf l1 hp hr g (ho.1 _ l1 g _ hp) ?_
  unfold dblP
  rw [if_neg c2]; exact h
theorem s_compareR {A : AS} {n : Nat} {x1 x2 : Int32} {y : UInt64} {Q : Int32 → St → Prop} {σ : St} (hR : RR A σ) (ho : OK n A) (hy : nn y) (h : ∀ σ', RR A σ' → Q (t_compare A x1 x2 y) σ') : w_X5_compare Q x1 x2 y σ := by
  unfold w_X5_compare
  unfold t_compare at h
  rintro σ1 rfl
  have hR := hR.thr
  generalize uI σ 0 0 0 = σ at hR ⊢
  have h := h σ hR
  refine s_isRowR (fun c1 => ⟨fun _ => ?_, fun z => absurd z n10⟩) (fun c1 => ⟨fun z => absurd rfl z, fun _ => by rw [if_neg c1] at h; exact h⟩)
  rw [if_pos c1] at h
  obtain ⟨e1, l1⟩ := isR_nI c1
  have hr := hR.1 _ l1
  rw [e1]
  refine s_isThereR l1 hr (fun g => ⟨fun _ => ?_, fun z => absurd z n10⟩) (fun g => ⟨fun z => absurd rfl z, fun _ => by rw [if_pos g] at h; exact h⟩)
  rw [if_neg g] at h
  obtain ⟨r1, r2, r3, r4, r5⟩ := hr.2 g
  refine s_isPlaceR l1 r3 r4 (fun c3 => ⟨fun _ => ?_, fun z => absurd z n10⟩) (fun c3 => ⟨fun z => absurd rfl z, fun _ => by rw [if_neg c3] at h; exact h⟩)
  rw [if_pos c3] at h
  obtain ⟨e3, l3, i3⟩ := pos_nI c3.1 (n := 40) (by have := c3.2; omega) (by decide)
  have hp : ix x2 < 40 := by have := c3.2; omega
  have ek2 : (40 : Int32) * nI (ix x1) + x2 = nI (40 * ix x1 + ix x2) := m40x e3
  have ok := ho.1 _ l1 g _ hp
  have hpl := r5 _ hp
  rintro y8 rfl
  rw [ek2]
  have go : srtP (A.1 (ix x1)).1 ((A.1 (ix x1)).2.2 (ix x2)) ≠ 3 → w_X5_compare_67 Q (nI (ix x1)) y (nI (40 * ix x1 + ix x2)) σ := by
    intro ns
    rw [if_neg ns] at h
    unfold w_X5_compare_67
    refine s_valueOf l1 hp hr g ok ?_
    have hv := nn_dblP _ _ ok
    generalize dblP (A.1 (ix x1)).1 ((A.1 (ix x1)).2.2 (ix x2)) = v at h hv ⊢
    refine ⟨fun a => ?_, fun a => ?_⟩
    · rw [dc_ge hv hy] at a
      rw [if_neg (by omega)] at h
      refine ⟨fun b => ⟨fun d => ?_, fun d => ?_⟩, fun b => ?_⟩
      · rw [dc_le hv hy] at d; rw [dc_eq hv hy] at b; omega
      · rw [dc_eq hv hy] at b
        rw [if_neg b] at h; exact h
      · rw [dc_eq hv hy] at b
        rw [if_pos b] at h; exact h
    · rw [dc_ge hv hy] at a
      rw [if_pos (by omega)] at h; exact h
  refine s_isRealR l1 hr (fun c2 => ⟨fun z => absurd z n10, fun _ => ?_⟩) (fun c2 => ⟨fun _ => go ?_, fun z => absurd rfl z⟩)
  · rw [ix_nI (by omega)]
    unfold PlR at hpl
    rw [if_neg c2] at hpl
    have es : srtP (A.1 (ix x1)).1 ((A.1 (ix x1)).2.2 (ix x2)) = ((A.1 (ix x1)).2.2 (ix x2)).2.1 := by unfold srtP; rw [if_neg c2]
    have l4 : ((A.1 (ix x1)).2.2 (ix x2)).2.1 < 4 := by
      unfold okP at ok
      rw [if_neg c2] at ok
      omega
    refine ⟨in_nI (by omega) (by decide), fun q => go (fun z => q ?_), fun q => ?_⟩
    · rw [hpl.1, ← es, z]; rfl
    · rw [hpl.1] at q
      have e : ((A.1 (ix x1)).2.2 (ix x2)).2.1 = 3 := (nI_eq (by omega) (by decide)).mp q
      rw [if_pos (es.trans e)] at h; exact h
  · unfold srtP; rw [if_pos c2]; decide
