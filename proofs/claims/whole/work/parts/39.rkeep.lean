/-! the reference's keepers -/
theorem cpy_up {α : Type} {S F0 : Nat → α} {a b i : Nat} : vf_upd (va_cpy S F0 a b i) (b + i) (S (a + i)) = va_cpy S F0 a b (i + 1) := by
  funext j
  unfold vf_upd va_cpy
  by_cases c : j = b + i
  · rw [if_pos c, if_pos (by omega), show j - b = i by omega]
  · rw [if_neg c]
    by_cases c2 : b ≤ j ∧ j < b + i
    · rw [if_pos c2, if_pos (by omega)]
    · rw [if_neg c2, if_neg (by omega)]
theorem cpy_00 {α : Type} {S F0 : Nat → α} {a b : Nat} : va_cpy S F0 a b 0 = F0 := by
  funext j
  unfold va_cpy
  rw [if_neg (by omega)]
theorem cpy_i {α : Type} {S F0 : Nat → α} {a b n i : Nat} (h : i < n) : va_cpy S F0 a b n (b + i) = S (a + i) := by
  unfold va_cpy
  rw [if_pos (by omega), show b + i - b = i by omega]
theorem cpy_o {α : Type} {S F0 : Nat → α} {a b n j : Nat} (h : j < b ∨ b + n ≤ j) : va_cpy S F0 a b n j = F0 j := by
  unfold va_cpy
  rw [if_neg (by omega)]
theorem m152 {k i : Nat} : (152 : Int32) * nI k + nI i = nI (152 * k + i) := by
  rw [show (152 : Int32) = nI 152 from rfl, pk_mul, nI_add]
theorem m3 {k i : Nat} : (3 : Int32) * nI k + nI i = nI (3 * k + i) := by
  rw [show (3 : Int32) = nI 3 from rfl, pk_mul, nI_add]
theorem KpR.ext {f g h f' g' h' : Nat → Int32} {k k' : Nat} {K : KpA} (H : KpR f g h k K) (e1 : f' k' = f k) (e2 : ∀ i, i < 152 → g' (152 * k' + i) = g (152 * k + i)) (e3 : ∀ i, i < 3 → h' (3 * k' + i) = h (3 * k + i)) : KpR f' g' h' k' K :=
  ⟨by rw [e1]; exact H.1, fun i hi => by rw [e2 i hi]; exact H.2.1 i hi, fun i hi => by rw [e3 i hi]; exact H.2.2 i hi⟩
theorem s_keepR {k : Nat} {A : AS} {Q : St → Prop} {σ : St} (hk : k < 6) (hR : RR A σ) (h : ∀ σ', RR (pushH A k) σ' → Q σ') : w_X5_keep Q (nI k) σ := by
  unfold w_X5_keep
  obtain ⟨h1, h2, ⟨b1, b2, l, hl, b3, b4⟩, h4⟩ := hR
  rintro y1 rfl
  rw [b3, ix_nI (by omega)]
  refine ⟨in_nI hl (by decide), ?_⟩
  rintro σ3 rfl
  refine ⟨in_nI (by omega) (by decide), in_nI hl (by decide), ?_⟩
  rintro σ6 rfl
  rw [ix_nI (by omega)]
  have e6 : gI (uI σ 9 l (nI k)) 6 = gI σ 6 := by rw [uI_w, gI_wI_ne (by decide)]
  rw [e6]
  generalize hτ : uI (uI σ 9 l (nI k)) 10 l (gI σ 6 k) = τ
  have gi : ∀ c, c ≠ 9 → c ≠ 10 → gI τ c = gI σ c := fun c a b => by rw [← hτ, uI_w, gI_wI_ne b, uI_w, gI_wI_ne a]
  have g9 : gI τ 9 = upd (gI σ 9) l (nI k) := by rw [← hτ, uI_w, gI_wI_ne (by decide), uI_w, gI_wI_eq]
  have g10 : gI τ 10 = upd (gI σ 10) l (gI σ 6 k) := by
    rw [← hτ, uI_w, gI_wI_eq, uI_w, gI_wI_ne (by decide)]
  have gj : gJ τ = gJ σ := by rw [← hτ]; rfl
  have gd : gD τ = gD σ := by rw [← hτ]; rfl
  have fin : ∀ v15 : Int32, v15 = nI ((((k, A.2.1 k) :: A.2.2.1).take 12).length) → Q (uI (uI (wI (wI τ 11 (va_cpy (gI σ 7) (gI σ 11) (152 * k) (152 * l) 152)) 12 (va_cpy (gI σ 8) (gI σ 12) (3 * k) (3 * l) 3)) 0 14 (nI ((l + 1) % 12))) 0 15 v15) := by
    rintro v15 rfl
    generalize hυ : uI (uI (wI (wI τ 11 (va_cpy (gI σ 7) (gI σ 11) (152 * k) (152 * l) 152)) 12 (va_cpy (gI σ 8) (gI σ 12) (3 * k) (3 * l) 3)) 0 14 (nI ((l + 1) % 12))) 0 15 (nI ((((k, A.2.1 k) :: A.2.2.1).take 12).length)) = υ
    have u0 : gI υ 0 = upd (upd (gI σ 0) 14 (nI ((l + 1) % 12))) 15 (nI ((((k, A.2.1 k) :: A.2.2.1).take 12).length)) := by
      rw [← hυ, uI_w, gI_wI_eq, uI_w, gI_wI_eq, gI_wI_ne (by decide), gI_wI_ne (by decide), gi 0 (by decide) (by decide)]
    have ui : ∀ c, c ≠ 0 → c ≠ 11 → c ≠ 12 → gI υ c = gI τ c := fun c a b d => by rw [← hυ, uI_w, gI_wI_ne a, uI_w, gI_wI_ne a, gI_wI_ne d, gI_wI_ne b]
    have u11 : gI υ 11 = va_cpy (gI σ 7) (gI σ 11) (152 * k) (152 * l) 152 := by rw [← hυ, uI_w, gI_wI_ne (by decide), uI_w, gI_wI_ne (by decide), gI_wI_ne (by decide), gI_wI_eq]
    have u12 : gI υ 12 = va_cpy (gI σ 8) (gI σ 12) (3 * k) (3 * l) 3 := by rw [← hυ, uI_w, gI_wI_ne (by decide), uI_w, gI_wI_ne (by decide), gI_wI_eq]
    have uj : gJ υ = gJ σ := by rw [← hυ, ← gj]; rfl
    have ud : gD υ = gD σ := by rw [← hυ, ← gd]; rfl
    have ui2 : ∀ c, c ≠ 0 → c ≠ 11 → c ≠ 12 → c ≠ 9 → c ≠ 10 → gI υ c = gI σ c := fun c a b d e f => (ui c a b d).trans (gi c e f)
    refine h υ ⟨fun r hr => ?_, ?_, ⟨?_, ?_, (l + 1) % 12, by omega, ?_, fun j e he => ?_⟩, ?_⟩
    · have := h1 r hr
      unfold RowR at this ⊢
      rw [ui2 1 (by decide) (by decide) (by decide) (by decide) (by decide), ui2 2 (by decide) (by decide) (by decide) (by decide) (by decide), ui2 5 (by decide) (by decide) (by decide) (by decide) (by decide), uj, ud]
      exact this
    · rw [ui2 6 (by decide) (by decide) (by decide) (by decide) (by decide), ui2 7 (by decide) (by decide) (by decide) (by decide) (by decide), ui2 8 (by decide) (by decide) (by decide) (by decide) (by decide)]
      exact h2
    · rw [u0, upd_eq]; rfl
    · show (((k, A.2.1 k) :: A.2.2.1).take 12).length ≤ 12
      rw [List.length_take]; omega
    · rw [u0, upd_ne (by decide), upd_eq]
    · obtain ⟨hj, he⟩ := take_at (l := (k, A.2.1 k) :: A.2.2.1) he
      rw [ui 9 (by decide) (by decide) (by decide), ui 10 (by decide) (by decide) (by decide), g9, g10, u11, u12]
      cases j with
      | zero =>
        have : e = (k, A.2.1 k) := (Option.some.inj he).symm
        subst this
        have hs : ((l + 1) % 12 + 11 - 0) % 12 = l := by omega
        rw [hs, upd_eq]
        exact ⟨rfl, (h2 k hk).ext (upd_eq) (fun i hi => cpy_i hi) (fun i hi => cpy_i hi)⟩
      | succ j =>
        have he : A.2.2.1[j]? = some e := he
        obtain ⟨q1, q2⟩ := b4 j e he
        have hs : ((l + 1) % 12 + 11 - (j + 1)) % 12 = (l + 11 - j) % 12 := by omega
        have hne : (l + 11 - j) % 12 ≠ l := by omega
        rw [hs, upd_ne hne]
        exact ⟨q1, q2.ext (upd_ne hne) (fun i hi => cpy_o (by omega)) (fun i hi => cpy_o (by omega))⟩
    · rw [u0, upd_ne (by decide), upd_ne (by decide)]; exact h4
  have loop2 : ∀ (d i : Nat), i + d = 3 → w_X5_keep_65 Q (d + 1) (nI k) (nI l) (nI i) (wI (wI τ 11 (va_cpy (gI σ 7) (gI σ 11) (152 * k) (152 * l) 152)) 12 (va_cpy (gI σ 8) (gI σ 12) (3 * k) (3 * l) i)) := by
    intro d
    induction d with
    | zero =>
      intro i hi
      have : i = 3 := by omega
      subst this
      rw [w_X5_keep_65]
      refine ⟨fun _ => ?_, fun q => absurd (by decide) q⟩
      rintro σ7 rfl
      have er : nI l + 1 - (nI l + 1) / (12 : Int32) * (12 : Int32) = nI ((l + 1) % 12) := by rw [nI_1, nI_rem12 (by omega)]
      rw [er]
      have e15 : gI (uI (wI (wI τ 11 (va_cpy (gI σ 7) (gI σ 11) (152 * k) (152 * l) 152)) 12 (va_cpy (gI σ 8) (gI σ 12) (3 * k) (3 * l) 3)) 0 14 (nI ((l + 1) % 12))) 0 15 = nI A.2.2.1.length := by
        rw [uI_w, gI_wI_eq, upd_ne (by decide), gI_wI_ne (by decide), gI_wI_ne (by decide), gi 0 (by decide) (by decide)]; exact b1
      rw [e15]
      unfold w_X5_keep_127
      refine ⟨fun q => ?_, fun q => ?_⟩
      · have q := (nI_leI (a := 12) (by decide) (by omega)).mp q
        rintro σ8 rfl
        refine fin 12 ?_
        rw [List.length_take, List.length_cons, Nat.min_eq_left (by omega)]; rfl
      · have q : ¬ 12 ≤ A.2.2.1.length := fun z => q ((nI_leI (a := 12) (by decide) (by omega)).mpr z)
        rintro σ8 rfl
        refine fin _ ?_
        rw [List.length_take, List.length_cons, Nat.min_eq_right (by omega), nI_1]
    | succ d ih =>
      intro i hi
      rw [w_X5_keep_65]
      refine ⟨fun q => ?_, fun _ => ?_⟩
      · have := (nI_leI (a := 3) (b := i) (by decide) (by omega)).mp q
        omega
      · rw [m3, m3, ix_nI (by omega), ix_nI (by omega)]
        refine ⟨in_nI (by omega) (by decide), in_nI (by omega) (by decide), ?_⟩
        rintro σ11 rfl y12 rfl
        rw [nI_1, uI_w, wI_wI, gI_wI_eq, gI_wI_ne (by decide), gI_wI_ne (by decide), gi 8 (by decide) (by decide), upd_vf, cpy_up]
        exact ih (i + 1) (by omega)
  have loop1 : ∀ (d i : Nat), i + d = 152 → w_X5_keep_26 Q (d + 1) (nI k) (nI l) (nI i) (wI τ 11 (va_cpy (gI σ 7) (gI σ 11) (152 * k) (152 * l) i)) := by
    intro d
    induction d with
    | zero =>
      intro i hi
      have : i = 152 := by omega
      subst this
      rw [w_X5_keep_26]
      refine ⟨fun _ => ?_, fun q => absurd (by decide) q⟩
      have key := loop2 3 0 rfl
      rw [cpy_00] at key
      have e : wI (wI τ 11 (va_cpy (gI σ 7) (gI σ 11) (152 * k) (152 * l) 152)) 12 (gI σ 12) = wI τ 11 (va_cpy (gI σ 7) (gI σ 11) (152 * k) (152 * l) 152) := by
        have := wI_self (wI τ 11 (va_cpy (gI σ 7) (gI σ 11) (152 * k) (152 * l) 152)) 12
        rw [gI_wI_ne (by decide), gi 12 (by decide) (by decide)] at this
        exact this
      rw [e] at key
      exact ⟨4, key⟩
    | succ d ih =>
      intro i hi
      rw [w_X5_keep_26]
      refine ⟨fun q => ?_, fun _ => ?_⟩
      · have := (nI_leI (a := 152) (b := i) (by decide) (by omega)).mp q
        omega
      · rw [m152, m152, ix_nI (by omega), ix_nI (by omega)]
        refine ⟨in_nI (by omega) (by decide), in_nI (by omega) (by decide), ?_⟩
        rintro σ11 rfl y12 rfl
        rw [nI_1, uI_w, wI_wI, gI_wI_eq, gI_wI_ne (by decide), gi 7 (by decide) (by decide), upd_vf, cpy_up]
        exact ih (i + 1) (by omega)
  have key := loop1 152 0 rfl
  rw [cpy_00] at key
  have e : wI τ 11 (gI σ 11) = τ := by
    have := wI_self τ 11
    rw [gi 11 (by decide) (by decide)] at this
    exact this
  rw [e] at key
  exact ⟨153, key⟩
def FrK (k : Nat) (σ τ : St) : Prop := Fr [6, 7, 8] σ τ ∧ (∀ j, j ≠ k → gI τ 6 j = gI σ 6 j) ∧ (∀ j, (j < 152 * k ∨ 152 * k + 152 ≤ j) → gI τ 7 j = gI σ 7 j) ∧ (∀ j, (j < 3 * k ∨ 3 * k + 3 ≤ j) → gI τ 8 j = gI σ 8 j)
theorem Gk.frk {k : Nat} {σ τ : St} (h : Gk k σ τ) : FrK k σ τ := ⟨h.1.mono (fun c z => by simp only [List.mem_cons, List.not_mem_nil, or_false] at z ⊢; omega), fun j _ => by rw [h.1.i (c := 6) (by decide)], h.2.1, h.2.2⟩
theorem RR.kp {A : AS} {σ τ : St} {k : Nat} {K : KpA} (h : RR A σ) (f : FrK k σ τ) (hK : KpR (gI τ 6) (gI τ 7) (gI τ 8) k K) : RR (setK A k K) τ := by
  obtain ⟨h1, h2, h3, h4⟩ := h
  refine ⟨fun r hr => ?_, fun j hj => ?_, ?_, ?_⟩
  · have := h1 r hr
    unfold RowR at this ⊢
    rw [f.1.i (c := 1) (by decide), f.1.i (c := 2) (by decide), f.1.i (c := 5) (by decide), f.1.j (c := 3) (by decide), f.1.d (c := 4) (by decide)]
    exact this
  · show KpR _ _ _ j (if j = k then K else A.2.1 j)
    by_cases c : j = k
    · rw [if_pos c, c]; exact hK
    · rw [if_neg c]
      exact (h2 j hj).ext (f.2.1 j c) (fun i hi => f.2.2.1 _ (by omega)) (fun i hi => f.2.2.2 _ (by omega))
  · show HistR τ A.2.2.1
    unfold HistR at h3 ⊢
    rw [f.1.2.2.2.2.1, f.1.2.2.2.2.2, f.1.i (c := 9) (by decide), f.1.i (c := 10) (by decide), f.1.i (c := 11) (by decide), f.1.i (c := 12) (by decide)]
    exact h3
  · rw [f.1.2.2.2.1]; exact h4
theorem RR.ga {A : AS} {σ : St} {v : Int32} (h : RR A σ) : RR (setG A v) (uI σ 0 9 v) := by
  obtain ⟨h1, h2, h3, h4⟩ := h
  have gi : ∀ c, c ≠ 0 → gI (uI σ 0 9 v) c = gI σ c := fun c a => by rw [uI_w, gI_wI_ne a]
  have g0 : gI (uI σ 0 9 v) 0 = upd (gI σ 0) 9 v := by rw [uI_w, gI_wI_eq]
  refine ⟨fun r hr => ?_, ?_, ?_, ?_⟩
  · have := h1 r hr
    unfold RowR at this ⊢
    rw [gi 1 (by decide), gi 2 (by decide), gi 5 (by decide)]
    exact this
  · rw [gi 6 (by decide), gi 7 (by decide), gi 8 (by decide)]; exact h2
  · show HistR _ A.2.2.1
    unfold HistR at h3 ⊢
    rw [g0, upd_ne (by decide), upd_ne (by decide), gi 9 (by decide), gi 10 (by decide), gi 11 (by decide), gi 12 (by decide)]
    exact h3
  · rw [g0, upd_eq]; rfl
theorem setK_twice (A : AS) (k : Nat) (K L : KpA) : setK (setK A k K) k L = setK A k L := by
  unfold setK
  refine congrArg (fun f => (A.1, f, A.2.2)) ?_
  funext j
  show (if j = k then L else if j = k then K else A.2.1 j) = _
  by_cases c : j = k
  · rw [if_pos c, if_pos c]
  · rw [if_neg c, if_neg c, if_neg c]
theorem s_blankR {k : Nat} {A : AS} {Q : St → Prop} {σ : St} (hk : k < 6) (hR : RR A σ) (h : ∀ σ', RR (setK A k (zeroK (A.2.1 k).1)) σ' → Q σ') : w_X5_blank Q (nI k) σ := by
  unfold w_X5_blank
  have fin : ∀ (F G : Nat → Int32), (∀ i, i < 152 → F (152 * k + i) = 0) → (∀ j, (j < 152 * k ∨ 152 * k + 152 ≤ j) → F j = gI σ 7 j) → (∀ i, i < 3 → G (3 * k + i) = 0) → (∀ j, (j < 3 * k ∨ 3 * k + 3 ≤ j) → G j = gI σ 8 j) → Q (wI (wI σ 7 F) 8 G) := by
    intro F G f1 f2 g1 g2
    refine h _ (hR.kp ⟨(fr_w (by decide)).tr (fr_w (by decide)), fun j _ => by rw [gI_wI_ne (by decide), gI_wI_ne (by decide)], fun j hj => ?_, fun j hj => ?_⟩ ⟨?_, fun i hi => ?_, fun w hw => ?_⟩)
    · rw [gI_wI_ne (by decide), gI_wI_eq]; exact f2 j hj
    · rw [gI_wI_eq]; exact g2 j hj
    · rw [gI_wI_ne (by decide), gI_wI_ne (by decide)]; exact (hR.2.1 k hk).1
    · rw [gI_wI_ne (by decide), gI_wI_eq, f1 i hi, Int32.toInt_zero]; exact (dgI0 i).symm
    · rw [gI_wI_eq, g1 w hw]; rfl
  have loop2 : ∀ (F : Nat → Int32), (∀ i, i < 152 → F (152 * k + i) = 0) → (∀ j, (j < 152 * k ∨ 152 * k + 152 ≤ j) → F j = gI σ 7 j) → ∀ (d i : Nat) (G : Nat → Int32), i + d = 3 → (∀ j, j < i → G (3 * k + j) = 0) → (∀ j, (j < 3 * k ∨ 3 * k + i ≤ j) → G j = gI σ 8 j) → w_X5_blank_30 Q (d + 1) (nI k) (nI i) (wI (wI σ 7 F) 8 G) := by
    intro F f1 f2 d
    induction d with
    | zero =>
      intro i G hi g1 g2
      have : i = 3 := by omega
      subst this
      rw [w_X5_blank_30]
      exact ⟨fun _ => fin F G f1 f2 g1 g2, fun q => absurd (by decide) q⟩
    | succ d ih =>
      intro i G hi g1 g2
      rw [w_X5_blank_30]
      refine ⟨fun q => ?_, fun _ => ?_⟩
      · have := (nI_leI (a := 3) (b := i) (by decide) (by omega)).mp q
        omega
      · rw [m3, ix_nI (by omega)]
        refine ⟨in_nI (by omega) (by decide), ?_⟩
        rintro σ2 rfl y3 rfl
        rw [nI_1, uI_w, wI_wI, gI_wI_eq]
        refine ih (i + 1) _ (by omega) (fun j hj => ?_) (fun j hj => ?_)
        · by_cases c : j = i
          · rw [c, upd_eq]
          · rw [upd_ne (by omega)]; exact g1 j (by omega)
        · rw [upd_ne (by omega)]; exact g2 j (by omega)
  have loop1 : ∀ (d i : Nat) (F : Nat → Int32), i + d = 152 → (∀ j, j < i → F (152 * k + j) = 0) → (∀ j, (j < 152 * k ∨ 152 * k + i ≤ j) → F j = gI σ 7 j) → w_X5_blank_2 Q (d + 1) (nI k) (nI i) (wI σ 7 F) := by
    intro d
    induction d with
    | zero =>
      intro i F hi f1 f2
      have : i = 152 := by omega
      subst this
      rw [w_X5_blank_2]
      refine ⟨fun _ => ?_, fun q => absurd (by decide) q⟩
      have key := loop2 F f1 f2 3 0 (gI σ 8) rfl (fun j hj => absurd hj (by omega)) (fun j _ => rfl)
      have e : wI (wI σ 7 F) 8 (gI σ 8) = wI σ 7 F := by
        have := wI_self (wI σ 7 F) 8
        rw [gI_wI_ne (by decide)] at this
        exact this
      rw [e] at key
      exact ⟨4, key⟩
    | succ d ih =>
      intro i F hi f1 f2
      rw [w_X5_blank_2]
      refine ⟨fun q => ?_, fun _ => ?_⟩
      · have := (nI_leI (a := 152) (b := i) (by decide) (by omega)).mp q
        omega
      · rw [m152, ix_nI (by omega)]
        refine ⟨in_nI (by omega) (by decide), ?_⟩
        rintro σ2 rfl y3 rfl
        rw [nI_1, uI_w, wI_wI, gI_wI_eq]
        refine ih (i + 1) _ (by omega) (fun j hj => ?_) (fun j hj => ?_)
        · by_cases c : j = i
          · rw [c, upd_eq]
          · rw [upd_ne (by omega)]; exact f1 j (by omega)
        · rw [upd_ne (by omega)]; exact f2 j (by omega)
  have key := loop1 152 0 (gI σ 7) rfl (fun j hj => absurd hj (by omega)) (fun j _ => rfl)
  rw [wI_self] at key
  exact ⟨153, key⟩
theorem s_keeperR {A : AS} {x1 x2 : Int32} {Q : Int32 → St → Prop} {σ : St} (hR : RR A σ) (h : ∀ σ', RR (t_keeper A x1 x2).2 σ' → Q (t_keeper A x1 x2).1 σ') : w_X5_keeper Q x1 x2 σ := by
  unfold w_X5_keeper
  unfold t_keeper at h
  rintro σ1 rfl
  have hR := hR.thr
  generalize uI σ 0 0 0 = σ at hR ⊢
  have bad : ¬ (isK x1 ∧ (0 ≤ x2.toInt ∧ x2.toInt ≤ 2)) → Q (-3) σ := by
    intro c
    rw [if_neg c] at h
    exact h σ hR
  have c0 : (0 : Int64).toInt = 0 := by decide
  have c2 : (2 : Int64).toInt = 2 := by decide
  refine s_isKeeperR (fun c1 => ⟨fun z => absurd z n10, fun _ => s_in (fun q => ⟨fun _ => ?_, fun z => absurd z n10⟩) (fun q => ⟨fun z => absurd rfl z, fun _ => bad ?_⟩)⟩) (fun c1 => ⟨fun _ => bad (fun z => c1 z.1), fun z => absurd rfl z⟩)
  · rw [i2l_toInt, c0, c2] at q
    rw [if_pos ⟨c1, q⟩] at h
    obtain ⟨e1, l1⟩ := isK_nI c1
    rw [e1]
    refine s_keepR l1 hR (fun σ6 hR6 => ⟨in_nI (by omega) (by decide), ?_⟩)
    rintro σ8 rfl
    rw [ix_nI (by omega)]
    have hR8 : RR (setK (pushH A (ix x1)) (ix x1) (x2.toInt, (A.2.1 (ix x1)).2)) (uI σ6 6 (ix x1) x2) := by
      have hk := hR6.2.1 _ l1
      have gi : ∀ c, c ≠ 6 → gI (uI σ6 6 (ix x1) x2) c = gI σ6 c := fun c a => by rw [uI_w, gI_wI_ne a]
      have g6 : gI (uI σ6 6 (ix x1) x2) 6 = upd (gI σ6 6) (ix x1) x2 := by rw [uI_w, gI_wI_eq]
      refine hR6.kp ⟨by rw [uI_w]; exact fr_w (by decide), fun j hj => by rw [g6, upd_ne hj], fun j _ => by rw [gi 7 (by decide)], fun j _ => by rw [gi 8 (by decide)]⟩ ⟨by rw [g6, upd_eq], ?_, ?_⟩
      · rw [gi 7 (by decide)]; exact hk.2.1
      · rw [gi 8 (by decide)]; exact hk.2.2
    refine s_blankR l1 hR8 (fun σ9 hR9 => ?_)
    rw [setK_twice, show ((setK (pushH A (ix x1)) (ix x1) (x2.toInt, (A.2.1 (ix x1)).2)).2.1 (ix x1)).1 = x2.toInt from congrArg (fun z : KpA => z.1) (if_pos rfl)] at hR9
    exact h σ9 hR9
  · rw [i2l_toInt, c0, c2] at q; rintro ⟨-, a⟩; exact q a
theorem KpR.gone {f g h : Nat → Int32} {k : Nat} {K : KpA} (H : KpR f g h k K) : f k = -1 ↔ K.1 = -1 := gm1 H.1
theorem KpR.is {f g h : Nat → Int32} {k n : Nat} {K : KpA} (H : KpR f g h k K) (hn : n < 100) : f k = nI n ↔ K.1 = n := l2_eq _ n H.1 hn
theorem s_clearR {A : AS} {x1 : Int32} {Q : Int32 → St → Prop} {σ : St} (hR : RR A σ) (h : ∀ σ', RR (t_clear A x1).2 σ' → Q (t_clear A x1).1 σ') : w_X5_clear Q x1 σ := by
  unfold w_X5_clear
  unfold t_clear at h
  rintro σ1 rfl
  have hR := hR.thr
  generalize uI σ 0 0 0 = σ at hR ⊢
  refine s_isKeeperR (fun c1 => ⟨fun _ => ?_, fun z => absurd z n10⟩) (fun c1 => ⟨fun z => absurd rfl z, fun _ => by rw [if_neg c1] at h; exact h σ hR⟩)
  rw [if_pos c1] at h
  obtain ⟨e1, l1⟩ := isK_nI c1
  rw [(hR.2.1 _ l1).gone]
  refine ⟨by rw [e1]; exact in_nI (by omega) (by decide), fun g => ?_, fun g => by rw [if_pos g] at h; exact h σ hR⟩
  rw [if_neg g] at h
  rw [e1]
  exact s_keepR l1 hR (fun σ5 hR5 => s_blankR l1 hR5 (fun σ6 hR6 => h σ6 hR6))
theorem s_sortOfK {k : Nat} {K : KpA} {Q : Int32 → St → Prop} {σ : St} (hk : k < 6) (hK : KpR (gI σ 6) (gI σ 7) (gI σ 8) k K) (h : Q (nI (sortK K.2.2)) σ) : w_X5_sortOf_ Q (nI k) σ := by
  have e0 : gI σ 8 (3 * k) = K.2.2 0 := hK.2.2 0 (by decide)
  have e1 := hK.2.2 1 (by decide)
  have e2 := hK.2.2 2 (by decide)
  have m0 : (3 : Int32) * nI k = nI (3 * k) := by rw [show (3 : Int32) = nI 3 from rfl, pk_mul]
  have m1 : (3 : Int32) * nI k + 1 = nI (3 * k + 1) := by rw [m0, nI_1]
  have m2 : (3 : Int32) * nI k + 2 = nI (3 * k + 2) := by rw [m0]; exact nI_add _ 2
  unfold sortK at h
  have g37 : ∀ x2 s0 : Int32, (x2 = 0 ↔ ¬ 0 < (K.2.2 1).toInt) → (s0 = 0 ↔ ¬ 0 < (K.2.2 2).toInt) → w_X5_sortOf__37 Q (nI k) x2 s0 σ := by
    intro x2 s0 hx hs
    unfold w_X5_sortOf__37
    rw [m0, ix_nI (by omega), e0]
    have g61 : ¬ 0 < (K.2.2 0).toInt → ¬ (0 < (K.2.2 1).toInt ∧ 0 < (K.2.2 2).toInt) → w_X5_sortOf__61 Q x2 s0 σ := by
      intro a b
      unfold w_X5_sortOf__61
      rw [if_neg (by rintro (z | z); exact a z; exact b z)] at h
      refine ⟨fun q => ⟨fun q2 => ?_, fun q2 => ?_⟩, fun q => ?_⟩
      · rw [if_neg (hx.mp q), if_neg (hs.mp q2)] at h; exact h
      · rw [if_neg (hx.mp q), if_pos (Decidable.byContradiction (fun z => q2 (hs.mpr z)))] at h; exact h
      · rw [if_pos (Decidable.byContradiction (fun z => q (hx.mpr z)))] at h; exact h
    refine ⟨in_nI (by omega) (by decide), fun q => ?_, fun q => ⟨fun q2 => g61 ?_ ?_, fun q2 => ⟨fun q3 => g61 ?_ ?_, fun q3 => ?_⟩⟩⟩
    · rw [i_lt, t0] at q
      rw [if_pos (Or.inl q)] at h; exact h
    · rw [i_lt, t0] at q; exact q
    · exact fun z => hx.mp q2 z.1
    · rw [i_lt, t0] at q; exact q
    · exact fun z => hs.mp q3 z.2
    · rw [if_pos (Or.inr ⟨Decidable.byContradiction (fun z => q2 (hx.mpr z)), Decidable.byContradiction (fun z => q3 (hs.mpr z))⟩)] at h; exact h
  have g18 : ∀ x2 : Int32, (x2 = 0 ↔ ¬ 0 < (K.2.2 1).toInt) → w_X5_sortOf__18 Q (nI k) x2 σ := by
    intro x2 hx
    unfold w_X5_sortOf__18
    rw [m2, ix_nI (by omega), e2]
    refine ⟨in_nI (by omega) (by decide), fun q => g37 x2 0 hx ⟨fun _ => ?_, fun _ => rfl⟩, fun q => g37 x2 1 hx ⟨fun z => absurd z n10, fun z => ?_⟩⟩
    · rw [i_le, t0] at q; omega
    · rw [i_le, t0] at q; omega
  unfold w_X5_sortOf_
  rw [m1, ix_nI (by omega), e1]
  refine ⟨in_nI (by omega) (by decide), fun q => g18 0 ⟨fun _ => ?_, fun _ => rfl⟩, fun q => g18 1 ⟨fun z => absurd z n10, fun z => ?_⟩⟩
  · rw [i_le, t0] at q; omega
  · rw [i_le, t0] at q; omega
theorem s_sortR {A : AS} {x1 : Int32} {Q : Int32 → St → Prop} {σ : St} (hR : RR A σ) (h : ∀ σ', RR A σ' → Q (t_sort A x1) σ') : w_X5_sort Q x1 σ := by
  unfold w_X5_sort
  unfold t_sort at h
  rintro σ1 rfl
  have hR := hR.thr
  generalize uI σ 0 0 0 = σ at hR ⊢
  have h := h σ hR
  refine s_isKeeperR (fun c1 => ⟨fun _ => ?_, fun z => absurd z n10⟩) (fun c1 => ⟨fun z => absurd rfl z, fun _ => by rw [if_neg c1] at h; exact h⟩)
  rw [if_pos c1] at h
  obtain ⟨e1, l1⟩ := isK_nI c1
  rw [(hR.2.1 _ l1).gone]
  refine ⟨by rw [e1]; exact in_nI (by omega) (by decide), fun g => ?_, fun g => by rw [if_pos g] at h; exact h⟩
  rw [if_neg g] at h
  rw [e1]
  exact s_sortOfK l1 (hR.2.1 _ l1) h
theorem s_seenR {A : AS} {x1 x2 : Int32} {Q : Int32 → St → Prop} {σ : St} (hR : RR A σ) (h : ∀ σ', RR A σ' → Q (t_seen A x1 x2) σ') : w_X5_seen Q x1 x2 σ := by
  unfold w_X5_seen
  unfold t_seen at h
  rintro σ1 rfl
  have hR := hR.thr
  generalize uI σ 0 0 0 = σ at hR ⊢
  have h := h σ hR
  have bad : ¬ (isK x1 ∧ (0 ≤ x2.toInt ∧ x2.toInt ≤ 2)) → Q (-3) σ := by
    intro c
    rw [if_neg c] at h
    exact h
  have c0 : (0 : Int64).toInt = 0 := by decide
  have c2 : (2 : Int64).toInt = 2 := by decide
  refine s_isKeeperR (fun c1 => ⟨fun z => absurd z n10, fun _ => s_in (fun q => ⟨fun _ => ?_, fun z => absurd z n10⟩) (fun q => ⟨fun z => absurd rfl z, fun _ => bad ?_⟩)⟩) (fun c1 => ⟨fun _ => bad (fun z => c1 z.1), fun z => absurd rfl z⟩)
  · rw [i2l_toInt, c0, c2] at q
    rw [if_pos ⟨c1, q⟩] at h
    obtain ⟨e1, l1⟩ := isK_nI c1
    have hK := hR.2.1 _ l1
    rw [hK.gone]
    refine ⟨by rw [e1]; exact in_nI (by omega) (by decide), fun g => ?_, fun g => by rw [if_pos g] at h; exact h⟩
    rw [if_neg g] at h
    have i2 : (ix x2 : Int) = x2.toInt := by rw [ix_toInt]; omega
    have e2 : x2 = nI (ix x2) := i_of (by omega) (by omega)
    have em : (3 : Int32) * x1 + x2 = nI (3 * ix x1 + ix x2) := by
      have : (3 : Int32) * nI (ix x1) + nI (ix x2) = nI (3 * ix x1 + ix x2) := m3
      rwa [← e1, ← e2] at this
    rw [em, ix_nI (by omega), hK.2.2 (ix x2) (by omega)]
    exact ⟨in_nI (by omega) (by decide), h⟩
  · rw [i2l_toInt, c0, c2] at q; rintro ⟨-, a⟩; exact q a
theorem rowR_ok {σ : St} {r p : Nat} {R : RwA} (h : RowR σ r R) (g : R.1 ≠ -1) (ho : okP R.1 (R.2.2 p)) (hp : p < 40) : okR σ r (40 * r + p) (valP R.1 (R.2.2 p)) := by
  have hv := (h.2 g).2.2.2.2 p hp
  unfold PlR at hv
  unfold okP at ho
  unfold okR valP
  rw [h.1]
  by_cases c : R.1 < 4
  · rw [if_pos c] at hv ho ⊢
    rw [hv]
    exact Or.inl ⟨c, rfl, rfl, ho⟩
  · rw [if_neg c] at hv ho ⊢
    refine Or.inr ⟨by omega, ?_⟩
    rcases ho with ⟨z, b, n, hn, e⟩ | ⟨z, w⟩ | ⟨z, w⟩ | ⟨z, w⟩
    · right
      refine ⟨z, by rw [hv.1, z]; rfl, b, n, hn, by rw [hv.2 (Or.inl z), e], ?_⟩
      show (if (R.2.2 p).2.1 = 0 then dk (R.2.2 p).2.2 else 0) = _
      rw [if_pos z, e, dk_U hn]
    · left
      exact ⟨Or.inl z, hv.1, if_neg (by omega)⟩
    · left
      exact ⟨Or.inr (Or.inl z), hv.1, if_neg (by omega)⟩
    · left
      exact ⟨Or.inr (Or.inr z), hv.1, if_neg (by omega)⟩
theorem SV.of_R {A : AS} {σ : St} {k n : Nat} (h : RR A σ) (ho : OK n A) (hk : k < 6) : SV σ k ((A.2.1 k).2.1, (A.2.1 k).2.2) := by
  have hK := h.2.1 k hk
  obtain ⟨-, -, -, -, hc⟩ := ho.2.1 k hk
  exact ⟨hK.2.1, fun w hw => ⟨hK.2.2 w hw, hc w hw⟩⟩
theorem SV.kp {σ : St} {k : Nat} {kd : Int} {s : Int × (Nat → Int32)} (h : SV σ k s) (hk : (gI σ 6 k).toInt = kd) : KpR (gI σ 6) (gI σ 7) (gI σ 8) k (kd, s.1, s.2) := ⟨hk, h.1, fun w hw => (h.2 w hw).1⟩
theorem s_sizeOf {x : Int32} {Q : Int32 → St → Prop} {σ : St} (h1 : -40 ≤ x.toInt) (h2 : x.toInt ≤ 40) (h : Q (nI x.toInt.natAbs) σ) : w_X5_sizeOf Q x σ := by
  unfold w_X5_sizeOf
  refine ⟨fun q => ?_, fun q => ?_⟩
  · have q := i_ge0.mp q
    have e : x = nI x.toInt.natAbs := i_of (by omega) (by omega)
    rw [← e] at h; exact h
  · have q : ¬ 0 ≤ x.toInt := fun z => q (i_ge0.mpr z)
    have e : -x = nI x.toInt.natAbs := i_of (by rw [i_neg (by omega)]; omega) (by omega)
    rw [e]; exact h
theorem s_addR {A : AS} {N : Nat} {x1 x2 x3 x4 : Int32} {Q : Int32 → St → Prop} {σ : St} (hR : RR A σ) (ho : OK N A) (h : ∀ σ', RR (t_add A x1 x2 x3 x4).2 σ' → Q (t_add A x1 x2 x3 x4).1 σ') : w_X5_add Q x1 x2 x3 x4 σ := by
  unfold w_X5_add
  unfold t_add at h
  rintro σ1 rfl
  have hR := hR.thr
  generalize uI σ 0 0 0 = σ at hR ⊢
  have bad : ¬ (isK x1 ∧ isR x2 ∧ (-40 ≤ x4.toInt ∧ x4.toInt ≤ 40)) → Q (-3) σ := by
    intro c
    rw [if_neg c] at h
    exact h σ hR
  have cm : (-40 : Int64).toInt = -40 := by decide
  have cp : (40 : Int64).toInt = 40 := by decide
  refine s_isKeeperR (fun c1 => ⟨fun z => absurd z n10, fun _ => s_isRowR (fun c2 => ⟨fun z => absurd z n10, fun _ => s_in (fun q => ⟨fun _ => ?_, fun z => absurd z n10⟩) (fun q => ⟨fun z => absurd rfl z, fun _ => bad ?_⟩)⟩) (fun c2 => ⟨fun _ => bad (fun z => c2 z.2.1), fun z => absurd rfl z⟩)⟩) (fun c1 => ⟨fun _ => bad (fun z => c1 z.1), fun z => absurd rfl z⟩)
  · rw [i2l_toInt, cm, cp] at q
    rw [if_pos ⟨c1, c2, q⟩] at h
    obtain ⟨e1, l1⟩ := isK_nI c1
    obtain ⟨e2, l2⟩ := isR_nI c2
    have hK := hR.2.1 _ l1
    have hr := hR.1 _ l2
    have hin : vp_in x1 7 := by rw [e1]; exact in_nI (by omega) (by decide)
    rw [hK.gone]
    refine ⟨hin, fun g => by rw [if_pos (Or.inl g)] at h; exact h σ hR, fun g => ?_⟩
    rw [e2]
    refine s_isThereR l2 hr (fun g2 => ⟨fun _ => ?_, fun z => absurd z n10⟩) (fun g2 => ⟨fun z => absurd rfl z, fun _ => by rw [if_pos (Or.inr g2)] at h; exact h σ hR⟩)
    rw [if_neg (by rintro (z | z); exact g z; exact g2 z)] at h
    have k1 : gI σ 6 (ix x1) = 1 ↔ (A.2.1 (ix x1)).1 = 1 := hK.is (n := 1) (by decide)
    rw [k1]
    refine ⟨hin, fun q3 => ?_, fun q3 => by rw [if_pos q3] at h; exact h σ hR⟩
    rw [if_neg q3] at h
    obtain ⟨r1, r2, r3, r4, r5⟩ := hr.2 g2
    refine s_sizeOf q.1 q.2 ?_
    have ea : (nI x4.toInt.natAbs).toInt = (x4.toInt.natAbs : Int) := nI_toInt (by omega)
    refine s_arePlacesR l2 r3 r4 (fun c3 => ⟨fun _ => ?_, fun z => absurd z n10⟩) (fun c3 => ⟨fun z => absurd rfl z, fun _ => ?_⟩)
    · have c3' : areN (A.1 (ix x2)) x3 x4.toInt.natAbs := by
        have := c3.2; rw [ea] at this; exact this
      rw [if_pos c3'] at h
      have i3 : (ix x3 : Int) = x3.toInt := by rw [ix_toInt]; have := c3'.1; omega
      have e3 : x3 = nI (ix x3) := i_of (by omega) (by have := c3'.2; omega)
      have okr := ho.1 _ l2
      rw [e1, e3]
      refine s_keepR l1 hR (fun σ16 hR16 => ?_)
      have hK16 := hR16.2.1 _ l1
      have sv := SV.of_R (n := N) hR16 ⟨ho.1, ho.2.1, fun j e he => by
        obtain ⟨hj, he⟩ := take_at (l := (ix x1, A.2.1 (ix x1)) :: A.2.2.1) he
        cases j with
        | zero =>
          have : e = (ix x1, A.2.1 (ix x1)) := (Option.some.inj he).symm
          subst this
          exact ⟨l1, ho.2.1 _ l1⟩
        | succ j => exact ho.2.2 j e he⟩ l1
      have loop := add_loop (Q := Q) (σ0 := σ16) (kp := ix x1) (r := ix x2) (pl := ix x3) (n := x4.toInt.natAbs) (x4 := x4) (kd := gI σ16 6 (ix x1)) (s0 := ((A.2.1 (ix x1)).2.1, (A.2.1 (ix x1)).2.2)) (fun j => valP (A.1 (ix x2)).1 ((A.1 (ix x2)).2.2 (ix x3 + j))) (addIt (A.2.1 (ix x1)).1 (A.1 (ix x2)) (ix x3)) (by omega) l2 (by have := c3'.2; omega) rfl rfl (fun j hj => by
          have := rowR_ok (hR16.1 _ l2) g2 (okr g2 (ix x3 + j) (by have := c3'.2; omega)) (by have := c3'.2; omega)
          rwa [← Nat.add_assoc] at this) (fun j hj => by
          have k2 : gI σ16 6 (ix x1) = 2 ↔ (A.2.1 (ix x1)).1 = 2 := hK16.is (n := 2) (by decide)
          unfold addIt
          by_cases c : (A.2.1 (ix x1)).1 = 2
          · rw [if_pos c, if_pos (k2.mpr c)]
          · rw [if_neg c, if_neg (fun z => c (k2.mp z))]) (fun σ' gk v => by
          have hR' := hR16.kp gk.frk (v.kp (kd := (A.2.1 (ix x1)).1) (by rw [gk.1.i (c := 6) (by decide)]; exact hK16.1))
          have e9 : gI σ' 0 9 = A.2.2.2 := hR'.2.2.2
          rw [e9]
          exact h _ hR'.ga) x4.toInt.natAbs 0 σ16 (by omega) ⟨Fr.rfl, fun j _ => rfl, fun j _ => rfl⟩ sv
      exact ⟨_, loop⟩
    · have c3' : ¬ areN (A.1 (ix x2)) x3 x4.toInt.natAbs := fun z => c3 ⟨by rw [ea]; omega, by rw [ea]; exact z⟩
      rw [if_neg c3'] at h; exact h σ hR
  · rw [i2l_toInt, cm, cp] at q; rintro ⟨-, -, a⟩; exact q a
