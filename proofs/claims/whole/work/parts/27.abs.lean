/-! the bench in its plain form: rows, keepers, kept changes, how many were gathered -/
abbrev Pl : Type := Int64 × Nat × UInt64
abbrev RwA : Type := Int × Nat × (Nat → Pl)
abbrev KpA : Type := Int × Int × (Nat → Int32)
abbrev AS : Type := (Nat → RwA) × (Nat → KpA) × List (Nat × KpA) × Int32
def okP (kd : Int) (p : Pl) : Prop := if kd < 4 then p.1.toInt.natAbs < 2 ^ 53 else ((p.2.1 = 0 ∧ ∃ b n, Rn n ∧ p.2.2 = U b n) ∨ (p.2.1 = 1 ∧ p.2.2 = dInf) ∨ (p.2.1 = 2 ∧ p.2.2 = dMinf) ∨ (p.2.1 = 3 ∧ p.2.2 = U false 0))
def dblP (kd : Int) (p : Pl) : UInt64 := if kd < 4 then FP.l2d p.1 else p.2.2
def srtP (kd : Int) (p : Pl) : Nat := if kd < 4 then 0 else p.2.1
def valP (kd : Int) (p : Pl) : Nat × Int := if kd < 4 then (0, p.1.toInt * 2 ^ 1074) else (p.2.1, if p.2.1 = 0 then dk p.2.2 else 0)
/-- a place in the class, and in the reference -/
def PlC (kd : Int) (S : Int32) (W : Int64) (P : Int32) (p : Pl) : Prop :=
  if kd < 4 then S = 0 ∧ W = p.1 ∧ P = 0
  else (p.2.1 = 0 ∧ ((S = 0 ∧ W.toInt.natAbs < 2 ^ 53 ∧ -1074 ≤ P.toInt ∧ P.toInt ≤ 971 ∧ p.2.2 = U (decide (W.toInt < 0)) (W.toInt.natAbs * 2 ^ (P.toInt + 1074).toNat)) ∨ (S = 4 ∧ W = 0 ∧ P = 0 ∧ p.2.2 = U true 0)))
    ∨ ((p.2.1 = 1 ∨ p.2.1 = 2 ∨ p.2.1 = 3) ∧ S = nI p.2.1 ∧ W = 0 ∧ P = 0)
def PlR (kd : Int) (w : Int64) (s : Int32) (d : UInt64) (p : Pl) : Prop := if kd < 4 then w = p.1 else s = nI p.2.1 ∧ (p.2.1 = 0 ∨ p.2.1 = 3 → d = p.2.2)
def RowC (σ : St) (c : Nat) (R : RwA) : Prop := bz (gI σ c 0) ∧ (R.1 = -1 ↔ gI σ c 0 = 0) ∧ (R.1 ≠ -1 → 0 ≤ R.1 ∧ R.1 ≤ 5 ∧ R.2.1 ≤ 40 ∧ (gI σ c 1).toInt = R.1 ∧ gI σ c 2 = nI R.2.1 ∧ ∀ p, p < 40 → PlC R.1 (gI σ (c + 3) p) (gJ σ (c + 1) p) (gI σ (c + 2) p) (R.2.2 p))
def RowR (σ : St) (r : Nat) (R : RwA) : Prop := (gI σ 1 r).toInt = R.1 ∧ (R.1 ≠ -1 → 0 ≤ R.1 ∧ R.1 ≤ 5 ∧ R.2.1 ≤ 40 ∧ gI σ 2 r = nI R.2.1 ∧ ∀ p, p < 40 → PlR R.1 (gJ σ 3 (40 * r + p)) (gI σ 5 (40 * r + p)) (gD σ 4 (40 * r + p)) (R.2.2 p))
def KpC (σ : St) (c : Nat) (K : KpA) : Prop := bz (gI σ c 0) ∧ (K.1 = -1 ↔ gI σ c 0 = 0) ∧ (K.1 ≠ -1 → (gI σ c 1).toInt = K.1) ∧ KV (gJ σ (c + 2)) K.2.1 ∧ ∀ w, w < 3 → gI σ (c + 1) w = K.2.2 w
def KpR (f g h : Nat → Int32) (k : Nat) (K : KpA) : Prop := (f k).toInt = K.1 ∧ WK g k K.2.1 ∧ ∀ w, w < 3 → h (3 * k + w) = K.2.2 w
def HistC (σ : St) (H : List (Nat × KpA)) : Prop := gI σ 3 2 = nI H.length ∧ H.length ≤ 12 ∧ ∃ l, l < 12 ∧ gI σ 3 3 = nI l ∧ ∀ j e, H[j]? = some e → gI σ 5 ((l + 12 - j) % 12) = nI e.1 ∧ KpC σ (befC ((l + 12 - j) % 12)) e.2
def HistR (σ : St) (H : List (Nat × KpA)) : Prop := gI σ 0 15 = nI H.length ∧ H.length ≤ 12 ∧ ∃ l, l < 12 ∧ gI σ 0 14 = nI l ∧ ∀ j e, H[j]? = some e → gI σ 9 ((l + 11 - j) % 12) = nI e.1 ∧ KpR (gI σ 10) (gI σ 11) (gI σ 12) ((l + 11 - j) % 12) e.2
def RC (A : AS) (σ : St) : Prop := (∀ r, r < 12 → RowC σ (rowC r) (A.1 r)) ∧ (∀ k, k < 6 → KpC σ (keepC k) (A.2.1 k)) ∧ HistC σ A.2.2.1 ∧ gI σ 0 6 = A.2.2.2 ∧ ∀ p, p < 40 → gI σ 47 p = 0 ∧ gJ σ 45 p = 1 ∧ gI σ 46 p = 0
def RR (A : AS) (σ : St) : Prop := (∀ r, r < 12 → RowR σ r (A.1 r)) ∧ (∀ k, k < 6 → KpR (gI σ 6) (gI σ 7) (gI σ 8) k (A.2.1 k)) ∧ HistR σ A.2.2.1 ∧ gI σ 0 9 = A.2.2.2
/-- what is so of every state that n calls can reach -/
def okRow (R : RwA) : Prop := R.1 ≠ -1 → ∀ p, p < 40 → okP R.1 (R.2.2 p)
def okKp (B : Int) (K : KpA) : Prop := -1 ≤ K.1 ∧ K.1 ≤ 2 ∧ -B ≤ K.2.1 ∧ K.2.1 ≤ B ∧ ∀ w, w < 3 → 0 ≤ (K.2.2 w).toInt ∧ (K.2.2 w).toInt ≤ 1000000000
def BB (n : Nat) : Int := 2 ^ (4203 + n)
def OK (n : Nat) (A : AS) : Prop := (∀ r, r < 12 → okRow (A.1 r)) ∧ (∀ k, k < 6 → okKp (BB n) (A.2.1 k)) ∧ (∀ (j : Nat) (e : Nat × KpA), A.2.2.1[j]? = some e → e.1 < 6 ∧ okKp (BB n) e.2)
def setR (A : AS) (r : Nat) (R : RwA) : AS := (fun j => if j = r then R else A.1 j, A.2)
def setK (A : AS) (k : Nat) (K : KpA) : AS := (A.1, fun j => if j = k then K else A.2.1 j, A.2.2)
def setH (A : AS) (H : List (Nat × KpA)) : AS := (A.1, A.2.1, H, A.2.2.2)
def setG (A : AS) (g : Int32) : AS := (A.1, A.2.1, A.2.2.1, g)
def pushH (A : AS) (k : Nat) : AS := setH A (((k, A.2.1 k) :: A.2.2.1).take 12)
/-! what stays in the class -/
def FrC (I : Nat → Prop) (σ τ : St) : Prop := ∀ c, ¬ I c → gI τ c = gI σ c ∧ gJ τ c = gJ σ c
theorem FrC.rf {I : Nat → Prop} {σ : St} : FrC I σ σ := fun _ _ => ⟨rfl, rfl⟩
theorem FrC.tr {I : Nat → Prop} {σ τ υ : St} (h : FrC I σ τ) (k : FrC I τ υ) : FrC I σ υ := fun c q => ⟨(k c q).1.trans (h c q).1, (k c q).2.trans (h c q).2⟩
theorem FrC.mono {I J : Nat → Prop} {σ τ : St} (h : FrC I σ τ) (s : ∀ c, I c → J c) : FrC J σ τ := fun c q => h c (fun z => q (s c z))
theorem frc_wI {I : Nat → Prop} {σ : St} {c : Nat} {f : Nat → Int32} (h : I c) : FrC I σ (wI σ c f) := fun a q => ⟨gI_wI_ne (fun e => q (e ▸ h)), rfl⟩
theorem frc_wJ {I : Nat → Prop} {σ : St} {c : Nat} {f : Nat → Int64} (h : I c) : FrC I σ (wJ σ c f) := fun a q => ⟨rfl, gJ_wJ_ne (fun e => q (e ▸ h))⟩
theorem frc_uI {I : Nat → Prop} {σ : St} {c j : Nat} {v : Int32} (h : I c) : FrC I σ (uI σ c j v) := by rw [uI_w]; exact frc_wI h
theorem frc_uJ {I : Nat → Prop} {σ : St} {c j : Nat} {v : Int64} (h : I c) : FrC I σ (uJ σ c j v) := by rw [uJ_w]; exact frc_wJ h
theorem RowC.fr {I : Nat → Prop} {σ τ : St} {c : Nat} {R : RwA} (h : RowC σ c R) (f : FrC I σ τ) (n : ∀ i, i < 4 → ¬ I (c + i)) : RowC τ c R := by
  unfold RowC
  rw [(f c (n 0 (by decide))).1, (f (c + 1) (n 1 (by decide))).2, (f (c + 2) (n 2 (by decide))).1, (f (c + 3) (n 3 (by decide))).1]
  exact h
theorem KpC.fr {I : Nat → Prop} {σ τ : St} {c : Nat} {K : KpA} (h : KpC σ c K) (f : FrC I σ τ) (n : ∀ i, i < 3 → ¬ I (c + i)) : KpC τ c K := by
  unfold KpC
  rw [(f c (n 0 (by decide))).1, (f (c + 1) (n 1 (by decide))).1, (f (c + 2) (n 2 (by decide))).2]
  exact h
theorem HistC.fr {I : Nat → Prop} {σ τ : St} {H : List (Nat × KpA)} (h : HistC σ H) (f : FrC I σ τ) (n : ¬ I 3 ∧ ¬ I 5 ∧ ∀ s i, s < 12 → i < 3 → ¬ I (befC s + i)) : HistC τ H := by
  obtain ⟨h1, h2, l, h3, h4, h5⟩ := h
  refine ⟨by rw [(f 3 n.1).1]; exact h1, h2, l, h3, by rw [(f 3 n.1).1]; exact h4, fun j e he => ?_⟩
  obtain ⟨a, b⟩ := h5 j e he
  refine ⟨by rw [(f 5 n.2.1).1]; exact a, b.fr f (fun i hi => n.2.2 _ i (Nat.mod_lt _ (by decide)) hi)⟩
/-- cells of a keeper, cells of a row -/
def cK (k : Nat) (c : Nat) : Prop := keepC k ≤ c ∧ c < keepC k + 3
def cR (r : Nat) (c : Nat) : Prop := rowC r ≤ c ∧ c < rowC r + 4
def cS (c : Nat) : Prop := c = 43 ∨ c = 49 ∨ c = 50 ∨ c = 51
theorem RC.scr {A : AS} {σ τ : St} (h : RC A σ) (f : FrC cS σ τ) : RC A τ := by
  obtain ⟨h1, h2, h3, h4, h5⟩ := h
  refine ⟨fun r hr => (h1 r hr).fr f (fun i hi => ?_), fun k hk => (h2 k hk).fr f (fun i hi => ?_), h3.fr f ⟨?_, ?_, fun s i hs hi => ?_⟩, ?_, fun p hp => ?_⟩
  · unfold cS rowC; omega
  · unfold cS keepC; omega
  · unfold cS; omega
  · unfold cS; omega
  · unfold cS befC; omega
  · rw [(f 0 (by unfold cS; omega)).1]; exact h4
  · rw [(f 47 (by unfold cS; omega)).1, (f 45 (by unfold cS; omega)).2, (f 46 (by unfold cS; omega)).1]; exact h5 p hp
theorem RC.row {A : AS} {σ τ : St} {r : Nat} {R : RwA} (h : RC A σ) (hr : r < 12) (f : FrC (cR r) σ τ) (hR : RowC τ (rowC r) R) : RC (setR A r R) τ := by
  obtain ⟨h1, h2, h3, h4, h5⟩ := h
  refine ⟨fun j hj => ?_, fun k hk => (h2 k hk).fr f (fun i hi => ?_), h3.fr f ⟨?_, ?_, fun s i hs hi => ?_⟩, ?_, fun p hp => ?_⟩
  · show RowC τ (rowC j) (if j = r then R else A.1 j)
    by_cases c : j = r
    · rw [if_pos c, c]; exact hR
    · rw [if_neg c]
      exact (h1 j hj).fr f (fun i hi => by unfold cR rowC; omega)
  · unfold cR rowC keepC; omega
  · unfold cR rowC; omega
  · unfold cR rowC; omega
  · unfold cR rowC befC; omega
  · rw [(f 0 (by unfold cR rowC; omega)).1]; exact h4
  · rw [(f 47 (by unfold cR rowC; omega)).1, (f 45 (by unfold cR rowC; omega)).2, (f 46 (by unfold cR rowC; omega)).1]; exact h5 p hp
theorem RC.kp {A : AS} {σ τ : St} {k : Nat} {K : KpA} (h : RC A σ) (hk : k < 6) (f : FrC (cK k) σ τ) (hK : KpC τ (keepC k) K) : RC (setK A k K) τ := by
  obtain ⟨h1, h2, h3, h4, h5⟩ := h
  refine ⟨fun r hr => (h1 r hr).fr f (fun i hi => ?_), fun j hj => ?_, h3.fr f ⟨?_, ?_, fun s i hs hi => ?_⟩, ?_, fun p hp => ?_⟩
  · unfold cK rowC keepC; omega
  · show KpC τ (keepC j) (if j = k then K else A.2.1 j)
    by_cases c : j = k
    · rw [if_pos c, c]; exact hK
    · rw [if_neg c]
      exact (h2 j hj).fr f (fun i hi => by unfold cK keepC; omega)
  · unfold cK keepC; omega
  · unfold cK keepC; omega
  · unfold cK keepC befC; omega
  · rw [(f 0 (by unfold cK keepC; omega)).1]; exact h4
  · rw [(f 47 (by unfold cK keepC; omega)).1, (f 45 (by unfold cK keepC; omega)).2, (f 46 (by unfold cK keepC; omega)).1]; exact h5 p hp
theorem RC.ga {A : AS} {σ : St} {v : Int32} (h : RC A σ) : RC (setG A v) (uI σ 0 6 v) := by
  have f : FrC (fun c => c = 0) σ (uI σ 0 6 v) := frc_uI rfl
  obtain ⟨h1, h2, h3, h4, h5⟩ := h
  refine ⟨fun r hr => (h1 r hr).fr f (fun i hi => ?_), fun k hk => (h2 k hk).fr f (fun i hi => ?_), h3.fr f ⟨?_, ?_, fun s i hs hi => ?_⟩, ?_, fun p hp => ?_⟩
  · unfold rowC; omega
  · unfold keepC; omega
  · decide
  · decide
  · unfold befC; omega
  · rw [uI_w, gI_wI_eq, upd_eq]; rfl
  · rw [(f 47 (by decide)).1, (f 45 (by decide)).2, (f 46 (by decide)).1]; exact h5 p hp
/-! the class's small steps: filling, renewing, becoming, remembering -/
theorem s_fillI {k n : Nat} {v : Int32} {Q : St → Prop} {σ : St} (hn : n < 2147483648) (h : ∀ F : Nat → Int32, (∀ j, j < n → F j = v) → Q (wI σ k F)) : w_J7_fill_53178 k n Q v σ := by
  unfold w_J7_fill_53178
  rintro y1 rfl
  have loop : ∀ (d i : Nat) (F : Nat → Int32), i + d = n → (∀ j, j < i → F j = v) → w_J7_fill_53178_5 k n Q (d + 1) v (nI i) (nI n) (wI σ k F) := by
    intro d
    induction d with
    | zero =>
      intro i F hi hF
      have : i = n := by omega
      subst this
      rw [w_J7_fill_53178_5]
      exact ⟨fun _ => h F hF, fun q => absurd (Int32.le_refl _) q⟩
    | succ d ih =>
      intro i F hi hF
      rw [w_J7_fill_53178_5]
      refine ⟨fun q => ?_, fun _ => ⟨in_nI (by omega) hn, ?_⟩⟩
      · have := (nI_leI (a := n) (b := i) (by omega) (by omega)).mp q
        omega
      · rintro σ3 rfl y4 rfl
        rw [nI_1, uI_w, wI_wI, gI_wI_eq, ix_nI (by omega)]
        refine ih (i + 1) _ (by omega) (fun j hj => ?_)
        by_cases c : j = i
        · rw [c, upd_eq]
        · rw [upd_ne c]; exact hF j (by omega)
  have key := loop n 0 (gI σ k) (by omega) (fun j hj => absurd hj (by omega))
  rw [wI_self] at key
  exact ⟨n + 1, key⟩
theorem s_fillJ {k n : Nat} {v : Int64} {Q : St → Prop} {σ : St} (hn : n < 2147483648) (h : ∀ F : Nat → Int64, (∀ j, j < n → F j = v) → Q (wJ σ k F)) : w_J7_fill_d0a16 k n Q v σ := by
  unfold w_J7_fill_d0a16
  rintro y1 rfl
  have loop : ∀ (d i : Nat) (F : Nat → Int64), i + d = n → (∀ j, j < i → F j = v) → w_J7_fill_d0a16_6 k n Q (d + 1) v (nI i) (nI n) (wJ σ k F) := by
    intro d
    induction d with
    | zero =>
      intro i F hi hF
      have : i = n := by omega
      subst this
      rw [w_J7_fill_d0a16_6]
      exact ⟨fun _ => h F hF, fun q => absurd (Int32.le_refl _) q⟩
    | succ d ih =>
      intro i F hi hF
      rw [w_J7_fill_d0a16_6]
      refine ⟨fun q => ?_, fun _ => ⟨in_nI (by omega) hn, ?_⟩⟩
      · have := (nI_leI (a := n) (b := i) (by omega) (by omega)).mp q
        omega
      · rintro σ3 rfl y4 rfl
        rw [nI_1, uJ_w, wJ_wJ, gJ_wJ_eq, ix_nI (by omega)]
        refine ih (i + 1) _ (by omega) (fun j hj => ?_)
        by_cases c : j = i
        · rw [c, updL_eq]
        · rw [updL_ne c]; exact hF j (by omega)
  have key := loop n 0 (gJ σ k) (by omega) (fun j hj => absurd hj (by omega))
  rw [wJ_self] at key
  exact ⟨n + 1, key⟩
def zeroK (kd : Int) : KpA := (kd, 0, fun _ => 0)
def zeroP : Pl := (0, 0, U false 0)
def newRow (kd : Int) (n : Nat) : RwA := (kd, n, fun _ => zeroP)
theorem dgI0 (i : Nat) : dgI 0 i = 0 := by unfold dgI; rw [Int.zero_ediv]; rfl
theorem s_renewK {k : Nat} {x : Int32} {Q : St → Prop} {σ : St} (hx : x.toInt ≠ -1) (h : ∀ σ', FrC (fun c => k ≤ c ∧ c < k + 3) σ σ' → KpC σ' k (zeroK x.toInt) → Q σ') : w_X1_renew k Q x σ := by
  unfold w_X1_renew
  rintro σ1 rfl σ2 rfl
  refine s_fillI (by decide) (fun F hF => ?_)
  refine s_fillJ (by decide) (fun G hG => ?_)
  refine h _ ?_ ?_
  · refine (((frc_uI ?_).tr (frc_uI ?_)).tr (frc_wI ?_)).tr (frc_wJ ?_) <;> constructor <;> omega
  · have e0 : ∀ j, gI (wJ (wI (uI (uI σ k 0 1) k 1 x) (k + 1) F) (k + 2) G) k j = upd (upd (gI σ k) 0 1) 1 x j := by
      intro j
      rw [gI_wJ, gI_wI_ne (by omega), uI_w, gI_wI_eq, uI_w, gI_wI_eq]
    have e1 : gI (wJ (wI (uI (uI σ k 0 1) k 1 x) (k + 1) F) (k + 2) G) (k + 1) = F := by rw [gI_wJ, gI_wI_eq]
    have e2 : gJ (wJ (wI (uI (uI σ k 0 1) k 1 x) (k + 1) F) (k + 2) G) (k + 2) = G := by rw [gJ_wJ_eq]
    unfold KpC
    rw [e0, e0, e1, e2, upd_ne (by decide), upd_eq, upd_eq]
    refine ⟨Or.inr rfl, ⟨fun z => absurd z hx, fun z => absurd z (by decide)⟩, fun _ => rfl, ⟨fun i hi => ?_, ?_⟩, fun w hw => hF w hw⟩
    · rw [hG i (by omega), Int64.toInt_zero]; exact (dgI0 i).symm
    · rw [hG 149 (by decide), Int64.toInt_zero]; exact (Int.zero_ediv _).symm
theorem s_renewR {k n : Nat} {x : Int32} {Q : St → Prop} {σ : St} (h0 : 0 ≤ x.toInt) (h5 : x.toInt ≤ 5) (hn : n ≤ 40) (h : ∀ σ', FrC (fun c => k ≤ c ∧ c < k + 4) σ σ' → RowC σ' k (newRow x.toInt n) → Q σ') : w_X2_renew k Q x (nI n) σ := by
  unfold w_X2_renew
  rintro σ1 rfl σ2 rfl σ3 rfl
  refine s_fillJ (by decide) (fun G hG => ?_)
  refine s_fillI (by decide) (fun F hF => ?_)
  refine s_fillI (by decide) (fun E hE => ?_)
  refine h _ ?_ ?_
  · refine (((((frc_uI ?_).tr (frc_uI ?_)).tr (frc_uI ?_)).tr (frc_wJ ?_)).tr (frc_wI ?_)).tr (frc_wI ?_) <;> constructor <;> omega
  · generalize hτ : wI (wI (wJ (uI (uI (uI σ k 0 1) k 1 x) k 2 (nI n)) (k + 1) G) (k + 2) F) (k + 3) E = τ
    have e0 : gI τ k = upd (upd (upd (gI σ k) 0 1) 1 x) 2 (nI n) := by
      rw [← hτ, gI_wI_ne (by omega), gI_wI_ne (by omega), gI_wJ, uI_w, gI_wI_eq, uI_w, gI_wI_eq, uI_w, gI_wI_eq]
    have e1 : gJ τ (k + 1) = G := by rw [← hτ, gJ_wI, gJ_wI, gJ_wJ_eq]
    have e2 : gI τ (k + 2) = F := by rw [← hτ, gI_wI_ne (by omega), gI_wI_eq]
    have e3 : gI τ (k + 3) = E := by rw [← hτ, gI_wI_eq]
    unfold RowC newRow
    rw [e0, e1, e2, e3, upd_ne (by decide), upd_ne (by decide), upd_eq]
    refine ⟨Or.inr rfl, ⟨fun z => ?_, fun z => absurd z (by decide)⟩, fun _ => ⟨h0, h5, hn, ?_, ?_, fun p hp => ?_⟩⟩
    · have : x.toInt = -1 := z
      omega
    · rw [upd_ne (by decide), upd_eq]
    · rw [upd_eq]
    · rw [hG p hp, hF p hp, hE p hp]
      unfold PlC
      by_cases c : x.toInt < 4
      · rw [if_pos c]; exact ⟨rfl, rfl, rfl⟩
      · rw [if_neg c]
        refine Or.inl ⟨rfl, Or.inl ⟨rfl, by decide, by decide, by decide, ?_⟩⟩
        show U false 0 = U (decide ((0 : Int64).toInt < 0)) ((0 : Int64).toInt.natAbs * _)
        rw [Int64.toInt_zero, Int.natAbs_zero, Nat.zero_mul]
        rfl
theorem cpy0 {α : Type} {f g : Nat → α} {n j : Nat} (h : j < n) : va_cpy f g 0 0 n j = f j := by
  unfold va_cpy
  rw [if_pos ⟨Nat.zero_le _, by omega⟩, Nat.sub_zero, Nat.zero_add]
theorem s_become {k0 k1 : Nat} {K : KpA} {Q : St → Prop} {σ : St} (hd : k0 + 3 ≤ k1 ∨ k1 + 3 ≤ k0) (hK : KpC σ k1 K) (h : ∀ σ', FrC (fun c => k0 ≤ c ∧ c < k0 + 3) σ σ' → KpC σ' k0 K → Q σ') : w_X1_become k0 Q k1 σ := by
  unfold w_X1_become
  refine ⟨hK.1, ?_⟩
  rintro σ1 rfl σ2 rfl
  refine ⟨by decide, by decide, by decide, by decide, by decide, ?_⟩
  rintro σ3 rfl
  refine ⟨by decide, by decide, by decide, by decide, by decide, ?_⟩
  rintro σ4 rfl
  rw [show ix (0 : Int32) = 0 from rfl, show ix (3 : Int32) = 3 from rfl, show ix (150 : Int32) = 150 from rfl]
  have f : FrC (fun c => k0 ≤ c ∧ c < k0 + 3) σ (uI σ k0 0 (gI σ k1 0)) := frc_uI (by constructor <;> omega)
  have n1 : ∀ i, i < 3 → ¬ (k0 ≤ k1 + i ∧ k1 + i < k0 + 3) := fun i hi => by omega
  rw [(f k1 (n1 0 (by decide))).1]
  generalize hτ0 : uI (uI σ k0 0 (gI σ k1 0)) k0 1 (gI σ k1 1) = τ0
  have f2 : FrC (fun c => k0 ≤ c ∧ c < k0 + 3) σ τ0 := by
    rw [← hτ0]
    exact f.tr (frc_uI (by constructor <;> omega))
  have e0 : gI τ0 k0 = upd (upd (gI σ k0) 0 (gI σ k1 0)) 1 (gI σ k1 1) := by
    rw [← hτ0, uI_w, gI_wI_eq, uI_w, gI_wI_eq]
  rw [(f2 (k1 + 1) (n1 1 (by decide))).1]
  generalize hτ1 : wI τ0 (k0 + 1) (va_cpy (gI σ (k1 + 1)) (gI τ0 (k0 + 1)) 0 0 3) = τ1
  have f3 : FrC (fun c => k0 ≤ c ∧ c < k0 + 3) σ τ1 := by
    rw [← hτ1]
    exact f2.tr (frc_wI (by constructor <;> omega))
  rw [(f3 (k1 + 2) (n1 2 (by decide))).2]
  refine h _ (f3.tr (frc_wJ (by constructor <;> omega))) ?_
  obtain ⟨a1, a2, a3, a4, a5⟩ := hK
  unfold KpC
  have g0 : gI (wJ τ1 (k0 + 2) (va_cpy (gJ σ (k1 + 2)) (gJ τ1 (k0 + 2)) 0 0 150)) k0 = upd (upd (gI σ k0) 0 (gI σ k1 0)) 1 (gI σ k1 1) := by
    rw [gI_wJ, ← hτ1, gI_wI_ne (by omega), e0]
  have g1 : gI (wJ τ1 (k0 + 2) (va_cpy (gJ σ (k1 + 2)) (gJ τ1 (k0 + 2)) 0 0 150)) (k0 + 1) = va_cpy (gI σ (k1 + 1)) (gI τ0 (k0 + 1)) 0 0 3 := by
    rw [gI_wJ, ← hτ1, gI_wI_eq]
  rw [g0, g1, gJ_wJ_eq, upd_ne (by decide), upd_eq, upd_eq]
  refine ⟨a1, a2, a3, ⟨fun i hi => ?_, ?_⟩, fun w hw => ?_⟩
  · rw [cpy0 (by omega)]; exact a4.1 i hi
  · rw [cpy0 (by decide)]; exact a4.2
  · rw [cpy0 hw]; exact a5 w hw
theorem nI_rem12 {n : Nat} (h : n < 1000) : nI n - nI n / (12 : Int32) * (12 : Int32) = nI (n % 12) := pk_rem (d := 12) (by omega) (by decide) (by decide)
theorem take_at {α : Type} {l : List α} {n j : Nat} {e : α} (h : (l.take n)[j]? = some e) : j < n ∧ l[j]? = some e := by
  rw [List.getElem?_take] at h
  split at h
  · rename_i c; exact ⟨c, h⟩
  · exact absurd h (by simp)
def cH (l : Nat) (c : Nat) : Prop := c = 3 ∨ c = 5 ∨ (befC l ≤ c ∧ c < befC l + 3)
theorem cH3 (l : Nat) : cH l 3 := Or.inl rfl
theorem cH5 (l : Nat) : cH l 5 := Or.inr (Or.inl rfl)
theorem s_remember {k : Nat} {A : AS} {Q : St → Prop} {σ : St} (hk : k < 6) (hR : RC A σ) (h : ∀ σ', RC (pushH A k) σ' → Q σ') : w_X4_remember Q (nI k) σ := by
  unfold w_X4_remember
  refine ⟨in_nI hk (by decide), ?_⟩
  rw [ix_nI (by omega)]
  unfold w_X0_keep
  obtain ⟨h1, h2, ⟨b1, b2, l, hl, b3, b4⟩, h4, h5⟩ := hR
  rintro σ1 rfl
  have e3 : gI (uI σ 3 3 ((gI σ 3 3 + 1) - (gI σ 3 3 + 1) / (12 : Int32) * (12 : Int32))) 3 3 = nI ((l + 1) % 12) := by
    rw [uI_w, gI_wI_eq, upd_eq, b3, nI_1, nI_rem12 (by omega)]
  have e2 : gI (uI σ 3 3 ((gI σ 3 3 + 1) - (gI σ 3 3 + 1) / (12 : Int32) * (12 : Int32))) 3 2 = nI A.2.2.1.length := by
    rw [uI_w, gI_wI_eq, upd_ne (by decide), b1]
  have f1 : FrC (fun c => c = 3) σ (uI σ 3 3 ((gI σ 3 3 + 1) - (gI σ 3 3 + 1) / (12 : Int32) * (12 : Int32))) := frc_uI rfl
  generalize uI σ 3 3 ((gI σ 3 3 + 1) - (gI σ 3 3 + 1) / (12 : Int32) * (12 : Int32)) = σ1 at e3 e2 f1 ⊢
  generalize hl' : (l + 1) % 12 = l' at e3
  have hl2 : l' < 12 := by omega
  rw [e3, ix_nI (by omega)]
  refine ⟨in_nI hl2 (by decide), ?_⟩
  refine s_become (K := A.2.1 k) (by unfold befC keepC; omega) ((h2 k hk).fr f1 (fun i hi => by unfold keepC; omega)) (fun σ3 f3 hK3 => ?_)
  have c3 : gI σ3 3 = gI σ1 3 := (f3 3 (by unfold befC; omega)).1
  rw [c3, e3, ix_nI (by omega)]
  refine ⟨in_nI hl2 (by decide), ?_⟩
  rintro σ5 rfl y6 rfl σ7 rfl
  have c5 : gI (uI σ3 5 l' (nI k)) 3 = gI σ1 3 := by rw [uI_w, gI_wI_ne (by decide), c3]
  rw [c5, e2]
  have F : FrC (cH l') σ (uI (uI σ3 5 l' (nI k)) 3 2 (if (12 : Int32) < nI A.2.2.1.length + 1 then 12 else nI A.2.2.1.length + 1)) :=
    FrC.tr (I := cH l') (FrC.tr (I := cH l') (FrC.tr (I := cH l') (f1.mono (fun c z => Or.inl z)) (f3.mono (fun c z => Or.inr (Or.inr z)))) (frc_uI (cH5 l'))) (frc_uI (cH3 l'))
  have g3 : gI (uI (uI σ3 5 l' (nI k)) 3 2 (if (12 : Int32) < nI A.2.2.1.length + 1 then 12 else nI A.2.2.1.length + 1)) 3 = upd (gI σ1 3) 2 (if (12 : Int32) < nI A.2.2.1.length + 1 then 12 else nI A.2.2.1.length + 1) := by
    rw [uI_w, gI_wI_eq, c5]
  have g5 : gI (uI (uI σ3 5 l' (nI k)) 3 2 (if (12 : Int32) < nI A.2.2.1.length + 1 then 12 else nI A.2.2.1.length + 1)) 5 = upd (gI σ 5) l' (nI k) := by
    rw [uI_w, gI_wI_ne (by decide), uI_w, gI_wI_eq, (f3 5 (by unfold befC; omega)).1, (f1 5 (by decide)).1]
  have gK : KpC (uI (uI σ3 5 l' (nI k)) 3 2 (if (12 : Int32) < nI A.2.2.1.length + 1 then 12 else nI A.2.2.1.length + 1)) (befC l') (A.2.1 k) := by
    refine hK3.fr (I := fun c => c = 3 ∨ c = 5) ((frc_uI (Or.inr rfl)).tr (frc_uI (Or.inl rfl))) (fun i hi => by unfold befC; omega)
  have hlen : (if (12 : Int32) < nI A.2.2.1.length + 1 then 12 else nI A.2.2.1.length + 1) = nI ((((k, A.2.1 k) :: A.2.2.1).take 12).length) := by
    rw [List.length_take, List.length_cons, nI_1]
    by_cases c : A.2.2.1.length + 1 ≤ 12
    · rw [if_neg (fun z => by have := (nI_ltI (a := 12) (by decide) (by omega)).mp z; omega), Nat.min_eq_right c]
    · have q : (12 : Int32) < nI (A.2.2.1.length + 1) := (nI_ltI (a := 12) (b := A.2.2.1.length + 1) (by decide) (by omega)).mpr (by omega)
      rw [if_pos q, Nat.min_eq_left (by omega)]; rfl
  rw [hlen] at F g3 g5 gK ⊢
  generalize uI (uI σ3 5 l' (nI k)) 3 2 (nI ((((k, A.2.1 k) :: A.2.2.1).take 12).length)) = τ at F g3 g5 gK ⊢
  refine h τ ⟨fun r hr => (h1 r hr).fr F (fun i hi => by unfold cH rowC befC; omega), fun j hj => (h2 j hj).fr F (fun i hi => by unfold cH keepC befC; omega), ⟨?_, ?_, l', hl2, ?_, fun j e he => ?_⟩, ?_, fun p hp => ?_⟩
  · rw [g3, upd_eq]; rfl
  · show (((k, A.2.1 k) :: A.2.2.1).take 12).length ≤ 12
    rw [List.length_take]; omega
  · rw [g3, upd_ne (by decide)]; exact e3
  · obtain ⟨hj, he⟩ := take_at (l := (k, A.2.1 k) :: A.2.2.1) he
    cases j with
    | zero =>
      have : e = (k, A.2.1 k) := (Option.some.inj he).symm
      subst this
      rw [show (l' + 12 - 0) % 12 = l' by omega, g5, upd_eq]
      exact ⟨rfl, gK⟩
    | succ j =>
      have he : A.2.2.1[j]? = some e := he
      obtain ⟨q1, q2⟩ := b4 j e he
      have hs : (l' + 12 - (j + 1)) % 12 = (l + 12 - j) % 12 := by omega
      have hne : (l + 12 - j) % 12 ≠ l' := by omega
      rw [hs, g5, upd_ne hne]
      exact ⟨q1, q2.fr F (fun i hi => by unfold cH befC; omega)⟩
  · rw [(F 0 (by unfold cH befC; omega)).1]; exact h4
  · rw [(F 47 (by unfold cH befC; omega)).1, (F 45 (by unfold cH befC; omega)).2, (F 46 (by unfold cH befC; omega)).1]; exact h5 p hp
