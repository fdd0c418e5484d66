/-! the reference gathers one place -/
theorem s_mulHigh {x y : Nat} {Q : Int64 → St → Prop} {σ : St} (hx : x < 2 ^ 53) (hy : y < 2 ^ 53) (h : Q (lN (x * y / 2 ^ 64)) σ) : w_J9_multiplyHigh_f86c9 Q (lN x) (lN y) σ := by
  unfold w_J9_multiplyHigh_f86c9
  have sh : ∀ n : Nat, n < 2 ^ 63 → lshrF (lN n) 32 = lN (n / 2 ^ 32) := by
    intro n hn
    refine l_of ?_ (by omega)
    rw [l_high, pk_lT (by omega)]; omega
  have mk : ∀ n : Nat, n < 2 ^ 63 → lN n &&& 4294967295 = lN (n % 2 ^ 32) := by
    intro n hn
    exact wb_mask (k := 32) (by omega) (by decide)
  rintro y1 rfl y2 rfl y3 rfl y4 rfl y5 rfl y6 rfl y7 rfl y8 rfl y9 rfl
  rw [sh x (by omega), sh y (by omega), mk x (by omega), mk y (by omega)]
  have x1 : x % 2 ^ 32 < 2 ^ 32 := Nat.mod_lt _ (by decide)
  have y1 : y % 2 ^ 32 < 2 ^ 32 := Nat.mod_lt _ (by decide)
  have x2 : x / 2 ^ 32 < 2 ^ 21 := by omega
  have y2 : y / 2 ^ 32 < 2 ^ 21 := by omega
  have mm : ∀ u v c d : Nat, u < 2 ^ c → v < 2 ^ d → u * v < 2 ^ (c + d) := by
    intro u v c d hu hv
    rw [Nat.pow_add]
    exact Nat.mul_lt_mul'' hu hv
  have m1 := mm _ _ 32 32 x1 y1
  have m2 := mm _ _ 21 32 x2 y1
  have m3 := mm _ _ 32 21 x1 y2
  have m4 := mm _ _ 21 21 x2 y2
  have ex : x = x / 2 ^ 32 * 2 ^ 32 + x % 2 ^ 32 := by omega
  have ey : y = y / 2 ^ 32 * 2 ^ 32 + y % 2 ^ 32 := by omega
  have exy : x * y = x / 2 ^ 32 * (y / 2 ^ 32) * 2 ^ 64 + (x / 2 ^ 32 * (y % 2 ^ 32) + x % 2 ^ 32 * (y / 2 ^ 32)) * 2 ^ 32 + x % 2 ^ 32 * (y % 2 ^ 32) := by
    conv => lhs; rw [ex, ey]
    rw [Nat.add_mul, Nat.mul_add, Nat.mul_add, Nat.add_mul, show (2 : Nat) ^ 64 = 2 ^ 32 * 2 ^ 32 by decide]
    simp only [Nat.mul_assoc, Nat.mul_comm, Nat.mul_left_comm]
    omega
  rw [exy] at h
  rw [l_mul_N, l_mul_N, l_mul_N, l_mul_N]
  generalize x / 2 ^ 32 * (y / 2 ^ 32) = a at *
  generalize x / 2 ^ 32 * (y % 2 ^ 32) = b at *
  generalize x % 2 ^ 32 * (y / 2 ^ 32) = c at *
  generalize x % 2 ^ 32 * (y % 2 ^ 32) = d at *
  rw [show (32 : Int32) = nI 32 from rfl, lushr_N (by omega) (by decide), lN_add, show nI 32 = (32 : Int32) from rfl, sh _ (by omega), mk _ (by omega), lN_add, lN_add, sh _ (by omega), lN_add]
  have e : (a * 2 ^ 64 + (b + c) * 2 ^ 32 + d) / 2 ^ 64 = a + (b + d / 2 ^ 32) / 2 ^ 32 + ((b + d / 2 ^ 32) % 2 ^ 32 + c) / 2 ^ 32 := by omega
  rw [e] at h
  exact h
/-- a keeper of the reference: its number and its counts -/
def SV (σ : St) (kp : Nat) (s : Int × (Nat → Int32)) : Prop := WK (gI σ 7) kp s.1 ∧ ∀ w, w < 3 → gI σ 8 (3 * kp + w) = s.2 w ∧ 0 ≤ (s.2 w).toInt ∧ (s.2 w).toInt ≤ 1000000000
def Gk (kp : Nat) (σ τ : St) : Prop := Fr [7, 8] σ τ ∧ (∀ j, (j < 152 * kp ∨ 152 * kp + 152 ≤ j) → gI τ 7 j = gI σ 7 j) ∧ (∀ j, (j < 3 * kp ∨ 3 * kp + 3 ≤ j) → gI τ 8 j = gI σ 8 j)
theorem Gk.tr {kp : Nat} {σ τ υ : St} (h : Gk kp σ τ) (k : Gk kp τ υ) : Gk kp σ υ := ⟨h.1.tr k.1, fun j q => (k.2.1 j q).trans (h.2.1 j q), fun j q => (k.2.2 j q).trans (h.2.2 j q)⟩
theorem Gk.of {kp : Nat} {σ τ : St} (h : Fr [] σ τ) : Gk kp σ τ := ⟨h.mono (fun c q => absurd q (by simp)), fun j _ => by rw [h.i (c := 7) (by decide)], fun j _ => by rw [h.i (c := 8) (by decide)]⟩
theorem SV.of {kp : Nat} {σ τ : St} {s : Int × (Nat → Int32)} (h : Fr [] σ τ) (v : SV σ kp s) : SV τ kp s := by
  unfold SV
  rw [h.i (c := 7) (by decide), h.i (c := 8) (by decide)]
  exact v
def cap (x : Int32) : Int32 := if (1000000000 : Int32) < x then 1000000000 else x
theorem cap_lt {x : Int32} : (1000000000 : Int32) < x ↔ 1000000000 < x.toInt := by rw [Int32.lt_iff_toInt_lt]; rfl
theorem cap_rng {x : Int32} (h : 0 ≤ x.toInt) : 0 ≤ (cap x).toInt ∧ (cap x).toInt ≤ 1000000000 := by
  unfold cap
  split
  · decide
  · rename_i q
    exact ⟨h, by rcases ilg 1000000000 x.toInt with g | g; exact absurd (cap_lt.mpr g) q; exact g⟩
theorem s_see {kp w : Nat} {x : Int32} {Q : St → Prop} {σ : St} (hk : kp < 7) (hw : w < 3) (a1 : 0 ≤ (gI σ 8 (3 * kp + w)).toInt) (a2 : (gI σ 8 (3 * kp + w)).toInt ≤ 1000000000) (x1 : 0 ≤ x.toInt) (x2 : x.toInt ≤ 1000000000)
    (h : Q (wI σ 8 (upd (gI σ 8) (3 * kp + w) (cap (gI σ 8 (3 * kp + w) + x))))) : w_X5_see_ Q (nI kp) (nI w) x σ := by
  unfold w_X5_see_
  rw [show (3 : Int32) = nI 3 from rfl, pk_mul, nI_add, ix_nI (by omega)]
  refine ⟨in_nI (by omega) (by decide), ?_⟩
  rintro y2 rfl
  have hs : (gI σ 8 (3 * kp + w) + x).toInt = (gI σ 8 (3 * kp + w)).toInt + x.toInt := i_add (by omega) (by omega)
  have hl : ((gI σ 8 (3 * kp + w)).toInt64 + x.toInt64).toInt = (gI σ 8 (3 * kp + w)).toInt + x.toInt := by
    rw [l_add (by rw [i2l_toInt, i2l_toInt]; omega) (by rw [i2l_toInt, i2l_toInt]; omega), i2l_toInt, i2l_toInt]
  have c9 : (1000000000 : Int64).toInt = 1000000000 := by decide
  unfold cap at h
  refine ⟨fun q => ?_, fun q => ?_⟩ <;> unfold w_X5_see__42 <;> refine ⟨in_nI (by omega) (by decide), ?_⟩ <;> rintro σ4 rfl <;> rw [ix_nI (by omega), uI_w]
  · have q := Int64.le_iff_toInt_le.mp q
    rw [hl, c9] at q
    rw [if_neg (fun z => by have := cap_lt.mp z; omega)] at h
    have e : ((gI σ 8 (3 * kp + w)).toInt64 + x.toInt64).toInt32 = gI σ 8 (3 * kp + w) + x := i_ext (by rw [l2i_toInt, hl, bm32 (by omega) (by omega), hs])
    rw [e]; exact h
  · have q : ¬ (gI σ 8 (3 * kp + w)).toInt + x.toInt ≤ 1000000000 := fun z => q (Int64.le_iff_toInt_le.mpr (by rw [hl, c9]; exact z))
    rw [if_pos (cap_lt.mpr (by omega))] at h
    exact h
theorem s_seeV {kp w : Nat} {Q : St → Prop} {σ : St} {s : Int × (Nat → Int32)} (hk : kp < 7) (hw : w < 3) (hs : SV σ kp s) (h : ∀ σ', Gk kp σ σ' → SV σ' kp (s.1, mt s.2 w) → Q σ') : w_X5_see_ Q (nI kp) (nI w) 1 σ := by
  obtain ⟨e, b1, b2⟩ := hs.2 w hw
  have c1 : (1 : Int32).toInt = 1 := by decide
  refine s_see hk hw (by rw [e]; exact b1) (by rw [e]; exact b2) (by decide) (by decide) (h _ ⟨fr_w (by decide), fun j _ => by rw [gI_wI_ne (by decide)], fun j hj => by rw [gI_wI_eq, upd_ne (by omega)]⟩ ⟨?_, fun v hv => ?_⟩)
  · rw [gI_wI_ne (by decide)]; exact hs.1
  · have em : mt s.2 w = upd s.2 w (cap (s.2 w + 1)) := rfl
    show gI (wI σ 8 (upd (gI σ 8) (3 * kp + w) (cap (gI σ 8 (3 * kp + w) + 1)))) 8 (3 * kp + v) = mt s.2 w v ∧ 0 ≤ (mt s.2 w v).toInt ∧ (mt s.2 w v).toInt ≤ 1000000000
    rw [gI_wI_eq]
    by_cases c : v = w
    · subst c
      have em2 : mt s.2 v v = cap (s.2 v + 1) := by rw [em, upd_eq]
      have e1 : (s.2 v + 1).toInt = (s.2 v).toInt + 1 := by rw [i_add (by rw [c1]; omega) (by rw [c1]; omega), c1]
      have hc := cap_rng (x := s.2 v + 1) (by rw [e1]; omega)
      rw [upd_eq, e, em2]
      exact ⟨rfl, hc⟩
    · have em2 : mt s.2 w v = s.2 v := by rw [em, upd_ne c]
      rw [upd_ne (by omega), em2]
      exact hs.2 v hv
theorem s_bitsV {Q : St → Prop} {σ : St} {hi lo at_ kp : Nat} {pw tk : Int32} {s : Int × (Nat → Int32)} (hlo : lo < 2 ^ 64) (hhi : hi < 2 ^ 64) (hat : at_ < 4864) (hpw : (at_ : Int) = pw.toInt + 2148) (hk : kp < 7) (hs : SV σ kp s)
    (h : ∀ σ', Gk kp σ σ' → SV σ' kp (s.1 + sgnI (decide (¬ tk = 0)) (((hi * 2 ^ 64 + lo) * 2 ^ at_ : Nat) : Int), s.2) → Q σ') : w_X5_addBits Q (nI kp) (lN hi) (lN lo) pw tk σ := by
  refine s_addBits hlo hhi hat hpw hk hs.1 (fun S' hS ho => h _ ⟨fr_w (by decide), fun j hj => by rw [gI_wI_eq]; exact ho j hj, fun j _ => by rw [gI_wI_ne (by decide)]⟩ ⟨?_, ?_⟩)
  · rw [gI_wI_eq]; exact hS
  · rw [gI_wI_ne (by decide)]; exact hs.2
theorem sgl2 {m1 m2 tk s0 : Int32} {x y D : Int} (h1 : m1 = if x < 0 then 1 else 0) (h2 : m2 = if y < 0 then 1 else 0) (ht : bz tk) (hs : s0 = 0 ↔ (if m1 = m2 then 0 else 1) = tk) (hD : D = (x.natAbs : Int) * y.natAbs) : sgnI (decide (¬ s0 = 0)) D = sgnI (decide (¬ tk = 0)) (x * y) := by
  have t0 : ∀ z : Int32, z = 0 → decide (¬ z = 0) = false := fun z q => decide_eq_false (fun y => y q)
  have t1 : ∀ z : Int32, ¬ z = 0 → decide (¬ z = 0) = true := fun z q => decide_eq_true q
  have f0 : ∀ v, sgnI false v = v := fun v => rfl
  have f1 : ∀ v, sgnI true v = -v := fun v => rfl
  have n10 : ¬ (1 : Int32) = 0 := by decide
  have n01 : ¬ (0 : Int32) = 1 := by decide
  subst hD
  rcases ilg x 0 with ga | ga <;> rcases ilg y 0 with gb | gb
  · rw [if_pos ga] at h1
    rw [if_pos gb] at h2
    rw [h1, h2, if_pos rfl] at hs
    rw [show (x.natAbs : Int) = -x by omega, show (y.natAbs : Int) = -y by omega, Int.neg_mul_neg]
    rcases ht with rfl | rfl
    · rw [t0 _ (hs.mpr rfl)]; rfl
    · rw [t1 _ (fun q => n01 (hs.mp q))]; rfl
  · rw [if_pos ga] at h1
    rw [if_neg (by omega)] at h2
    rw [h1, h2, if_neg n10] at hs
    rw [show (x.natAbs : Int) = -x by omega, show (y.natAbs : Int) = y by omega, Int.neg_mul]
    rcases ht with rfl | rfl
    · rw [t1 _ (fun q => n10 (hs.mp q)), f1, Int.neg_neg]; rfl
    · rw [t0 _ (hs.mpr rfl)]; rfl
  · rw [if_neg (by omega)] at h1
    rw [if_pos gb] at h2
    rw [h1, h2, if_neg n01] at hs
    rw [show (x.natAbs : Int) = x by omega, show (y.natAbs : Int) = -y by omega, Int.mul_neg]
    rcases ht with rfl | rfl
    · rw [t1 _ (fun q => n10 (hs.mp q)), f1, Int.neg_neg]; rfl
    · rw [t0 _ (hs.mpr rfl)]; rfl
  · rw [if_neg (by omega)] at h1
    rw [if_neg (by omega)] at h2
    rw [h1, h2, if_pos rfl] at hs
    rw [show (x.natAbs : Int) = x by omega, show (y.natAbs : Int) = y by omega]
    rcases ht with rfl | rfl
    · rw [t0 _ (hs.mpr rfl)]; rfl
    · rw [t1 _ (fun q => n01 (hs.mp q))]; rfl
/-- a number, taken apart, gathered by itself -/
theorem s_oneBits {Q : St → Prop} {σ σ3 : St} {kp : Nat} {x : Int} {tk s0 : Int32} {s : Int × (Nat → Int32)} (hk : kp < 7) (hA : Ap σ σ3 x) (ht : bz tk) (hs : SV σ3 kp s) (h0 : s0 = 0 ↔ gI σ3 0 18 = tk)
    (h : ∀ σ', Gk kp σ3 σ' → SV σ' kp (s.1 + sgnI (decide (¬ tk = 0)) (x * 2 ^ 1074), s.2) → Q σ') : w_X5_addBits Q (nI kp) (0 : Int64) (gJ σ3 0 16) (gI σ3 0 17) s0 σ3 := by
  obtain ⟨-, sz, h1, h2, h3, h4, h5, h6⟩ := hA
  rw [h2]
  refine s_bitsV (hi := 0) (at_ := ((gI σ3 0 17).toInt + 1074).toNat + 1074) (by omega) (by decide) (by omega) (by omega) hk hs (fun σ' g v => h σ' g ?_)
  have e : sgnI (decide (¬ s0 = 0)) (((0 * 2 ^ 64 + sz) * 2 ^ (((gI σ3 0 17).toInt + 1074).toNat + 1074) : Nat) : Int) = sgnI (decide (¬ tk = 0)) (x * 2 ^ 1074) := by
    refine sgl2 (m1 := gI σ3 0 18) (m2 := 0) h6 (by rw [if_neg]; exact Int.not_lt.mpr (Int.le_of_lt (p2 1074))) ht ?_ ?_
    · rw [h0]
      rw [h6]
      split
      · rw [if_neg (by decide)]
      · rw [if_pos rfl]
    · rw [Nat.zero_mul, Nat.zero_add, Nat.pow_add, ← Nat.mul_assoc, h5, Int.natAbs_pow, Int.natCast_mul]; rfl
  rw [← e]
  exact v
theorem s_addPlace {Q : St → Prop} {σ : St} {kp r k : Nat} {a : Nat × Int} {tk : Int32} {s : Int × (Nat → Int32)} (hk : kp < 7) (hr : r < 12) (hkk : k < 480) (ok : okR σ r k a) (ht : bz tk) (hs : SV σ kp s)
    (h : ∀ σ', Gk kp σ σ' → SV σ' kp (stp (decide (¬ tk = 0)) (prS a (0, 2 ^ 1074)) s) → Q σ') : w_X5_addPlace Q (nI kp) (nI r) (nI k) tk σ := by
  unfold w_X5_addPlace
  refine s_sortOfR hr hkk ok ?_
  have hl := ok.lt
  have d : ∀ b : Nat, b < 4 → (nI a.1 = nI b ↔ a.1 = b) := fun b hb => nI_eq (by omega) (by omega)
  have np : ¬ ((2 : Int) ^ 1074 = 0) := Int.ne_of_gt (p2 1074)
  have e0 : a.1 = 0 → prS a (0, 2 ^ 1074) = (0, a.2 * 2 ^ 1074) := fun z => by
    unfold prS
    rw [if_neg (by rintro (y | y); omega; exact absurd y (show ¬ (0 : Nat) = 3 by decide)), if_pos ⟨z, rfl⟩]
  have e3 : a.1 = 3 → prS a (0, 2 ^ 1074) = (3, 0) := fun z => by
    unfold prS
    rw [if_pos (Or.inl z)]
  have isb1 : isB ((0 : Nat), (2 : Int) ^ 1074) = false := decide_eq_false (by
    rintro (y | ⟨-, y⟩)
    · exact absurd y (show ¬ (0 : Nat) = 2 by decide)
    · exact absurd y (Int.not_lt.mpr (Int.le_of_lt (p2 1074))))
  have e12 : a.1 = 1 ∨ a.1 = 2 → prS a (0, 2 ^ 1074) = (a.1, 0) := fun z => by
    unfold prS
    rw [if_neg (by rintro (y | y); omega; exact absurd y (show ¬ (0 : Nat) = 3 by decide)), if_neg (by rintro ⟨y, -⟩; omega), if_neg (by
      rintro (⟨y, -⟩ | ⟨-, y⟩)
      · omega
      · exact np y), isb1]
    rcases z with z | z
    · have : isB a = false := decide_eq_false (by rintro (y | ⟨y, -⟩) <;> omega)
      rw [this, if_pos rfl, z]
    · have : isB a = true := decide_eq_true (Or.inl z)
      rw [this, if_neg (by decide), z]
  have sn : ∀ n : Nat, n ≠ 0 → stp (decide (¬ tk = 0)) (n, 0) s = (s.1, mt s.2 (widx n (decide (¬ tk = 0)))) := fun n z => if_neg z
  refine ⟨fun q => ⟨fun q0 => ?_, fun q0 => ?_⟩, fun q => ?_⟩
  · have h0 := (d 0 (by decide)).mp q0
    rw [e0 h0] at h
    refine s_apartR hr hkk ok h0 (fun σ3 hA => ?_)
    have fin : ∀ s0 : Int32, (s0 = 0 ↔ gI σ3 0 18 = tk) → w_X5_addBits (fun σ4 => Q σ4) (nI kp) (0 : Int64) (gJ σ3 0 16) (gI σ3 0 17) s0 σ3 := fun s0 z => by
      refine s_oneBits hk hA ht (hs.of hA.1) z (fun σ' g v => h σ' ((Gk.of hA.1).tr g) ?_)
      unfold stp
      rw [if_pos rfl]
      exact v
    unfold w_X5_addPlace_81
    exact ⟨fun z => fin 0 ⟨fun _ => z, fun _ => rfl⟩, fun z => fin 1 ⟨fun y => absurd y (by decide), fun y => absurd y z⟩⟩
  · have h0 : a.1 ≠ 0 := fun z => q0 (by rw [z]; rfl)
    have h3 : a.1 ≠ 3 := fun z => q (by rw [z]; rfl)
    have h12 : a.1 = 1 ∨ a.1 = 2 := by omega
    rw [e12 h12, sn _ h0] at h
    unfold w_X5_addPlace_42 w_X5_endless w_X5_endless_12
    refine ⟨fun q2 => ?_, fun q2 => ?_⟩
    · have h1 : a.1 = 1 := by rcases h12 with z | z; exact z; exact absurd (by rw [z]; rfl) q2
      rw [h1] at h
      rcases ht with rfl | rfl
      · exact ⟨fun _ => s_seeV (w := 1) hk (by decide) hs h, fun z => absurd rfl z⟩
      · exact ⟨fun z => absurd z (by decide), fun _ => s_seeV (w := 2) hk (by decide) hs h⟩
    · have h2 : a.1 = 2 := (d 2 (by decide)).mp q2
      rw [h2] at h
      rcases ht with rfl | rfl
      · exact ⟨fun z => absurd z (by decide), fun _ => s_seeV (w := 2) hk (by decide) hs h⟩
      · exact ⟨fun _ => s_seeV (w := 1) hk (by decide) hs h, fun z => absurd rfl z⟩
  · have h3 := (d 3 (by decide)).mp q
    rw [e3 h3, sn _ (by decide)] at h
    exact s_seeV (w := 0) hk (by decide) hs h
