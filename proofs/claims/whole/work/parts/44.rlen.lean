/-! the length in the reference -/
def dvalI (i : Nat) : Nat := if i / 2 ^ 52 = 0 then i % 2 ^ 52 else (i % 2 ^ 52 + 2 ^ 52) * 2 ^ (i / 2 ^ 52 - 1)
theorem dvalI_at {l w : Nat} (h : l = 0 ∨ 2 ^ 52 ≤ w) (hw : w ≤ 2 ^ 53) : dvalI (l * 2 ^ 52 + w) = w * 2 ^ l := by
  unfold dvalI
  rcases Nat.lt_or_ge w (2 ^ 52) with a | a
  · have l0 : l = 0 := by omega
    subst l0
    have e1 : (0 * 2 ^ 52 + w) / 2 ^ 52 = 0 := by omega
    rw [if_pos e1, Nat.pow_zero]; omega
  · rcases Nat.lt_or_ge w (2 ^ 53) with b | b
    · have e1 : (l * 2 ^ 52 + w) / 2 ^ 52 = l + 1 := by omega
      have e2 : (l * 2 ^ 52 + w) % 2 ^ 52 + 2 ^ 52 = w := by omega
      rw [e1, if_neg (by omega), e2]; rfl
    · have e0 : w = 2 ^ 53 := by omega
      have e1 : (l * 2 ^ 52 + w) / 2 ^ 52 = l + 2 := by omega
      have e2 : (l * 2 ^ 52 + w) % 2 ^ 52 + 2 ^ 52 = 2 ^ 52 := by omega
      rw [e1, if_neg (by omega), e2, e0, show l + 2 - 1 = l + 1 by omega, Nat.pow_succ 2 l, Nat.mul_comm (2 ^ l) 2, ← Nat.mul_assoc]
theorem dvalI_parts (i : Nat) : ∃ l w, i = l * 2 ^ 52 + w ∧ (l = 0 ∨ 2 ^ 52 ≤ w) ∧ w < 2 ^ 53 := by
  by_cases h : i / 2 ^ 52 = 0
  · exact ⟨0, i, by omega, Or.inl rfl, by omega⟩
  · exact ⟨i / 2 ^ 52 - 1, i % 2 ^ 52 + 2 ^ 52, by omega, Or.inr (by omega), by omega⟩
theorem dvalI_step (i : Nat) : dvalI i < dvalI (i + 1) := by
  obtain ⟨l, w, e, h, hw⟩ := dvalI_parts i
  subst e
  rw [dvalI_at h (by omega), Nat.add_assoc, dvalI_at (by omega) (by omega)]
  exact Nat.mul_lt_mul_of_pos_right (by omega) (Nat.two_pow_pos _)
theorem dvalI_mono {i j : Nat} (h : i < j) : dvalI i < dvalI j := by
  obtain ⟨d, rfl⟩ : ∃ d, j = i + 1 + d := ⟨j - i - 1, by omega⟩
  clear h
  induction d with
  | zero => exact dvalI_step i
  | succ d ih => exact Nat.lt_trans ih (dvalI_step _)
theorem dvalI_lt {i j : Nat} (h : dvalI i < dvalI j) : i < j := by
  rcases Nat.lt_or_ge i j with g | g
  · exact g
  · rcases Nat.lt_or_eq_of_le g with k | k
    · exact absurd h (by have := dvalI_mono k; omega)
    · rw [k] at h; omega
def mostI : Nat := 2047 * 2 ^ 52 - 1
theorem l_s52 {n : Nat} (h : n < 2 ^ 63) : lshrF (lN n) 52 = lN (n / 2 ^ 52) := by
  have e : (lshrF (lN n) 52).toBitVec = (lN n).toBitVec.sshiftRight 52 := by
    unfold lshrF
    rw [Int64.toBitVec_shiftRight]
    rfl
  have h2 : ∀ y : Int64, y.toInt = y.toBitVec.toInt := fun _ => rfl
  refine l_of ?_ (by omega)
  rw [h2, e, BitVec.toInt_sshiftRight, Int.shiftRight_eq_div_pow, ← h2, pk_lT h]
  rfl
theorem nI_or {a b : Nat} (hb : b < 2) (ha : 2 * a + b < 2 ^ 32) : nI (a * 2) ||| nI b = nI (2 * a + b) := by
  have h1 : a * 2 ||| b = 2 * a + b := by
    have := Nat.shiftLeft_add_eq_or_of_lt (i := 1) (b := b) hb a
    rw [Nat.shiftLeft_eq, Nat.pow_one] at this
    omega
  have h3 : UInt32.ofNat (a * 2) ||| UInt32.ofNat b = UInt32.ofNat (2 * a + b) := UInt32.toNat_inj.mp (by
    have t : ∀ {n : Nat}, n < 2 ^ 32 → (UInt32.ofNat n).toNat = n := fun h => Nat.mod_eq_of_lt h
    rw [UInt32.toNat_or, t (by omega), t (by omega), t ha, h1])
  exact congrArg UInt32.toInt32 h3
theorem lN_mod64 (P : Nat) : lN P = lN (P % 2 ^ 64) := by
  apply Int64.toBitVec_inj.mp
  apply BitVec.eq_of_toNat_eq
  show (BitVec.ofNat 64 P).toNat = (BitVec.ofNat 64 (P % 2 ^ 64)).toNat
  rw [BitVec.toNat_ofNat, BitVec.toNat_ofNat, Nat.mod_mod]
theorem low_bits {P k : Nat} (hk : k < 64) : P % 2 ^ 64 / 2 ^ k % 2 = P / 2 ^ k % 2 := by
  have := Nat.testBit_mod_two_pow P 64 k
  rw [decide_eq_true hk, Bool.true_and] at this
  have t : ∀ x : Nat, x.testBit k = decide (x / 2 ^ k % 2 = 1) := fun x => Nat.testBit_eq_decide_div_mod_eq
  rw [t, t, decide_eq_decide] at this
  omega
theorem nI_word {u : Nat} (h : u < 2 ^ 32) : (nI u).toInt % 4294967296 = (u : Int) := by rw [nI_mod32]; omega
def cmpN (a b : Nat) : Int32 := if a = b then 0 else if b < a then 1 else -1
theorem w32_eq {x y : Int32} : x = y ↔ x.toInt % 4294967296 = y.toInt % 4294967296 := w_eq
theorem cmp_words {V M i : Nat} (h : V / 2 ^ (32 * (i + 1)) = M / 2 ^ (32 * (i + 1))) (hl : V / 2 ^ (32 * i) % 2 ^ 32 < M / 2 ^ (32 * i) % 2 ^ 32) : V < M := by
  have f : ∀ x : Nat, x / 2 ^ (32 * (i + 1)) = x / 2 ^ (32 * i) / 2 ^ 32 := fun x => by
    rw [Nat.div_div_eq_div_mul, ← Nat.pow_add]; rfl
  rw [f, f] at h
  have : V / 2 ^ (32 * i) < M / 2 ^ (32 * i) := by omega
  rcases Nat.lt_or_ge V M with g | g
  · exact g
  · exact absurd (Nat.div_le_div_right (c := 2 ^ (32 * i)) g) (by omega)
theorem s_cmpWords {V M : Nat} {Q : Int32 → St → Prop} {τ : St} (hM : HV (gI τ 13) M) (hV : HV (gI τ 14) V) (bM : M < 2 ^ (32 * 152)) (bV : V < 2 ^ (32 * 152)) (h : Q (cmpN V M) τ) : ∃ fu, w_X5_compareSquare_180 Q fu 151 τ := by
  have loop : ∀ (d : Nat) (x : Int32), d ≤ 152 → x.toInt = (d : Int) - 1 → V / 2 ^ (32 * d) = M / 2 ^ (32 * d) → w_X5_compareSquare_180 Q (d + 1) x τ := by
    intro d
    induction d with
    | zero =>
      intro x _ hx he
      rw [w_X5_compareSquare_180]
      refine ⟨fun _ => ?_, fun z => absurd (i_lt.mpr (by rw [hx, t0]; decide)) z⟩
      rw [Nat.mul_zero, Nat.pow_zero, Nat.div_one, Nat.div_one] at he
      unfold cmpN at h
      rw [if_pos he] at h
      exact h
    | succ d ih =>
      intro x hd hx he
      have hx2 : x = nI d := i_of (by omega) (by omega)
      subst hx2
      rw [w_X5_compareSquare_180]
      refine ⟨fun z => absurd z (nI_pos (by omega)), fun _ => ?_⟩
      rw [ix_nI (by omega)]
      have j := in_nI (i := d) (n := 152) (by omega) (by decide)
      have d1 := hV d (by omega)
      have d2 := hM d (by omega)
      obtain ⟨m1, hm1, u1, v1⟩ := low_nat (gI τ 14 d)
      obtain ⟨m2, hm2, u2, v2⟩ := low_nat (gI τ 13 d)
      rw [w_eq, u1, u2, d1, d2]
      have cl : lN m2 ≤ lN m1 ↔ m2 ≤ m1 := pk_lLE (by omega) (by omega)
      rw [cl]
      have f : ∀ x : Nat, x / 2 ^ (32 * (d + 1)) = x / 2 ^ (32 * d) / 2 ^ 32 := fun x => by
        rw [Nat.div_div_eq_div_mul, ← Nat.pow_add]; rfl
      refine ⟨j, j, fun q => ?_, fun q => ⟨j, j, fun q2 => ?_, fun q2 => ?_⟩⟩
      · rintro y9 rfl
        refine ih _ (by omega) ?_ ?_
        · rw [i_add (by rw [km1, nI_toInt (by omega)]; omega) (by rw [km1, nI_toInt (by omega)]; omega), km1, nI_toInt (by omega)]; omega
        · rw [f, f] at he
          omega
      · have : M < V := cmp_words he.symm (by omega)
        unfold cmpN at h
        rw [if_neg (by omega), if_pos this] at h
        exact h
      · have : V < M := cmp_words he (by omega)
        unfold cmpN at h
        rw [if_neg (by omega), if_neg (by omega)] at h
        exact h
  exact ⟨_, loop 152 151 (Nat.le_refl _) (by decide) (by rw [Nat.div_eq_of_lt bV, Nat.div_eq_of_lt bM])⟩
theorem s_square {m s M : Nat} {Q : Int32 → St → Prop} {σ : St} (hm : m < 2 ^ 53) (hs : s ≤ 4200) (hM : M < 2 ^ (32 * 150)) (hL : HV (gI σ 13) M) (h : ∀ F, Q (cmpN (m * m * 2 ^ s) M) (wI σ 14 F)) (Fu : Nat) (S : Nat → Int32) : ∃ fu, w_X5_compareSquare_69 Q fu (nI s) (lN (m * m / 2 ^ 64)) (lN (m * m)) 151 (wI σ 14 S) := by
  have hmm : m * m < 2 ^ 106 := by
    have := Nat.mul_lt_mul'' hm hm
    rw [show (2 : Nat) ^ 53 * 2 ^ 53 = 2 ^ 106 by decide] at this; exact this
  generalize hP : m * m = P at *
  have bV : P * 2 ^ s < 2 ^ (32 * 152) := by
    refine Nat.lt_of_lt_of_le (Nat.mul_lt_mul_of_pos_right hmm (Nat.two_pow_pos _)) ?_
    rw [← Nat.pow_add]
    exact Nat.pow_le_pow_right (by decide) (by omega)
  have bM : M < 2 ^ (32 * 152) := Nat.lt_of_lt_of_le hM (Nat.pow_le_pow_right (by decide) (by decide))
  have bit : ∀ w b : Nat, b < 32 → P * 2 ^ s / 2 ^ (32 * w) % 2 ^ 32 / 2 ^ b % 2 = P * 2 ^ s / 2 ^ (32 * w + b) % 2 := by
    intro w b hb
    rw [bit_low hb, Nat.div_div_eq_div_mul, ← Nat.pow_add]
  have hi : ∀ k : Nat, s ≤ k → P * 2 ^ s / 2 ^ k = P / 2 ^ (k - s) := by
    intro k hk
    obtain ⟨d, rfl⟩ : ∃ d, k = s + d := ⟨k - s, by omega⟩
    rw [Nat.pow_add, ← Nat.div_div_eq_div_mul, Nat.mul_div_cancel _ (Nat.two_pow_pos _), show s + d - s = d by omega]
  have lo : ∀ k : Nat, k < s → P * 2 ^ s / 2 ^ k % 2 = 0 := by
    intro k hk
    obtain ⟨d, rfl⟩ : ∃ d, s = k + (d + 1) := ⟨s - k - 1, by omega⟩
    rw [Nat.pow_add, Nat.mul_left_comm, Nat.mul_div_cancel_left _ (Nat.two_pow_pos _), Nat.pow_succ, ← Nat.mul_assoc, Nat.mul_mod_left]
  -- the bits of a word
  have word : ∀ (K : Int32 → Int64 → Int64 → Int32 → St → Prop) (w : Nat) (S : Nat → Int32), w < 152 → K (nI s) (lN (P / 2 ^ 64)) (lN P) (nI w + -1) (wI σ 14 (upd S w (nI (P * 2 ^ s / 2 ^ (32 * w) % 2 ^ 32)))) →
      ∀ (b : Nat) (x : Int32), b ≤ 32 → x.toInt = (b : Int) - 1 → w_X5_compareSquare_81 K Q (b + 1) (nI s) (lN (P / 2 ^ 64)) (lN P) (nI w) (nI (P * 2 ^ s / 2 ^ (32 * w) % 2 ^ 32 / 2 ^ b)) x (wI σ 14 S) := by
    intro K w S hw hK b
    induction b with
    | zero =>
      intro x _ hx
      rw [w_X5_compareSquare_81]
      refine ⟨fun _ => ⟨in_nI (by omega) (by decide), ?_⟩, fun z => absurd (i_lt.mpr (by rw [hx, t0]; decide)) z⟩
      rintro σ14 rfl y15 rfl
      rw [ix_nI (by omega), uI_w, wI_wI, gI_wI_eq, Nat.pow_zero, Nat.div_one]
      exact hK
    | succ b ih =>
      intro x hb hx
      have hx2 : x = nI b := i_of (by omega) (by omega)
      subst hx2
      rw [w_X5_compareSquare_81]
      refine ⟨fun z => absurd z (nI_pos (by omega)), fun _ => ?_⟩
      have e1 : (32 : Int32) * nI w + nI b = nI (32 * w + b) := by
        rw [show (32 : Int32) = nI 32 from rfl, pk_mul, nI_add]
      rw [e1]
      have step : ∀ s0 : Int64, s0 = lN (P * 2 ^ s / 2 ^ (32 * w + b) % 2) → w_X5_compareSquare_142 (fun x6 x7 x9 x11 x12 x13 σ => w_X5_compareSquare_81 K Q (b + 1) x6 x7 x9 x11 x12 x13 σ) Q (nI s) (lN (P / 2 ^ 64)) (lN P) (nI w) (nI (P * 2 ^ s / 2 ^ (32 * w) % 2 ^ 32 / 2 ^ (b + 1))) (nI b) s0 (wI σ 14 S) := by
        rintro s0 rfl
        unfold w_X5_compareSquare_142
        rintro y17 rfl y18 rfl
        rw [← bit w b (by omega), l2i_N]
        have hu : P * 2 ^ s / 2 ^ (32 * w) % 2 ^ 32 < 2 ^ 32 := Nat.mod_lt _ (by decide)
        generalize P * 2 ^ s / 2 ^ (32 * w) % 2 ^ 32 = u at hu ih ⊢
        have hd : u / 2 ^ (b + 1) = u / 2 ^ b / 2 := by rw [Nat.div_div_eq_div_mul, ← Nat.pow_succ]
        have hle : u / 2 ^ b ≤ u := Nat.div_le_self _ _
        rw [hd]
        generalize hv : u / 2 ^ b = v at hle ih ⊢
        rw [pk_shlN (n := v / 2) ((1 : Int32) &&& 31) 1 (by decide) (by omega), Nat.pow_one, Nat.mod_eq_of_lt (show v % 2 < 2 ^ 32 by omega), nI_or (by omega) (by omega), show 2 * (v / 2) + v % 2 = v by omega]
        refine ih _ (by omega) ?_
        rw [i_add (by rw [km1, nI_toInt (by omega)]; omega) (by rw [km1, nI_toInt (by omega)]; omega), km1, nI_toInt (by omega)]; omega
      have ks : (nI s).toInt = (s : Int) := nI_toInt (by omega)
      have kw : (nI (32 * w + b)).toInt = ((32 * w + b : Nat) : Int) := nI_toInt (by omega)
      rintro y16 rfl
      have k : (nI (32 * w + b) - nI s).toInt = ((32 * w + b : Nat) : Int) - s := by rw [i_sub (by omega) (by omega), kw, ks]
      have k127 : (127 : Int32).toInt = 127 := by decide
      have k64 : (64 : Int32).toInt = 64 := by decide
      refine ⟨fun z => ?_, fun z => ⟨fun z2 => ⟨fun z3 => ?_, fun z3 => ?_⟩, fun z2 => ?_⟩⟩
      · rw [i_lt, k, t0] at z
        unfold w_X5_compareSquare_111
        exact step 0 (by rw [lo _ (by omega)]; rfl)
      · rw [i_le, k, k64] at z3
        rw [i_le, k, k127] at z2
        have e3 : nI (32 * w + b) - nI s - (64 : Int32) = nI (32 * w + b - s - 64) := by
          rw [pk_sub (by omega), show (64 : Int32) = nI 64 from rfl, pk_sub (by omega)]
        refine step _ ?_
        rw [e3, lushr_N (by omega) (by omega), g_and1 (Nat.lt_of_le_of_lt (Nat.div_le_self _ _) (by omega)), hi _ (by omega), Nat.div_div_eq_div_mul, ← Nat.pow_add, show 64 + (32 * w + b - s - 64) = 32 * w + b - s by omega]
      · rw [i_le, k, k64] at z3
        rw [i_lt, k, t0] at z
        have e3 : nI (32 * w + b) - nI s = nI (32 * w + b - s) := pk_sub (by omega)
        refine step _ ?_
        have e4 : lN P = lN (P % 2 ^ 64) := (lN_mod64 P)
        rw [e3, e4, lushr_N (Nat.mod_lt _ (by decide)) (by omega), g_and1 (Nat.lt_of_le_of_lt (Nat.div_le_self _ _) (Nat.mod_lt _ (by decide))), hi _ (by omega), low_bits (by omega)]
      · rw [i_le, k, k127] at z2
        unfold w_X5_compareSquare_111
        refine step 0 ?_
        rw [hi _ (by omega), Nat.div_eq_of_lt (Nat.lt_of_lt_of_le hmm (Nat.pow_le_pow_right (by decide) (by omega)))]
        rfl
  have loop : ∀ (d : Nat) (x : Int32) (S : Nat → Int32), d ≤ 152 → x.toInt = (d : Int) - 1 → (∀ j, d ≤ j → j < 152 → S j = nI (P * 2 ^ s / 2 ^ (32 * j) % 2 ^ 32)) → ∃ fu, w_X5_compareSquare_69 Q fu (nI s) (lN (P / 2 ^ 64)) (lN P) x (wI σ 14 S) := by
    intro d
    induction d with
    | zero =>
      intro x S _ hx hS
      refine ⟨1, ?_⟩
      rw [w_X5_compareSquare_69]
      refine ⟨fun _ => ?_, fun z => absurd (i_lt.mpr (by rw [hx, t0]; decide)) z⟩
      refine s_cmpWords (V := P * 2 ^ s) (M := M) (by rw [gI_wI_ne (by decide)]; exact hL) (fun j hj => ?_) bM bV (h S)
      rw [gI_wI_eq, hS j (by omega) hj]
      exact nI_word (Nat.mod_lt _ (by decide))
    | succ d ih =>
      intro x S hd hx hS
      have hx2 : x = nI d := i_of (by omega) (by omega)
      subst hx2
      obtain ⟨fu, hfu⟩ := ih (nI d + -1) (upd S d (nI (P * 2 ^ s / 2 ^ (32 * d) % 2 ^ 32))) (by omega) (by
        rw [i_add (by rw [km1, nI_toInt (by omega)]; omega) (by rw [km1, nI_toInt (by omega)]; omega), km1, nI_toInt (by omega)]; omega) (fun j h1 h2 => by
        by_cases e : j = d
        · rw [e, upd_eq]
        · rw [upd_ne e]; exact hS j (by omega) h2)
      refine ⟨fu + 1, ?_⟩
      rw [w_X5_compareSquare_69]
      refine ⟨fun z => absurd z (nI_pos (by omega)), fun _ => ⟨33, ?_⟩⟩
      have := word (fun x6 x7 x9 x11 σ => w_X5_compareSquare_69 Q fu x6 x7 x9 x11 σ) d S (by omega) hfu 32 31 (Nat.le_refl _) (by decide)
      rw [Nat.div_eq_of_lt (Nat.mod_lt _ (by decide))] at this
      exact this
  exact loop 152 151 S (Nat.le_refl _) (by decide) (fun j h1 h2 => absurd h1 (by omega))
theorem s_compareSquare {i M : Nat} {Q : Int32 → St → Prop} {σ : St} (hi : i ≤ mostI) (hM : M < 2 ^ (32 * 150)) (hL : HV (gI σ 13) M) (h : ∀ F, Q (cmpN (dvalI i * dvalI i) M) (wI σ 14 F)) : w_X5_compareSquare Q (lN i) σ := by
  unfold mostI at hi
  unfold w_X5_compareSquare
  rintro y1 rfl
  rw [l_s52 (by omega), l2i_N, Nat.mod_eq_of_lt (show i / 2 ^ 52 < 2 ^ 32 by omega)]
  have km : lN i &&& (4503599627370495 : Int64) = lN (i % 2 ^ 52) := g_mask (s := 52) (p := 2 ^ 52) rfl (by decide) (by omega)
  rw [km]
  have fin : ∀ (m s : Nat) (s0 : Int32), m < 2 ^ 53 → s ≤ 4200 → (2 : Int32) * s0 + 2148 = nI s → dvalI i * dvalI i = m * m * 2 ^ s → w_X5_compareSquare_41 Q (lN m) s0 2 σ := by
    intro m s s0 hm hs e he
    unfold w_X5_compareSquare_41
    rintro y3 rfl
    rw [e]
    refine s_mulHigh hm hm ?_
    rintro y6 rfl
    rw [lN_mul]
    rw [he] at h
    have := s_square hm hs hM hL h 0 (gI σ 14)
    rw [wI_self] at this
    exact this
  by_cases c : i / 2 ^ 52 = 0
  · rw [c]
    refine ⟨fun _ => ?_, fun z => absurd (by decide) z⟩
    unfold w_X5_compareSquare_22
    rintro y2 rfl
    refine ⟨fun _ => ?_, fun z => absurd (by decide) z⟩
    have e0 : lN (i % 2 ^ 52) ||| (0 : Int64) = lN (i % 2 ^ 52) := Int64.or_zero
    rw [e0]
    refine fin (i % 2 ^ 52) 0 (-1074) (by omega) (by omega) (by decide) ?_
    unfold dvalI
    rw [if_pos c, Nat.pow_zero, Nat.mul_one]
  · have np : ¬ nI (i / 2 ^ 52) ≤ 0 := by
      rw [i_le, t0, nI_toInt (by omega)]; omega
    refine ⟨fun z => absurd z np, fun _ => ?_⟩
    unfold w_X5_compareSquare_22
    rintro y2 rfl
    refine ⟨fun z => absurd z np, fun _ => ?_⟩
    have e0 : lN (i % 2 ^ 52) ||| (4503599627370496 : Int64) = lN (i % 2 ^ 52 + 1 * 2 ^ 52) := g_or' (k := 52) (b := 1) rfl (by omega) (by omega)
    rw [e0]
    have k1 : (nI (i / 2 ^ 52)).toInt = ((i / 2 ^ 52 : Nat) : Int) := nI_toInt (by omega)
    have k1075 : (1075 : Int32).toInt = 1075 := by decide
    have k2 : (nI (i / 2 ^ 52) - (1075 : Int32)).toInt = ((i / 2 ^ 52 : Nat) : Int) - 1075 := by rw [i_sub (by omega) (by omega), k1, k1075]
    refine fin (i % 2 ^ 52 + 1 * 2 ^ 52) (2 * (i / 2 ^ 52 - 1)) _ (by omega) (by omega) ?_ ?_
    · refine i_of ?_ (by omega)
      have k3 : ((2 : Int32) * (nI (i / 2 ^ 52) - 1075)).toInt = 2 * (((i / 2 ^ 52 : Nat) : Int) - 1075) := by
        rw [i_mul (by rw [k2, show (2 : Int32).toInt = 2 by decide]; omega) (by rw [k2, show (2 : Int32).toInt = 2 by decide]; omega), k2]; rfl
      have k2148 : (2148 : Int32).toInt = 2148 := by decide
      rw [i_add (by omega) (by omega), k3, k2148]; omega
    · unfold dvalI
      rw [if_neg c, Nat.one_mul, Nat.mul_mul_mul_comm, ← Nat.pow_add, Nat.two_mul]
theorem s_doubleOf {i : Nat} {Q : UInt64 → St → Prop} {σ : St} (hi : i ≤ mostI) (h : Q (U false (dvalI i)) σ) : w_X5_doubleOf Q (lN i) σ := by
  unfold mostI at hi
  unfold w_X5_doubleOf
  rintro y1 rfl y2 rfl
  rw [l_s52 (by omega), l2i_N, Nat.mod_eq_of_lt (show i / 2 ^ 52 < 2 ^ 32 by omega)]
  have km : lN i &&& (4503599627370495 : Int64) = lN (i % 2 ^ 52) := g_mask (s := 52) (p := 2 ^ 52) rfl (by decide) (by omega)
  rw [km]
  unfold dvalI at h
  have k1 : (nI (i / 2 ^ 52)).toInt = ((i / 2 ^ 52 : Nat) : Int) := nI_toInt (by omega)
  refine ⟨fun z => ?_, fun z => ?_⟩
  · have c : ¬ i / 2 ^ 52 = 0 := fun y => z (by rw [y]; rfl)
    rw [if_neg c] at h
    have k1075 : (1075 : Int32).toInt = 1075 := by decide
    have k2 : (nI (i / 2 ^ 52) - (1075 : Int32)).toInt = ((i / 2 ^ 52 : Nat) : Int) - 1075 := by rw [i_sub (by omega) (by omega), k1, k1075]
    have e0 : lN (i % 2 ^ 52) + (4503599627370496 : Int64) = lN (i % 2 ^ 52 + 2 ^ 52) := lN_add _ _
    have e1 : (lN (i % 2 ^ 52 + 2 ^ 52)).toInt = ((i % 2 ^ 52 + 2 ^ 52 : Nat) : Int) := pk_lT (by omega)
    rw [e0]
    have hb : bl (i % 2 ^ 52 + 2 ^ 52) ≤ 53 := bl_le.mpr (by omega)
    refine s_made (by rw [k2]; omega) (by rw [e1]; omega) (by rw [e1, k2, Int.natAbs_natCast]; omega) ?_
    rw [e1, k2, Int.natAbs_natCast, show decide (((i % 2 ^ 52 + 2 ^ 52 : Nat) : Int) < 0) = false from decide_eq_false (by omega), show (((i / 2 ^ 52 : Nat) : Int) - 1075 + 1074).toNat = i / 2 ^ 52 - 1 by omega]
    exact h
  · have c : i / 2 ^ 52 = 0 := by
      have := congrArg Int32.toInt z
      rw [k1, t0] at this; omega
    rw [if_pos c] at h
    have e1 : (lN (i % 2 ^ 52)).toInt = ((i % 2 ^ 52 : Nat) : Int) := pk_lT (by omega)
    have k2 : (-1074 : Int32).toInt = -1074 := by decide
    have hb : bl (i % 2 ^ 52) ≤ 53 := bl_le.mpr (by omega)
    refine s_made (by rw [k2]; omega) (by rw [e1]; omega) (by rw [e1, k2, Int.natAbs_natCast]; omega) ?_
    rw [e1, k2, Int.natAbs_natCast, show decide (((i % 2 ^ 52 : Nat) : Int) < 0) = false from decide_eq_false (by omega), show ((-1074 : Int) + 1074).toNat = 0 by decide, Nat.pow_zero, Nat.mul_one]
    exact h
theorem cmpN_0 {a b : Nat} : cmpN a b = 0 ↔ a = b := by
  unfold cmpN
  split
  · exact ⟨fun _ => by assumption, fun _ => rfl⟩
  · rename_i c
    refine ⟨fun z => ?_, fun z => absurd z c⟩
    split at z <;> exact absurd z (by decide)
theorem cmpN_pos {a b : Nat} : 0 < cmpN a b ↔ b < a := by
  unfold cmpN
  split
  · exact ⟨fun z => absurd z (by decide), fun z => by omega⟩
  · split
    · exact ⟨fun _ => by assumption, fun _ => by decide⟩
    · exact ⟨fun z => absurd z (by decide), fun z => by omega⟩
/-- the double that the search ends at -/
def lenV (j M : Nat) (up : Bool) : UInt64 := if up ∧ dvalI j * dvalI j ≠ M then (if j = mostI then dInf else U false (dvalI (j + 1))) else U false (dvalI j)
theorem s_search {M : Nat} {x2 : Int32} {Q : UInt64 → St → Prop} {σ : St} (hM : M < 2 ^ (32 * 150)) (hL : HV (gI σ 13) M)
    (h : ∀ j F, j ≤ mostI → dvalI j * dvalI j ≤ M → (j = mostI ∨ M < dvalI (j + 1) * dvalI (j + 1)) → Q (lenV j M (decide (¬ x2 = 0))) (wI σ 14 F)) : ∃ fu, w_X5_length_82 Q fu x2 (9218868437227405311 : Int64) (0 : Int64) (9218868437227405311 : Int64) σ := by
  have hm : (9218868437227405311 : Int64) = lN mostI := by decide
  have hmost : mostI + 1 < 2 ^ 63 := by decide
  have hL' : ∀ F, HV (gI (wI σ 14 F) 13) M := fun F => by rw [gI_wI_ne (by decide)]; exact hL
  have base : ∀ (n hi : Nat) (F : Nat → Int32), hi ≤ mostI → dvalI hi * dvalI hi ≤ M → (hi = mostI ∨ M < dvalI (hi + 1) * dvalI (hi + 1)) → w_X5_length_82 Q (n + 1) x2 (lN mostI) (lN hi) (lN hi) (wI σ 14 F) := by
    intro n hi F h3 h4 h5
    rw [w_X5_length_82]
    have h := fun F => h hi F h3 h4 h5
    unfold lenV at h
    refine ⟨fun _ => ⟨fun z => ?_, fun z => ?_⟩, fun z => absurd (Int64.le_refl _) z⟩
    · unfold w_X5_length_144
      refine s_doubleOf h3 ?_
      rw [dF z] at h
      have := h F
      rw [if_neg (fun y => absurd y.1 (by decide))] at this
      exact this
    · rw [dT z] at h
      refine s_compareSquare h3 hM (hL' F) (fun G => ?_)
      rw [wI_wI, cmpN_0]
      have h := h G
      refine ⟨fun ne => ?_, fun e => ?_⟩
      · rw [if_pos ⟨rfl, ne⟩] at h
        have e3 : lN hi = lN mostI ↔ hi = mostI := pk_lEQ (by omega) (by omega)
        rw [e3]
        refine ⟨fun a => ?_, fun a => ?_⟩
        · rw [if_neg a] at h
          have e1 : lN hi + (1 : Int64) = lN (hi + 1) := lN_1 _
          rw [e1]
          exact s_doubleOf (by omega) h
        · rw [if_pos a] at h
          exact h
      · rw [if_neg (fun y => y.2 e)] at h
        unfold w_X5_length_144
        exact s_doubleOf h3 h
  have loop : ∀ (d lo hi : Nat) (F : Nat → Int32), lo ≤ hi → hi - lo < 2 ^ d → hi ≤ mostI → dvalI lo * dvalI lo ≤ M → (hi = mostI ∨ M < dvalI (hi + 1) * dvalI (hi + 1)) → w_X5_length_82 Q (d + 1) x2 (lN mostI) (lN lo) (lN hi) (wI σ 14 F) := by
    intro d
    induction d with
    | zero =>
      intro lo hi F h1 h2 h3 h4 h5
      have e : hi = lo := by omega
      subst e
      exact base 0 hi F h3 h4 h5
    | succ d ih =>
      intro lo hi F h1 h2 h3 h4 h5
      by_cases e : hi = lo
      · subst e
        exact base _ hi F h3 h4 h5
      · rw [w_X5_length_82]
        have cl : lN hi ≤ lN lo ↔ hi ≤ lo := pk_lLE (by omega) (by omega)
        rw [cl]
        refine ⟨fun z => absurd z (by omega), fun _ => ?_⟩
        rw [Nat.pow_succ] at h2
        have e2 : lN lo + (lN hi - lN lo + (1 : Int64)) / (2 : Int64) = lN (lo + (hi - lo + 1) / 2) := by
          rw [lN_sub h1, lN_1, show (2 : Int64) = lN 2 from rfl, pk_lDiv (by omega) (by decide) (by decide), lN_add]
        rintro y15 rfl
        rw [e2]
        refine s_compareSquare (by omega) hM (hL' F) (fun G => ?_)
        rw [wI_wI, cmpN_pos]
        refine ⟨fun a => ?_, fun a => ?_⟩
        · rintro y18 rfl
          have e3 : lN (lo + (hi - lo + 1) / 2) - (1 : Int64) = lN (lo + (hi - lo + 1) / 2 - 1) := lN_sub (b := 1) (by omega)
          rw [e3]
          refine ih lo _ G (by omega) (by omega) (by omega) h4 (Or.inr ?_)
          rw [show lo + (hi - lo + 1) / 2 - 1 + 1 = lo + (hi - lo + 1) / 2 by omega]; exact a
        · exact ih _ hi G (by omega) (by omega) h3 (Nat.not_lt.mp a) h5
  refine ⟨64, ?_⟩
  rw [hm]
  have := loop 63 0 mostI (gI σ 14) (Nat.zero_le _) (by decide) (Nat.le_refl _) (by rw [show dvalI 0 = 0 by decide]; exact Nat.zero_le _) (Or.inl rfl)
  rw [wI_self] at this
  exact this
theorem rS_ge {M : Nat} (h : rLast M ≠ 0) : 2 ^ 52 ≤ rS M := by
  have ht : 52 < rTop M := by unfold rLast at h; omega
  have hb : 2 * rTop M < bl M := by unfold rTop at ht ⊢; omega
  have hM : 2 ^ (2 * rTop M) ≤ M := by
    rcases Nat.lt_or_ge M (2 ^ (2 * rTop M)) with g | g
    · exact absurd (bl_le.mpr g) (by omega)
    · exact g
  have h1 := (FP.Core.sqrtFloor_spec (M / 2 ^ (2 * rLast M))).2
  have h2 : 2 ^ 104 ≤ M / 2 ^ (2 * rLast M) := by
    refine (Nat.le_div_iff_mul_le (Nat.two_pow_pos _)).mpr (Nat.le_trans ?_ hM)
    rw [← Nat.pow_add]
    exact Nat.pow_le_pow_right (by decide) (by unfold rLast; omega)
  have h3 : 2 ^ 52 * 2 ^ 52 < (rS M + 1) * (rS M + 1) := by
    rw [show (2 : Nat) ^ 52 * 2 ^ 52 = 2 ^ 104 by decide]
    exact Nat.lt_of_le_of_lt h2 h1
  have := sq_lt.mp h3
  omega
theorem bl_two {n k : Nat} (h : n < 2 ^ k) : bl n ≤ k := bl_le.mpr h
theorem lenV_root {j M : Nat} {up : Bool} (hj : j ≤ mostI) (h1 : dvalI j * dvalI j ≤ M) (h2 : j = mostI ∨ M < dvalI (j + 1) * dvalI (j + 1)) : lenV j M up = rootV M up := by
  have hs := rS_lt M
  have hl : rLast M = 0 ∨ 2 ^ 52 ≤ rS M := by
    by_cases c : rLast M = 0
    · exact Or.inl c
    · exact Or.inr (rS_ge c)
  have hl1 : rLast M = 0 ∨ 2 ^ 52 ≤ rS M + 1 := by omega
  have sp := FP.Core.sqrtFloor_spec (M / 2 ^ (2 * rLast M))
  have dv0 := dvalI_at hl (by omega)
  have dv1 := dvalI_at hl1 (by omega)
  have sq : ∀ a : Nat, a * 2 ^ rLast M * (a * 2 ^ rLast M) = a * a * 2 ^ (2 * rLast M) := fun a => by
    rw [Nat.mul_mul_mul_comm, ← Nat.pow_add, Nat.two_mul]
  have lo : dvalI (rLast M * 2 ^ 52 + rS M) * dvalI (rLast M * 2 ^ 52 + rS M) ≤ M := by
    rw [dv0, sq]
    exact (Nat.le_div_iff_mul_le (Nat.two_pow_pos _)).mp sp.1
  have hi : M < dvalI (rLast M * 2 ^ 52 + rS M + 1) * dvalI (rLast M * 2 ^ 52 + rS M + 1) := by
    rw [Nat.add_assoc, dv1, sq]
    exact (Nat.div_lt_iff_lt_mul (Nat.two_pow_pos _)).mp sp.2
  have j1 : j ≤ rLast M * 2 ^ 52 + rS M := by
    have := dvalI_lt (sq_lt.mp (Nat.lt_of_le_of_lt h1 hi))
    omega
  have j2 : j = mostI ∨ rLast M * 2 ^ 52 + rS M ≤ j := by
    rcases h2 with a | a
    · exact Or.inl a
    · have := dvalI_lt (sq_lt.mp (Nat.lt_of_le_of_lt lo a))
      exact Or.inr (by omega)
  have hx : rEx M = true ↔ dvalI (rLast M * 2 ^ 52 + rS M) * dvalI (rLast M * 2 ^ 52 + rS M) = M := by
    rw [dv0, sq]; unfold rEx; rw [decide_eq_true_iff]
  have z2 : (1024 : Int) = 1024 := rfl
  have st : ((rLast M : Int) - 1074 + 1074).toNat = rLast M := by omega
  have small : ∀ {w : Nat} {way : Int32}, bl w + rLast M ≤ 2098 → finV w ((rLast M : Int) - 1074) false way false = U false (w * 2 ^ rLast M) := by
    intro w way hb
    unfold finV
    rw [st]
    by_cases c : w = 0
    · rw [if_pos c, c, Nat.zero_mul]
    · rw [if_neg c, if_neg (by rw [if_neg (by decide)]; omega)]
  have big : ∀ {w : Nat} {way : Int32}, w ≠ 0 → 2098 < bl w + rLast M → finV w ((rLast M : Int) - 1074) false way false = (if way = 0 ∨ way = 2 then dInf else U false ((2 ^ 53 - 1) * 2 ^ 2045)) := by
    intro w way c hb
    unfold finV
    rw [if_neg c, if_pos (by rw [if_neg (by decide)]; omega)]
    rfl
  have n12 : ¬ ((1 : Int32) = 0 ∨ (1 : Int32) = 2) := by decide
  have y22 : ((2 : Int32) = 0 ∨ (2 : Int32) = 2) := by decide
  unfold rootV lenV
  unfold mostI at *
  have b53 := bl_two hs
  by_cases hc : rLast M * 2 ^ 52 + rS M ≤ 2047 * 2 ^ 52 - 1
  · have e : j = rLast M * 2 ^ 52 + rS M := by omega
    subst e
    have l45 : rLast M ≤ 2045 := by omega
    cases up
    · rw [if_neg (fun y => absurd y.1 (by decide)), dv0]
      rw [show (rS M + if (false && !rEx M) = true then 1 else 0) = rS M from rfl]
      exact (small (by omega)).symm
    · cases hE : rEx M
      · have ne : dvalI (rLast M * 2 ^ 52 + rS M) * dvalI (rLast M * 2 ^ 52 + rS M) ≠ M := fun y => by rw [hx.mpr y] at hE; exact absurd hE (by decide)
        rw [if_pos ⟨rfl, ne⟩]
        rw [show (rS M + if (true && !false) = true then 1 else 0) = rS M + 1 from rfl]
        by_cases c : rLast M * 2 ^ 52 + rS M = 2047 * 2 ^ 52 - 1
        · have q1 : rLast M = 2045 := by omega
          have q2 : rS M + 1 = 2 ^ 53 := by omega
          rw [if_pos c, if_pos rfl, big (by omega) (by rw [q2, q1]; decide), if_pos y22]
        · rw [if_neg c, Nat.add_assoc, dv1, if_pos rfl]
          refine (small ?_).symm
          by_cases q : rS M + 1 < 2 ^ 53
          · have := bl_two q; omega
          · have : bl (rS M + 1) ≤ 54 := bl_two (by omega)
            omega
      · have ye := hx.mp hE
        rw [if_neg (fun y => y.2 ye), dv0]
        exact (small (by omega)).symm
  · have e : j = 2047 * 2 ^ 52 - 1 := by omega
    have l46 : 2046 ≤ rLast M := by omega
    have s52 : 2 ^ 52 ≤ rS M := by omega
    have bg : 52 < bl (rS M) := by
      rcases Nat.lt_or_ge 52 (bl (rS M)) with g | g
      · exact g
      · have := bl_le.mp g; omega
    have bg1 : 52 < bl (rS M + 1) := by
      rcases Nat.lt_or_ge 52 (bl (rS M + 1)) with g | g
      · exact g
      · have := bl_le.mp g; omega
    have lt : dvalI j * dvalI j < M := Nat.lt_of_lt_of_le (sq_lt.mpr (dvalI_mono (by omega : j < rLast M * 2 ^ 52 + rS M))) lo
    cases up
    · rw [if_neg (fun y => absurd y.1 (by decide))]
      rw [show (rS M + if (false && !rEx M) = true then 1 else 0) = rS M from rfl, big (by omega) (by omega), if_neg (show ¬ false = true by decide), if_neg n12, e, show 2047 * 2 ^ 52 - 1 = 2045 * 2 ^ 52 + (2 ^ 53 - 1) by decide, dvalI_at (Or.inr (by decide)) (by decide)]
    · rw [if_pos ⟨rfl, Nat.ne_of_lt lt⟩, if_pos e, if_pos rfl]
      cases hE : rEx M
      · rw [show (rS M + if (true && !false) = true then 1 else 0) = rS M + 1 from rfl, big (by omega) (by omega), if_pos y22]
      · rw [show (rS M + if (true && !true) = true then 1 else 0) = rS M from rfl, big (by omega) (by omega), if_pos y22]
theorem s_lengthR {A : AS} {N : Nat} {x1 x2 : Int32} {Q : UInt64 → St → Prop} {σ : St} (hR : RR A σ) (ho : OK N A) (hN : N ≤ 512) (h : ∀ σ', RR A σ' → Q (t_length A x1 x2) σ') : w_X5_length Q x1 x2 σ := by
  unfold w_X5_length
  unfold t_length at h
  rintro σ1 rfl
  have hR := hR.thr
  generalize uI σ 0 0 0 = σ at hR ⊢
  have bad : ¬ (isK x1 ∧ (A.2.1 (ix x1)).1 ≠ -1 ∧ (A.2.1 (ix x1)).1 ≠ 0) → Q FP.dconst0 σ := by
    intro c
    rw [if_neg c] at h
    rw [u_zero]; exact h σ hR
  refine s_isKeeperR (fun c1 => ⟨fun z => absurd z n10, fun _ => ?_⟩) (fun c1 => ⟨fun _ => bad (fun z => c1 z.1), fun z => absurd rfl z⟩)
  obtain ⟨e1, l1⟩ := isK_nI c1
  have hK := hR.2.1 _ l1
  have k0 : gI σ 6 (ix x1) = 0 ↔ (A.2.1 (ix x1)).1 = 0 := by
    rw [← hK.1]
    exact ⟨fun z => by rw [z]; rfl, fun z => i_ext (by rw [z]; rfl)⟩
  rw [hK.gone, k0]
  have hin : vp_in x1 7 := by rw [e1]; exact in_nI (by omega) (by decide)
  refine ⟨hin, fun g => bad (fun z => z.2.1 g), fun g => ⟨hin, fun z => ?_, fun z => bad (fun y => y.2.2 z)⟩⟩
  rw [if_pos ⟨c1, g, z⟩] at h
  have b := (ho.2.1 _ l1).rng hN
  have hM := p4800 b.1 b.2
  have hl := sortK_lt (A.2.1 (ix x1)).2.2
  have hs : ∀ {y : Nat}, y < 4 → (nI (sortK (A.2.1 (ix x1)).2.2) = nI y ↔ sortK (A.2.1 (ix x1)).2.2 = y) := fun hy => nI_eq (by omega) (by omega)
  have d1 : nI (sortK (A.2.1 (ix x1)).2.2) = 1 ↔ sortK (A.2.1 (ix x1)).2.2 = 1 := hs (y := 1) (by decide)
  have d0 : nI (sortK (A.2.1 (ix x1)).2.2) = 0 ↔ sortK (A.2.1 (ix x1)).2.2 = 0 := hs (y := 0) (by decide)
  rw [e1]
  refine s_sortOfK l1 hK ?_
  show _ ∧ _
  rw [d0, d1]
  refine ⟨fun q => ?_, fun q => ⟨fun q2 => ?_, fun q2 => ?_⟩⟩
  · rw [if_neg (by omega), if_neg (by omega)] at h
    refine s_take l1 hK b (fun σ9 tk => ?_)
    obtain ⟨f, hv, h20, h21⟩ := tk
    rw [min_flag h20, decide_eq_false_iff_not]
    refine ⟨fun y => ?_, fun y => ?_⟩
    · rw [if_neg y] at h
      refine s_search hM hv (fun j F hj a1 a2 => ?_)
      rw [lenV_root hj a1 a2]
      exact h _ (hR.scr (f.tr (fr_w (by decide))))
    · rw [if_pos (Decidable.not_not.mp y)] at h
      rw [u_zero]; exact h _ (hR.scr f)
  · rw [if_pos (by omega)] at h
    rw [u_zero]; exact h _ hR
  · rw [if_neg (by omega), if_pos q2] at h
    exact h _ hR
