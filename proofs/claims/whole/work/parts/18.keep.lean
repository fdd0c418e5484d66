/-! states in their plain form: whole arrays replaced -/
def wD (σ : St) (c : Nat) (g : Nat → UInt64) : St := (σ.1, σ.2.1, u1 σ.2.2 c g)
theorem st_ext {σ τ : St} (h1 : gI σ = gI τ) (h2 : gJ σ = gJ τ) (h3 : gD σ = gD τ) : σ = τ := by
  obtain ⟨a, b, c⟩ := σ
  obtain ⟨a', b', c'⟩ := τ
  have e1 : a = a' := h1
  have e2 : b = b' := h2
  have e3 : c = c' := h3
  rw [e1, e2, e3]
theorem gI_wI_eq (σ : St) (c : Nat) (g : Nat → Int32) : gI (wI σ c g) c = g := funext fun j => by rw [gI_wI, if_pos rfl]
theorem gJ_wJ_eq (σ : St) (c : Nat) (g : Nat → Int64) : gJ (wJ σ c g) c = g := funext fun j => by rw [gJ_wJ, if_pos rfl]
theorem gI_wI_ne {σ : St} {c a : Nat} {g : Nat → Int32} (h : a ≠ c) : gI (wI σ c g) a = gI σ a := funext fun j => by rw [gI_wI, if_neg h]
theorem gJ_wJ_ne {σ : St} {c a : Nat} {g : Nat → Int64} (h : a ≠ c) : gJ (wJ σ c g) a = gJ σ a := funext fun j => by rw [gJ_wJ, if_neg h]
theorem gD_wD (σ : St) (c : Nat) (g : Nat → UInt64) (a b : Nat) : gD (wD σ c g) a b = if a = c then g b else gD σ a b := rfl
theorem gD_wD_eq (σ : St) (c : Nat) (g : Nat → UInt64) : gD (wD σ c g) c = g := funext fun j => by rw [gD_wD, if_pos rfl]
theorem gI_wD (σ : St) (c : Nat) (g : Nat → UInt64) : gI (wD σ c g) = gI σ := rfl
theorem gJ_wD (σ : St) (c : Nat) (g : Nat → UInt64) : gJ (wD σ c g) = gJ σ := rfl
theorem uI_w (σ : St) (c j : Nat) (v : Int32) : uI σ c j v = wI σ c (upd (gI σ c) j v) := by
  refine st_ext (funext fun a => funext fun b => ?_) rfl rfl
  rw [gI_uI, gI_wI]
  by_cases h : a = c
  · subst h; simp [upd]
  · simp [h]
theorem uJ_w (σ : St) (c j : Nat) (v : Int64) : uJ σ c j v = wJ σ c (vp_updL (gJ σ c) j v) := by
  refine st_ext rfl (funext fun a => funext fun b => ?_) rfl
  rw [gJ_uJ, gJ_wJ]
  by_cases h : a = c
  · subst h; simp [vp_updL]
  · simp [h]
theorem uD_w (σ : St) (c j : Nat) (v : UInt64) : uD σ c j v = wD σ c (vf_upd (gD σ c) j v) := by
  refine st_ext rfl rfl (funext fun a => funext fun b => ?_)
  rw [gD_uD, gD_wD]
  by_cases h : a = c
  · subst h; simp [vf_upd]
  · simp [h]
theorem wI_wI (σ : St) (c : Nat) (f g : Nat → Int32) : wI (wI σ c f) c g = wI σ c g := by
  refine st_ext (funext fun a => funext fun b => ?_) rfl rfl
  rw [gI_wI, gI_wI, gI_wI]
  by_cases h : a = c <;> simp [h]
theorem wJ_wJ (σ : St) (c : Nat) (f g : Nat → Int64) : wJ (wJ σ c f) c g = wJ σ c g := by
  refine st_ext rfl (funext fun a => funext fun b => ?_) rfl
  rw [gJ_wJ, gJ_wJ, gJ_wJ]
  by_cases h : a = c <;> simp [h]
theorem wD_wD (σ : St) (c : Nat) (f g : Nat → UInt64) : wD (wD σ c f) c g = wD σ c g := by
  refine st_ext rfl rfl (funext fun a => funext fun b => ?_)
  rw [gD_wD, gD_wD, gD_wD]
  by_cases h : a = c <;> simp [h]
theorem wI_self (σ : St) (c : Nat) : wI σ c (gI σ c) = σ := by
  refine st_ext (funext fun a => funext fun b => ?_) rfl rfl
  rw [gI_wI]
  by_cases h : a = c
  · subst h; simp
  · simp [h]
theorem wJ_self (σ : St) (c : Nat) : wJ σ c (gJ σ c) = σ := by
  refine st_ext rfl (funext fun a => funext fun b => ?_) rfl
  rw [gJ_wJ]
  by_cases h : a = c
  · subst h; simp
  · simp [h]
theorem wI_wJ (σ : St) (c d : Nat) (f : Nat → Int32) (g : Nat → Int64) : wI (wJ σ d g) c f = wJ (wI σ c f) d g := rfl
theorem wI_wD (σ : St) (c d : Nat) (f : Nat → Int32) (g : Nat → UInt64) : wI (wD σ d g) c f = wD (wI σ c f) d g := rfl
theorem wI_comm {σ : St} {c d : Nat} {f g : Nat → Int32} (h : c ≠ d) : wI (wI σ c f) d g = wI (wI σ d g) c f := by
  refine st_ext (funext fun a => funext fun b => ?_) rfl rfl
  rw [gI_wI, gI_wI, gI_wI, gI_wI]
  by_cases h1 : a = d
  · subst h1; simp [Ne.symm h]
  · simp [h1]
theorem updL_eq {f : Nat → Int64} {k : Nat} {x : Int64} : vp_updL f k x k = x := pk_uLs
theorem updL_ne {f : Nat → Int64} {k j : Nat} {x : Int64} (h : j ≠ k) : vp_updL f k x j = f j := pk_uLn h
/-! the class's keepers: carrying -/
theorem carry_loop {k : Nat} {F : Nat → Int} {Q : St → Prop} {σ : St} (hF : ∀ j, j < 150 → -4611686018427387904 ≤ F j ∧ F j ≤ 4611686018427387904) (h : ∀ L', KV L' (sm F 150) → Q (wJ σ (k + 2) L')) :
    ∀ (d i : Nat) (L : Nat → Int64) (x1 : Int64), i + d = 149 → (∀ j, i ≤ j → j < 150 → (L j).toInt = F j) → (∀ j, j < i → (L j).toInt = dgI (sm F 150) j) → x1.toInt = sm F i / 2 ^ (32 * i) → -2147483648 ≤ x1.toInt → x1.toInt ≤ 2147483648 → w_X1_carry_4 k Q (d + 1) x1 (nI i) (wJ σ (k + 2) L) := by
  intro d
  induction d with
  | zero =>
    intro i L x1 hi hge hlt hx hb1 hb2
    have : i = 149 := by omega
    subst this
    rw [w_X1_carry_4]
    refine ⟨fun _ => ?_, fun q => absurd (by decide) q⟩
    rintro σ1 rfl
    rw [uJ_w, wJ_wJ, gJ_wJ_eq, show ix (149 : Int32) = 149 from rfl]
    have hf := hF 149 (by decide)
    have h149 := hge 149 (by decide) (by decide)
    have hst := sm_step F 0 149
    rw [Int.zero_add, Int.zero_add] at hst
    refine h _ ⟨fun j hj => ?_, ?_⟩
    · rw [updL_ne (by omega)]; exact hlt j hj
    · rw [updL_eq, l_add (by omega) (by omega), h149, hx]
      exact hst.symm
  | succ d ih =>
    intro i L x1 hi hge hlt hx hb1 hb2
    rw [w_X1_carry_4]
    refine ⟨fun q => ?_, fun _ => ?_⟩
    · have := (nI_leI (a := 149) (b := i) (by decide) (by omega)).mp q
      omega
    · have hin : vp_in (nI i) 150 := in_nI (by omega) (by decide)
      refine ⟨hin, ?_⟩
      rintro y3 rfl
      refine ⟨hin, ?_⟩
      rintro σ5 rfl y6 rfl y7 rfl
      rw [uJ_w, wJ_wJ, gJ_wJ_eq, ix_nI (by omega), nI_1]
      have hf := hF i (by omega)
      have hLi := hge i (Nat.le_refl _) (by omega)
      have hy : (L i + x1).toInt = F i + sm F i / 2 ^ (32 * i) := by
        rw [l_add (by omega) (by omega), hLi, hx]
      have hov := sm_over F 0 i
      rw [Int.zero_add, Int.zero_add] at hov
      have hsy := sm_stay F 0 i
      rw [Int.zero_add, Int.zero_add] at hsy
      have hdg := sm_dig F 0 (show i < 150 by omega)
      rw [Int.zero_add, Int.zero_add] at hdg
      refine ih (i + 1) _ _ (by omega) (fun j hj hj2 => ?_) (fun j hj => ?_) ?_ ?_ ?_
      · rw [updL_ne (by omega)]; exact hge j (by omega) hj2
      · by_cases hji : j = i
        · subst hji
          rw [updL_eq, l_low, hy, hdg, hsy]
        · rw [updL_ne hji]; exact hlt j (by omega)
      · rw [show (32 : Int32) = 32 from rfl, l_high, hy, hov]
      · rw [l_high, hy]
        have := hx
        omega
      · rw [l_high, hy]
        have := hx
        omega
theorem s_carry {k : Nat} {Q : St → Prop} {σ : St} {L : Nat → Int64} (hF : ∀ j, j < 150 → -4611686018427387904 ≤ (L j).toInt ∧ (L j).toInt ≤ 4611686018427387904) (h : ∀ L', KV L' (sm (fun i => (L i).toInt) 150) → Q (wJ σ (k + 2) L')) : w_X1_carry k Q (wJ σ (k + 2) L) := by
  unfold w_X1_carry
  refine ⟨150, ?_⟩
  refine carry_loop (F := fun i => (L i).toInt) hF h 149 0 L 0 rfl (fun j _ _ => rfl) (fun j hj => absurd hj (by omega)) ?_ (by decide) (by decide)
  show (0 : Int64).toInt = 0 / 2 ^ (32 * 0)
  decide
/-! gaining a product -/
def sgnI (below : Bool) (v : Int) : Int := if below then -v else v
theorem s_half {k : Nat} {Q : St → Prop} {σ : St} {L : Nat → Int64} {hf at_ : Nat} {below : Int32} {B : Int} (hb : B ≤ 1152921504606846976) (hh : hf < 2 ^ 32) (ha : at_ < 4768) (hL : ∀ j, j < 150 → -B ≤ (L j).toInt ∧ (L j).toInt ≤ B)
    (h : ∀ L', sm (fun i => (L' i).toInt) 150 = sm (fun i => (L i).toInt) 150 + sgnI (decide (¬ below = 0)) (hf * 2 ^ at_) → (∀ j, j < 150 → -(B + 4294967296) ≤ (L' j).toInt ∧ (L' j).toInt ≤ B + 4294967296) → Q (wJ σ (k + 2) L')) : w_X1_gainHalf k Q (lN hf) (nI at_) below (wJ σ (k + 2) L) := by
  unfold w_X1_gainHalf
  rintro y1 rfl
  have hB0 : 0 ≤ B := by have := hL 0 (by decide); omega
  refine ⟨fun hz => ?_, fun hz => ?_⟩
  · have h0 : hf = 0 := by
      have e : lN hf = lN 0 := hz
      exact (pk_lEQ (by omega) (by decide)).mp e
    refine h L ?_ (fun j hj => by have := hL j hj; omega)
    rw [h0]
    unfold sgnI
    split <;> simp
  · refine ⟨fun q => absurd q (nI_pos (by omega)), fun _ => ?_⟩
    rw [show (32 : Int32) = nI 32 from rfl, pk_div (by omega) (by decide) (by decide), show nI at_ - nI (at_ / 32) * nI 32 = nI (at_ % 32) by rw [← pk_div (by omega) (by decide) (by decide)]; exact pk_rem (by omega) (by decide) (by decide)]
    refine ⟨fun _ => ?_, fun q => absurd ((nI_ltI (a := at_ / 32) (b := 149) (by omega) (by decide)).mpr (by omega)) q⟩
    rintro y2 rfl y3 rfl y4 rfl
    have hm : at_ % 32 < 32 := Nat.mod_lt _ (by decide)
    have hp : 2 ^ (at_ % 32) ≤ 2 ^ 31 := Nat.pow_le_pow_right (by decide) (by omega)
    have hmv : hf * 2 ^ (at_ % 32) < 2 ^ 63 := by
      calc hf * 2 ^ (at_ % 32) < 2 ^ 32 * 2 ^ (at_ % 32) := Nat.mul_lt_mul_of_pos_right hh (Nat.two_pow_pos _)
        _ ≤ 2 ^ 32 * 2 ^ 31 := Nat.mul_le_mul_left _ hp
        _ = 2 ^ 63 := by decide
    rw [lshl_N _ (by omega), lushr_N (by omega) (by decide), show (4294967295 : Int64) = lN (2 ^ 32 - 1) from rfl, wb_mask (by omega) (by decide)]
    generalize hmvd : hf * 2 ^ (at_ % 32) = mv at hmv ⊢
    have hi : at_ / 32 < 149 := by omega
    refine ⟨in_nI (by omega) (by decide), ?_⟩
    rw [gJ_wJ_eq, ix_nI (by omega)]
    have lowI : (lN (mv % 2 ^ 32)).toInt = ((mv % 2 ^ 32 : Nat) : Int) := pk_lT (by omega)
    have resI : (lN (mv / 2 ^ 32)).toInt = ((mv / 2 ^ 32 : Nat) : Int) := pk_lT (by omega)
    have hval : (hf : Int) * 2 ^ at_ = ((mv : Nat) : Int) * 2 ^ (32 * (at_ / 32)) := by
      have e : hf * 2 ^ at_ = mv * 2 ^ (32 * (at_ / 32)) := by
        rw [← hmvd, Nat.mul_assoc, ← Nat.pow_add]
        exact congrArg (fun k => hf * 2 ^ k) (by omega)
      have e2 := congrArg (fun z : Nat => (z : Int)) e
      simpa using e2
    have key : ∀ (u v : Int64) (s : Int), u.toInt = s * ((mv % 2 ^ 32 : Nat) : Int) → v.toInt = s * ((mv / 2 ^ 32 : Nat) : Int) → (s = 1 ∨ s = -1) → sgnI (decide (¬ below = 0)) (hf * 2 ^ at_) = s * (hf * 2 ^ at_) →
        Q (wJ σ (k + 2) (vp_updL (vp_updL L (at_ / 32) (L (at_ / 32) + u)) (at_ / 32 + 1) (vp_updL L (at_ / 32) (L (at_ / 32) + u) (at_ / 32 + 1) + v))) := by
      intro u v s hu hv hs hsg
      have b1 := hL (at_ / 32) (by omega)
      have b2 := hL (at_ / 32 + 1) (by omega)
      have a1 : (L (at_ / 32) + u).toInt = (L (at_ / 32)).toInt + u.toInt := l_add (by rcases hs with rfl | rfl <;> omega) (by rcases hs with rfl | rfl <;> omega)
      have a2 : (L (at_ / 32 + 1) + v).toInt = (L (at_ / 32 + 1)).toInt + v.toInt := l_add (by rcases hs with rfl | rfl <;> omega) (by rcases hs with rfl | rfl <;> omega)
      rw [updL_ne (f := L) (k := at_ / 32) (j := at_ / 32 + 1) (by omega)]
      refine h _ ?_ (fun j hj => ?_)
      · have e1 : ∀ i, (vp_updL (vp_updL L (at_ / 32) (L (at_ / 32) + u)) (at_ / 32 + 1) (L (at_ / 32 + 1) + v) i).toInt = (if i = at_ / 32 + 1 then (if i = at_ / 32 then (L i).toInt + u.toInt else (L i).toInt) + v.toInt else (if i = at_ / 32 then (L i).toInt + u.toInt else (L i).toInt)) := by
          intro i
          by_cases c1 : i = at_ / 32 + 1
          · subst c1
            rw [updL_eq, if_pos rfl, if_neg (by omega), a2]
          · rw [updL_ne c1, if_neg c1]
            by_cases c2 : i = at_ / 32
            · subst c2
              rw [updL_eq, if_pos rfl, a1]
            · rw [updL_ne c2, if_neg c2]
        rw [sm_congr (fun i _ => e1 i), sm_set (F := fun i => if i = at_ / 32 then (L i).toInt + u.toInt else (L i).toInt) (k := at_ / 32 + 1) (by omega), sm_set (F := fun i => (L i).toInt) (k := at_ / 32) (by omega), hsg, hval, p32, hu, hv]
        have e3 : ((mv : Nat) : Int) = ((mv % 2 ^ 32 : Nat) : Int) + ((mv / 2 ^ 32 : Nat) : Int) * 4294967296 := by omega
        rw [e3]
        generalize ((mv % 2 ^ 32 : Nat) : Int) = a
        generalize ((mv / 2 ^ 32 : Nat) : Int) = b
        generalize (2 : Int) ^ (32 * (at_ / 32)) = P
        rw [Int.add_assoc]
        congr 1
        rw [Int.add_mul, Int.mul_add, Int.mul_assoc s a, Int.mul_assoc s b, Int.mul_assoc b, Int.mul_comm 4294967296 P]
      · by_cases c1 : j = at_ / 32 + 1
        · subst c1
          rw [updL_eq, a2]
          rcases hs with rfl | rfl <;> omega
        · rw [updL_ne c1]
          by_cases c2 : j = at_ / 32
          · subst c2
            rw [updL_eq, a1]
            rcases hs with rfl | rfl <;> omega
          · rw [updL_ne c2]
            have := hL j hj
            omega
    have nxt : (nI (at_ / 32) + (1 : Int32)) = nI (at_ / 32 + 1) := nI_1 _
    refine ⟨fun hb0 => ?_, fun hb0 => ?_⟩
    · unfold w_X1_gainHalf_69
      refine ⟨in_nI (by omega) (by decide), ?_⟩
      rintro σ7 rfl
      rw [nxt, uJ_w, wJ_wJ, gJ_wJ_eq, gJ_wJ_eq, ix_nI (by omega), ix_nI (by omega)]
      refine ⟨in_nI (by omega) (by decide), fun _ => ?_, fun q => absurd hb0 q⟩
      unfold w_X1_gainHalf_94
      refine ⟨in_nI (by omega) (by decide), ?_⟩
      rintro σ10 rfl
      rw [uJ_w, wJ_wJ, gJ_wJ_eq, ix_nI (by omega)]
      refine key _ _ 1 (by rw [lowI]; omega) (by rw [resI]; omega) (Or.inl rfl) ?_
      rw [decide_eq_false (fun q => q hb0)]
      unfold sgnI
      rw [if_neg (by decide)]
      omega
    · unfold w_X1_gainHalf_69
      refine ⟨in_nI (by omega) (by decide), ?_⟩
      rintro σ7 rfl
      rw [nxt, uJ_w, wJ_wJ, gJ_wJ_eq, gJ_wJ_eq, ix_nI (by omega), ix_nI (by omega)]
      refine ⟨in_nI (by omega) (by decide), fun q => absurd q hb0, fun _ => ?_⟩
      unfold w_X1_gainHalf_94
      refine ⟨in_nI (by omega) (by decide), ?_⟩
      rintro σ10 rfl
      rw [uJ_w, wJ_wJ, gJ_wJ_eq, ix_nI (by omega)]
      refine key _ _ (-1) (by rw [l_neg (by omega), lowI]; omega) (by rw [l_neg (by omega), resI]; omega) (Or.inr rfl) ?_
      rw [decide_eq_true hb0]
      unfold sgnI
      rw [if_pos rfl]
      omega
