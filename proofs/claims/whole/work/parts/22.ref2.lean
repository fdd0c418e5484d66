/-! the reference's sums: a product of bits, a meeting, a number taken apart -/
theorem upd_eq {f : Nat → Int32} {k : Nat} {x : Int32} : upd f k x k = x := if_pos rfl
theorem upd_ne {f : Nat → Int32} {k j : Nat} {x : Int32} (h : j ≠ k) : upd f k x j = f j := if_neg h
theorem sm_ones (G : Nat → Int) : ∀ n, sm (fun i => 4294967295 - G i) n = 2 ^ (32 * n) - 1 - sm G n := by
  intro n
  induction n with
  | zero => rfl
  | succ n ih =>
    show sm (fun i => 4294967295 - G i) n + (4294967295 - G n) * 2 ^ (32 * n) = 2 ^ (32 * (n + 1)) - 1 - (sm G n + G n * 2 ^ (32 * n))
    rw [ih, p32, Int.sub_mul]
    generalize (2 : Int) ^ (32 * n) = K
    omega
theorem notlow {a : Nat} (h : a < 4294967296) : (lN a ^^^ (-1 : Int64)) &&& 4294967295 = lN (4294967295 - a) := by
  refine l_of ?_ (by omega)
  have e : (lN a).toInt = (a : Int) := pk_lT (by omega)
  have e1 : (1 : Int64).toInt = 1 := by decide
  have e2 : (-lN a).toInt = -(a : Int) := by rw [l_neg (by omega), e]
  rw [l_low, Int64.xor_neg_one, Int64.not_eq_neg_add, l_sub (by omega) (by omega), e2, e1]
  omega
/-- the words of a keeper of the reference -/
def WK (S : Nat → Int32) (kp : Nat) (N : Int) : Prop := ∀ i, i < 152 → (S (152 * kp + i)).toInt % 4294967296 = dgI N i
def abF (N D : Int) (tk : Int32) (i : Nat) : Int := dgI N i + (if tk = 0 then dgI D i else 4294967295 - dgI D i)
theorem ab_fin (N D : Int) (tk : Int32) (c : Nat) (hc : c = if tk = 0 then 0 else 1) : ∃ z, N + sgnI (decide (¬ tk = 0)) D = (c + sm (abF N D tk) 152) + z * 2 ^ (32 * 152) := by
  have h1 := sm_dg N 152
  have h2 := sm_dg D 152
  have h3 := sm_ones (dgI D) 152
  unfold abF
  rw [sm_add (dgI N) (fun i => if tk = 0 then dgI D i else 4294967295 - dgI D i)]
  by_cases ht : tk = 0
  · rw [if_pos ht] at hc
    rw [sm_congr (F := fun i => if tk = 0 then dgI D i else 4294967295 - dgI D i) (G := dgI D) (fun i _ => if_pos ht), decide_eq_false (fun z => z ht)]
    unfold sgnI
    rw [if_neg (by decide)]
    subst hc
    refine ⟨N / 2 ^ (32 * 152) + D / 2 ^ (32 * 152), ?_⟩
    rw [Int.add_mul]
    generalize (2 : Int) ^ (32 * 152) = M at h1 h2 ⊢
    generalize N / M * M = a at h1 ⊢
    generalize D / M * M = b at h2 ⊢
    generalize sm (dgI N) 152 = x at h1 ⊢
    generalize sm (dgI D) 152 = y at h2 ⊢
    omega
  · rw [if_neg ht] at hc
    rw [sm_congr (F := fun i => if tk = 0 then dgI D i else 4294967295 - dgI D i) (G := fun i => 4294967295 - dgI D i) (fun i _ => if_neg ht), decide_eq_true ht, h3]
    unfold sgnI
    rw [if_pos rfl]
    subst hc
    refine ⟨N / 2 ^ (32 * 152) - D / 2 ^ (32 * 152) - 1, ?_⟩
    rw [Int.sub_mul, Int.sub_mul]
    generalize (2 : Int) ^ (32 * 152) = M at h1 h2 ⊢
    generalize N / M * M = a at h1 ⊢
    generalize D / M * M = b at h2 ⊢
    generalize sm (dgI N) 152 = x at h1 ⊢
    generalize sm (dgI D) 152 = y at h2 ⊢
    omega
theorem ab_loop {Q : St → Prop} {σ : St} {hi lo at_ kp c : Nat} {tk : Int32} {N : Int} {S0 : Nat → Int32} (hlo : lo < 2 ^ 64) (hhi : hi < 2 ^ 64) (hat : at_ < 4864) (hk : kp < 7) (hc : c = if tk = 0 then 0 else 1)
    (h : ∀ S', WK S' kp (N + sgnI (decide (¬ tk = 0)) (((hi * 2 ^ 64 + lo) * 2 ^ at_ : Nat) : Int)) → (∀ j, (j < 152 * kp ∨ 152 * kp + 152 ≤ j) → S' j = S0 j) → Q (wI σ 7 S')) :
    ∀ (d i : Nat) (S : Nat → Int32) (o : Nat), i + d = 152 → (∀ j, i ≤ j → j < 152 → (S (152 * kp + j)).toInt % 4294967296 = dgI N j) →
      (∀ j, j < i → (S (152 * kp + j)).toInt % 4294967296 = dgI (c + sm (abF N (((hi * 2 ^ 64 + lo) * 2 ^ at_ : Nat) : Int) tk) 152) j) → (∀ j, (j < 152 * kp ∨ 152 * kp + 152 ≤ j) → S j = S0 j) →
      (o : Int) = (c + sm (abF N (((hi * 2 ^ 64 + lo) * 2 ^ at_ : Nat) : Int) tk) i) / 2 ^ (32 * i) → o ≤ 1 →
      w_X5_addBits_37 Q (d + 1) (nI kp) (lN hi) (lN lo) tk (nI (at_ / 32)) (nI (at_ % 32)) (lN o) (nI i) (wI σ 7 S) := by
  generalize hD : (((hi * 2 ^ 64 + lo) * 2 ^ at_ : Nat) : Int) = D at h ⊢
  have hfin := ab_fin N D tk c hc
  intro d
  induction d with
  | zero =>
    intro i S o hi2 hge hlt hout ho ho1
    have : i = 152 := by omega
    subst this
    rw [w_X5_addBits_37]
    refine ⟨fun _ => h S (fun j hj => ?_) hout, fun q => absurd (by decide) q⟩
    obtain ⟨z, hz⟩ := hfin
    rw [hlt j hj, dg_mod hz hj]
  | succ d ih =>
    intro i S o hi2 hge hlt hout ho ho1
    rw [w_X5_addBits_37]
    refine ⟨fun q => ?_, fun _ => ?_⟩
    · have := (nI_leI (a := 152) (b := i) (by decide) (by omega)).mp q
      omega
    · refine ab_bits hlo hhi hat (by omega) ?_
      have hdg : dgI D i = (((hi * 2 ^ 64 + lo) * 2 ^ at_ / 2 ^ (32 * i) % 2 ^ 32 : Nat) : Int) := by rw [← hD]; exact dgN _ _
      generalize (hi * 2 ^ 64 + lo) * 2 ^ at_ / 2 ^ (32 * i) % 2 ^ 32 = v at hdg ⊢
      have hvr := dg_rng D i
      have hv : v < 4294967296 := by omega
      have key : ∀ a : Nat, a < 4294967296 → abF N D tk i = dgI N i + a → w_X5_addBits_179 (fun x1 x2 x4 x7 x9 x10 x11 x13 σ => w_X5_addBits_37 Q (d + 1) x1 x2 x4 x7 x9 x10 x11 x13 σ) Q (nI kp) (lN hi) (lN lo) tk (nI (at_ / 32)) (nI (at_ % 32)) (lN o) (nI i) (lN a) ((152 : Int32) * nI kp + nI i) (wI σ 7 S) := by
        intro a ha hF
        unfold w_X5_addBits_179
        rw [show (152 : Int32) = nI 152 from rfl, pk_mul, nI_add]
        refine s_carryR (by omega) ha (by omega) (fun w o2 hw ho2 => ?_)
        rintro y6 rfl
        rw [nI_1, wI_wI, gI_wI_eq]
        rw [gI_wI_eq, hge i (Nat.le_refl _) (by omega)] at hw ho2
        have hNr := dg_rng N i
        have hov := sm_over (abF N D tk) c i
        have hst := sm_stay (abF N D tk) c i
        have hdd := sm_dig (abF N D tk) c (show i < 152 by omega)
        rw [hF, ← ho] at hov hst
        refine ih (i + 1) _ o2 (by omega) (fun j hj hj2 => ?_) (fun j hj => ?_) (fun j hj => ?_) ?_ ?_
        · rw [upd_ne (by omega)]; exact hge j (by omega) hj2
        · by_cases hji : j = i
          · subst hji
            rw [upd_eq, hw, hdd, hst]
          · rw [upd_ne (by omega)]; exact hlt j (by omega)
        · rw [upd_ne (by omega)]; exact hout j hj
        · rw [ho2, hov]
        · omega
      unfold w_X5_addBits_150
      refine ⟨fun q => key v hv ?_, fun q => ?_⟩
      · unfold abF; rw [if_pos q, hdg]
      · rw [notlow hv]
        refine key _ (by omega) ?_
        unfold abF; rw [if_neg q, hdg]; omega
theorem s_addBits {Q : St → Prop} {σ : St} {hi lo at_ kp : Nat} {pw tk : Int32} {N : Int} (hlo : lo < 2 ^ 64) (hhi : hi < 2 ^ 64) (hat : at_ < 4864) (hpw : (at_ : Int) = pw.toInt + 2148) (hk : kp < 7) (hS : WK (gI σ 7) kp N)
    (h : ∀ S', WK S' kp (N + sgnI (decide (¬ tk = 0)) (((hi * 2 ^ 64 + lo) * 2 ^ at_ : Nat) : Int)) → (∀ j, (j < 152 * kp ∨ 152 * kp + 152 ≤ j) → S' j = gI σ 7 j) → Q (wI σ 7 S')) : w_X5_addBits Q (nI kp) (lN hi) (lN lo) pw tk σ := by
  unfold w_X5_addBits
  have hp : pw + (2148 : Int32) = nI at_ := by
    have h1 : (2148 : Int32).toInt = 2148 := by decide
    exact i_of (by rw [i_add (by omega) (by omega), h1]; omega) (by omega)
  rintro y1 rfl y2 rfl y3 rfl
  rw [hp, show (32 : Int32) = nI 32 from rfl, pk_div (by omega) (by decide) (by decide), show nI at_ - nI (at_ / 32) * nI 32 = nI (at_ % 32) by rw [← pk_div (by omega) (by decide) (by decide)]; exact pk_rem (by omega) (by decide) (by decide)]
  have key := fun (c : Nat) (hc : c = if tk = 0 then 0 else 1) => ab_loop hlo hhi hat hk hc h 152 0 (gI σ 7) c (by omega) (fun j _ hj => hS j hj) (fun j hj => absurd hj (by omega)) (fun j _ => rfl) (by simp [sm]) (by rw [hc]; split <;> omega)
  rw [wI_self] at key
  refine ⟨fun q => ?_, fun q => ?_⟩ <;> unfold w_X5_addBits_32
  · exact ⟨153, key 0 (by rw [if_pos q])⟩
  · exact ⟨153, key 1 (by rw [if_neg q])⟩
