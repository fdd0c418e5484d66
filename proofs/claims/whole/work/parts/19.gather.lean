/-! gaining and meeting, over a row -/
theorem sgnI_add (b : Bool) (x y : Int) : sgnI b x + sgnI b y = sgnI b (x + y) := by
  unfold sgnI
  split <;> omega
theorem s_part {k : Nat} {Q : St → Prop} {σ : St} {L : Nat → Int64} {pt at_ : Nat} {below : Int32} {B : Int} (hb : B ≤ 576460752303423488) (hh : pt < 2 ^ 64) (ha : at_ + 32 < 4768) (hL : ∀ j, j < 150 → -B ≤ (L j).toInt ∧ (L j).toInt ≤ B)
    (h : ∀ L', sm (fun i => (L' i).toInt) 150 = sm (fun i => (L i).toInt) 150 + sgnI (decide (¬ below = 0)) (pt * 2 ^ at_) → (∀ j, j < 150 → -(B + 8589934592) ≤ (L' j).toInt ∧ (L' j).toInt ≤ B + 8589934592) → Q (wJ σ (k + 2) L')) : w_X1_gainPart k Q (lN pt) (nI at_) below (wJ σ (k + 2) L) := by
  unfold w_X1_gainPart
  rw [show (4294967295 : Int64) = lN (2 ^ 32 - 1) from rfl, wb_mask hh (by decide), show (32 : Int32) = nI 32 from rfl, lushr_N hh (by decide), nI_add]
  refine s_half (B := B) (by omega) (by omega) (by omega) hL (fun L1 e1 b1 => ?_)
  refine s_half (B := B + 4294967296) (by omega) (by omega) (by omega) b1 (fun L2 e2 b2 => ?_)
  have ev : ((pt % 2 ^ 32 : Nat) : Int) * 2 ^ at_ + ((pt / 2 ^ 32 : Nat) : Int) * 2 ^ (at_ + 32) = (pt : Int) * 2 ^ at_ := by
    have e3 : ((pt : Nat) : Int) = ((pt % 2 ^ 32 : Nat) : Int) + ((pt / 2 ^ 32 : Nat) : Int) * 4294967296 := by omega
    rw [show (2 : Int) ^ (at_ + 32) = 2 ^ at_ * 4294967296 by rw [Int.pow_add]; rfl]
    rw [e3]
    generalize ((pt % 2 ^ 32 : Nat) : Int) = a
    generalize ((pt / 2 ^ 32 : Nat) : Int) = b
    generalize (2 : Int) ^ at_ = P
    rw [Int.add_mul, Int.mul_assoc b, Int.mul_comm 4294967296 P]
  have es := sgnI_add (decide (¬ below = 0)) (((pt % 2 ^ 32 : Nat) : Int) * 2 ^ at_) (((pt / 2 ^ 32 : Nat) : Int) * 2 ^ (at_ + 32))
  rw [ev] at es
  refine h L2 ?_ (fun j hj => by have := b2 j hj; omega)
  rw [e2, e1, ← es, Int.add_assoc]
theorem labs (x : Int64) (h : -9223372036854775808 < x.toInt) : (if 0 < x then x else -x) = lN x.toInt.natAbs := by
  have hb := lb x
  by_cases hx : 0 < x
  · rw [if_pos hx]
    have := Int64.lt_iff_toInt_lt.mp hx
    rw [Int64.toInt_zero] at this
    exact l_of (by omega) (by omega)
  · rw [if_neg hx]
    have : ¬ (0 : Int) < x.toInt := fun q => hx (Int64.lt_iff_toInt_lt.mpr (by rw [Int64.toInt_zero]; exact q))
    refine l_of ?_ (by omega)
    rw [l_neg h]
    omega
theorem l_ge0 {x : Int64} : (0 : Int64) ≤ x ↔ 0 ≤ x.toInt := by rw [Int64.le_iff_toInt_le, Int64.toInt_zero]
theorem i_ge0 {x : Int32} : (0 : Int32) ≤ x ↔ 0 ≤ x.toInt := by rw [Int32.le_iff_toInt_le, Int32.toInt_zero]
theorem l_mul_N {a b : Nat} : lN a * lN b = lN (a * b) := lN_mul a b
theorem s_gain {k : Nat} {Q : St → Prop} {σ : St} {L : Nat → Int64} {a b : Int64} {pw taken : Int32} {at_ : Nat} {B : Int} (hb : B ≤ 288230376151711744) (h1 : a.toInt.natAbs < 2 ^ 53) (h2 : b.toInt.natAbs < 2 ^ 53) (hat : (at_ : Int) = pw.toInt + 2148) (ha : at_ < 4600) (htk : bz taken) (hL : ∀ j, j < 150 → -B ≤ (L j).toInt ∧ (L j).toInt ≤ B)
    (h : ∀ L', sm (fun i => (L' i).toInt) 150 = sm (fun i => (L i).toInt) 150 + sgnI (decide (¬ taken = 0)) (a.toInt * b.toInt * 2 ^ at_) → (∀ j, j < 150 → -(B + 34359738368) ≤ (L' j).toInt ∧ (L' j).toInt ≤ B + 34359738368) → Q (wJ σ (k + 2) L')) : w_X1_gain k Q a b pw taken (wJ σ (k + 2) L) := by
  unfold w_X1_gain
  rintro y1 rfl y2 rfl
  rw [labs a (by omega), labs b (by omega)]
  have core : ∀ below : Int32, sgnI (decide (¬ below = 0)) ((a.toInt.natAbs : Int) * b.toInt.natAbs * 2 ^ at_) = sgnI (decide (¬ taken = 0)) (a.toInt * b.toInt * 2 ^ at_) → w_X1_gain_52 k Q pw (lN a.toInt.natAbs) (lN b.toInt.natAbs) below (wJ σ (k + 2) L) := by
    intro below hs
    unfold w_X1_gain_52
    rintro y3 rfl
    have hpw : pw - (-2148 : Int32) = nI at_ := by
      refine i_of ?_ (by omega)
      have h5 : (-2148 : Int32).toInt = -2148 := by decide
      rw [i_sub (by omega) (by omega), h5]
      omega
    rw [hpw]
    generalize hx : a.toInt.natAbs = x at h1 hs ⊢
    generalize hy : b.toInt.natAbs = y at h2 hs ⊢
    rw [show (4294967295 : Int64) = lN (2 ^ 32 - 1) from rfl, show (32 : Int32) = nI 32 from rfl, show (64 : Int32) = nI 64 from rfl, wb_mask (by omega) (by decide), wb_mask (by omega) (by decide), lushr_N (by omega) (by decide), lushr_N (by omega) (by decide), l_mul_N, l_mul_N, l_mul_N, l_mul_N, nI_add, nI_add]
    have x1 : x % 2 ^ 32 < 2 ^ 32 := Nat.mod_lt _ (by decide)
    have y1 : y % 2 ^ 32 < 2 ^ 32 := Nat.mod_lt _ (by decide)
    have x2 : x / 2 ^ 32 < 2 ^ 21 := by omega
    have y2 : y / 2 ^ 32 < 2 ^ 21 := by omega
    have mm : ∀ u v c d : Nat, u < 2 ^ c → v < 2 ^ d → c + d ≤ 64 → u * v < 2 ^ 64 := by
      intro u v c d hu hv hcd
      calc u * v < 2 ^ c * 2 ^ d := Nat.mul_lt_mul'' hu hv
        _ = 2 ^ (c + d) := (Nat.pow_add 2 c d).symm
        _ ≤ 2 ^ 64 := Nat.pow_le_pow_right (by decide) hcd
    refine s_part (B := B) (by omega) (mm _ _ 32 32 x1 y1 (by decide)) (by omega) hL (fun L1 e1 b1 => ?_)
    refine s_part (B := B + 8589934592) (by omega) (mm _ _ 32 21 x1 y2 (by decide)) (by omega) b1 (fun L2 e2 b2 => ?_)
    refine s_part (B := B + 8589934592 + 8589934592) (by omega) (mm _ _ 21 32 x2 y1 (by decide)) (by omega) b2 (fun L3 e3 b3 => ?_)
    refine s_part (B := B + 8589934592 + 8589934592 + 8589934592) (by omega) (mm _ _ 21 21 x2 y2 (by decide)) (by omega) b3 (fun L4 e4 b4 => ?_)
    have ev : ((x % 2 ^ 32 * (y % 2 ^ 32) : Nat) : Int) * 2 ^ at_ + (((x % 2 ^ 32 * (y / 2 ^ 32) : Nat) : Int) * 2 ^ (at_ + 32) + (((x / 2 ^ 32 * (y % 2 ^ 32) : Nat) : Int) * 2 ^ (at_ + 32) + ((x / 2 ^ 32 * (y / 2 ^ 32) : Nat) : Int) * 2 ^ (at_ + 64))) = (x : Int) * y * 2 ^ at_ := by
      have ex : ((x : Nat) : Int) = ((x % 2 ^ 32 : Nat) : Int) + ((x / 2 ^ 32 : Nat) : Int) * 4294967296 := by omega
      have ey : ((y : Nat) : Int) = ((y % 2 ^ 32 : Nat) : Int) + ((y / 2 ^ 32 : Nat) : Int) * 4294967296 := by omega
      rw [show (2 : Int) ^ (at_ + 32) = 2 ^ at_ * 4294967296 by rw [Int.pow_add]; rfl, show (2 : Int) ^ (at_ + 64) = 2 ^ at_ * 4294967296 * 4294967296 by rw [show at_ + 64 = at_ + 32 + 32 by omega, Int.pow_add, Int.pow_add]; rfl]
      rw [ex, ey]
      simp only [Int.natCast_mul]
      generalize ((x % 2 ^ 32 : Nat) : Int) = a1
      generalize ((x / 2 ^ 32 : Nat) : Int) = a2
      generalize ((y % 2 ^ 32 : Nat) : Int) = c1
      generalize ((y / 2 ^ 32 : Nat) : Int) = c2
      generalize (2 : Int) ^ at_ = P
      generalize (4294967296 : Int) = K
      simp only [Int.add_mul, Int.mul_add, Int.mul_assoc, Int.mul_comm, Int.mul_left_comm]
      omega
    have es := sgnI_add (decide (¬ below = 0)) (((x / 2 ^ 32 * (y % 2 ^ 32) : Nat) : Int) * 2 ^ (at_ + 32)) (((x / 2 ^ 32 * (y / 2 ^ 32) : Nat) : Int) * 2 ^ (at_ + 64))
    have es2 := sgnI_add (decide (¬ below = 0)) (((x % 2 ^ 32 * (y / 2 ^ 32) : Nat) : Int) * 2 ^ (at_ + 32)) (((x / 2 ^ 32 * (y % 2 ^ 32) : Nat) : Int) * 2 ^ (at_ + 32) + ((x / 2 ^ 32 * (y / 2 ^ 32) : Nat) : Int) * 2 ^ (at_ + 64))
    have es3 := sgnI_add (decide (¬ below = 0)) (((x % 2 ^ 32 * (y % 2 ^ 32) : Nat) : Int) * 2 ^ at_) (((x % 2 ^ 32 * (y / 2 ^ 32) : Nat) : Int) * 2 ^ (at_ + 32) + (((x / 2 ^ 32 * (y % 2 ^ 32) : Nat) : Int) * 2 ^ (at_ + 32) + ((x / 2 ^ 32 * (y / 2 ^ 32) : Nat) : Int) * 2 ^ (at_ + 64)))
    rw [ev, hs] at es3
    refine h L4 ?_ (fun j hj => by have := b4 j hj; omega)
    rw [e4, e3, e2, e1, ← es3, ← es2, ← es, Int.add_assoc, Int.add_assoc, Int.add_assoc]
  have tk0 : taken = 0 → decide (¬ taken = 0) = false := fun q => decide_eq_false (fun z => z q)
  have tk1 : ¬ taken = 0 → decide (¬ taken = 0) = true := fun q => decide_eq_true q
  have ab : (a.toInt.natAbs : Int) * b.toInt.natAbs = (if (0 ≤ a.toInt ↔ 0 ≤ b.toInt) then a.toInt * b.toInt else -(a.toInt * b.toInt)) := by
    rcases ilg a.toInt 0 with ga | ga <;> rcases ilg b.toInt 0 with gb | gb
    · rw [if_pos ⟨fun q => absurd ga (by omega), fun q => absurd gb (by omega)⟩, show (a.toInt.natAbs : Int) = -a.toInt by omega, show (b.toInt.natAbs : Int) = -b.toInt by omega, Int.neg_mul_neg]
    · rw [if_neg (fun q => absurd (q.mpr gb) (by omega)), show (a.toInt.natAbs : Int) = -a.toInt by omega, show (b.toInt.natAbs : Int) = b.toInt by omega, Int.neg_mul]
    · rw [if_neg (fun q => absurd (q.mp ga) (by omega)), show (a.toInt.natAbs : Int) = a.toInt by omega, show (b.toInt.natAbs : Int) = -b.toInt by omega, Int.mul_neg]
    · rw [if_pos ⟨fun _ => gb, fun _ => ga⟩, show (a.toInt.natAbs : Int) = a.toInt by omega, show (b.toInt.natAbs : Int) = b.toInt by omega]
  have fin : ∀ (below : Int32) (same : Bool), (same = true ↔ (0 ≤ a.toInt ↔ 0 ≤ b.toInt)) → (below = 0 ↔ ((same = true) ↔ taken = 0)) → sgnI (decide (¬ below = 0)) ((a.toInt.natAbs : Int) * b.toInt.natAbs * 2 ^ at_) = sgnI (decide (¬ taken = 0)) (a.toInt * b.toInt * 2 ^ at_) := by
    intro below same hs hbl
    rw [ab]
    by_cases ht : taken = 0 <;> cases same
    · have hb1 : ¬ below = 0 := fun q => absurd ((hbl.mp q).mpr ht) (by decide)
      rw [if_neg (fun q => absurd (hs.mpr q) (by decide)), decide_eq_true hb1, tk0 ht, Int.neg_mul]
      simp only [sgnI, if_true, if_false, Bool.false_eq_true, Int.neg_neg]
    · have hb0 : below = 0 := hbl.mpr ⟨fun _ => ht, fun _ => rfl⟩
      rw [if_pos (hs.mp rfl), decide_eq_false (fun z => z hb0), tk0 ht]
    · have hb0 : below = 0 := hbl.mpr ⟨fun q => absurd q (by decide), fun q => absurd q ht⟩
      rw [if_neg (fun q => absurd (hs.mpr q) (by decide)), decide_eq_false (fun z => z hb0), tk1 ht, Int.neg_mul]
      simp only [sgnI, if_true, if_false, Bool.false_eq_true, Int.neg_neg]
    · have hb1 : ¬ below = 0 := fun q => ht ((hbl.mp q).mp rfl)
      rw [if_pos (hs.mp rfl), decide_eq_true hb1, tk1 ht]
  have g34 : ∀ (s0 s1 : Int32) (same : Bool), (same = true ↔ (0 ≤ a.toInt ↔ 0 ≤ b.toInt)) → (s1 = s0 ↔ same = true) → w_X1_gain_34 k Q pw taken (lN a.toInt.natAbs) (lN b.toInt.natAbs) s0 s1 (wJ σ (k + 2) L) := by
    intro s0 s1 same hs he
    unfold w_X1_gain_34
    refine ⟨fun q => ?_, fun q => ?_⟩
    · unfold w_X1_gain_42
      refine ⟨fun z => core 0 (fin 0 same hs ?_), fun z => core 1 (fin 1 same hs ?_)⟩
      · exact ⟨fun _ => ⟨fun _ => z.symm, fun _ => he.mp q⟩, fun _ => rfl⟩
      · exact ⟨fun w => absurd w (by decide), fun w => absurd (w.mp (he.mp q)).symm z⟩
    · unfold w_X1_gain_42
      have ns : ¬ same = true := fun w => q (he.mpr w)
      refine ⟨fun z => core 0 (fin 0 same hs ?_), fun z => core 1 (fin 1 same hs ?_)⟩
      · exact ⟨fun _ => ⟨fun w => absurd w ns, fun w => by rw [w] at z; exact absurd z (by decide)⟩, fun _ => rfl⟩
      · refine ⟨fun w => absurd w (by decide), fun w => ?_⟩
        have ht : ¬ taken = 0 := fun v => ns (w.mpr v)
        rcases htk with v | v
        · exact absurd v ht
        · exact absurd v.symm z
  refine ⟨fun qa => ?_, fun qa => ?_⟩ <;> unfold w_X1_gain_23 <;> refine ⟨fun qb => ?_, fun qb => ?_⟩
  · have ga := l_ge0.mp qa; have gb := l_ge0.mp qb
    exact g34 0 0 true ⟨fun _ => ⟨fun _ => gb, fun _ => ga⟩, fun _ => rfl⟩ ⟨fun _ => rfl, fun _ => rfl⟩
  · have ga := l_ge0.mp qa; have gb : ¬ 0 ≤ b.toInt := fun q => qb (l_ge0.mpr q)
    exact g34 1 0 false ⟨fun q => absurd q (by decide), fun q => absurd (q.mp ga) gb⟩ ⟨fun q => absurd q (by decide), fun q => absurd q (by decide)⟩
  · have ga : ¬ 0 ≤ a.toInt := fun q => qa (l_ge0.mpr q); have gb := l_ge0.mp qb
    exact g34 0 1 false ⟨fun q => absurd q (by decide), fun q => absurd (q.mpr gb) ga⟩ ⟨fun q => absurd q (by decide), fun q => absurd q (by decide)⟩
  · have ga : ¬ 0 ≤ a.toInt := fun q => qa (l_ge0.mpr q); have gb : ¬ 0 ≤ b.toInt := fun q => qb (l_ge0.mpr q)
    exact g34 1 1 true ⟨fun _ => ⟨fun q => absurd q ga, fun q => absurd q gb⟩, fun _ => rfl⟩ ⟨fun _ => rfl, fun _ => rfl⟩
