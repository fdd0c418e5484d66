def rmJ6_numberOfLeadingZeros_0f7a4 : Room := { frames := 0, cells := 0, slots := 0, locals := 0 }
def w_J6_numberOfLeadingZeros_0f7a4_61 (Q : Int32 → St → Prop) (x0 : Int32) (x1 : Int32) (σ : St) : Prop := ((x0 < (4 : Int32) → (Q (x1 - (iushrF x0 (1 : Int32))) σ)) ∧ (¬ x0 < (4 : Int32) → ∀ y1 : Int32, y1 = x1 + (-2 : Int32) → ∀ y2 : Int32, y2 = (iushrF x0 (2 : Int32)) → (Q (y1 - (iushrF y2 (1 : Int32))) σ)))
set_option maxRecDepth 100000 in
set_option maxHeartbeats 4000000 in
theorem b_J6_numberOfLeadingZeros_0f7a4_61 {p : Program} {l : Launch} {e : Env} {s : State} {m : MethodId} {args : Array Value} {below : List Frame} {meth : Method} {c : Code} {D : va_G} {cA : Nat → ClassId} {A : Nat → Prop} {ad0 : Nat → Nat} {sh : SH} {Q : Int32 → St → Prop} {x0 : Int32} {x1 : Int32} {σ : St} (X : Cx p rmJ6_numberOfLeadingZeros_0f7a4 s m args meth c cJ6_numberOfLeadingZeros_0f7a4 2 RJ6 D cA A) (hr : meth.sig.returnType = some .int) (h : w_J6_numberOfLeadingZeros_0f7a4_61 Q x0 x1 σ) : G p l e rmJ6_numberOfLeadingZeros_0f7a4 s m args below meth c 2 D cA A (MQ below (va_Qi Q (EndW D cA ad0 sh) A) args s 0 0 A) 0 0 (fun ad => ad = ad0) sh σ [(0, .int x0), (1, .int x1)] 61 [] := by
  unfold w_J6_numberOfLeadingZeros_0f7a4_61 at h
  refine g_iload_n X 0 dJ6_numberOfLeadingZeros_0f7a4_61 rfl rfl ?_
  refine g_iconst X (4 : Int32) dJ6_numberOfLeadingZeros_0f7a4_62 (by decide) ?_
  refine g_icmp_lt X 73 dJ6_numberOfLeadingZeros_0f7a4_63 (by decide) (fun hc => ?_) (fun hc => ?_)
  · have h := h.1 hc
    refine g_iload_n X 1 dJ6_numberOfLeadingZeros_0f7a4_73 rfl rfl ?_
    refine g_iload_n X 0 dJ6_numberOfLeadingZeros_0f7a4_74 rfl rfl ?_
    refine g_iconst X (1 : Int32) dJ6_numberOfLeadingZeros_0f7a4_75 (by decide) ?_
    refine g_iushr X dJ6_numberOfLeadingZeros_0f7a4_76 ?_
    refine g_isub X dJ6_numberOfLeadingZeros_0f7a4_77 ?_
    exact g_iret X hr dJ6_numberOfLeadingZeros_0f7a4_78 rfl h
  · have h := h.2 hc
    obtain ⟨y1, ey1⟩ : ∃ y : Int32, y = x1 + (-2 : Int32) := ⟨_, rfl⟩
    have h := h y1 ey1
    refine g_iinc X 1 (-2 : Int32) [(1, .int y1), (0, .int x0)] dJ6_numberOfLeadingZeros_0f7a4_66 rfl (by decide) (Nat.le_of_ble_eq_true rfl) (by rw [ey1]; rfl) ?_
    refine g_iload_n X 1 dJ6_numberOfLeadingZeros_0f7a4_69 rfl rfl ?_
    refine g_iconst X (2 : Int32) dJ6_numberOfLeadingZeros_0f7a4_70 (by decide) ?_
    refine g_iushr X dJ6_numberOfLeadingZeros_0f7a4_71 ?_
    refine g_nameI (fun y2 ey2 => ?_)
    have h := h y2 ey2
    refine g_istore_n X [(0, .int y2), (1, .int y1)] dJ6_numberOfLeadingZeros_0f7a4_72 rfl (Nat.le_of_ble_eq_true rfl) rfl ?_
    refine g_iload_n X 1 dJ6_numberOfLeadingZeros_0f7a4_73 rfl rfl ?_
    refine g_iload_n X 0 dJ6_numberOfLeadingZeros_0f7a4_74 rfl rfl ?_
    refine g_iconst X (1 : Int32) dJ6_numberOfLeadingZeros_0f7a4_75 (by decide) ?_
    refine g_iushr X dJ6_numberOfLeadingZeros_0f7a4_76 ?_
    refine g_isub X dJ6_numberOfLeadingZeros_0f7a4_77 ?_
    exact g_iret X hr dJ6_numberOfLeadingZeros_0f7a4_78 rfl h
def w_J6_numberOfLeadingZeros_0f7a4_48 (Q : Int32 → St → Prop) (x0 : Int32) (x1 : Int32) (σ : St) : Prop := ((x0 < (16 : Int32) → (w_J6_numberOfLeadingZeros_0f7a4_61 Q x0 x1 σ)) ∧ (¬ x0 < (16 : Int32) → ∀ y3 : Int32, y3 = x1 + (-4 : Int32) → ∀ y4 : Int32, y4 = (iushrF x0 (4 : Int32)) → (w_J6_numberOfLeadingZeros_0f7a4_61 Q y4 y3 σ)))
set_option maxRecDepth 100000 in
set_option maxHeartbeats 4000000 in
theorem b_J6_numberOfLeadingZeros_0f7a4_48 {p : Program} {l : Launch} {e : Env} {s : State} {m : MethodId} {args : Array Value} {below : List Frame} {meth : Method} {c : Code} {D : va_G} {cA : Nat → ClassId} {A : Nat → Prop} {ad0 : Nat → Nat} {sh : SH} {Q : Int32 → St → Prop} {x0 : Int32} {x1 : Int32} {σ : St} (X : Cx p rmJ6_numberOfLeadingZeros_0f7a4 s m args meth c cJ6_numberOfLeadingZeros_0f7a4 2 RJ6 D cA A) (hr : meth.sig.returnType = some .int) (h : w_J6_numberOfLeadingZeros_0f7a4_48 Q x0 x1 σ) : G p l e rmJ6_numberOfLeadingZeros_0f7a4 s m args below meth c 2 D cA A (MQ below (va_Qi Q (EndW D cA ad0 sh) A) args s 0 0 A) 0 0 (fun ad => ad = ad0) sh σ [(0, .int x0), (1, .int x1)] 48 [] := by
  unfold w_J6_numberOfLeadingZeros_0f7a4_48 at h
  refine g_iload_n X 0 dJ6_numberOfLeadingZeros_0f7a4_48 rfl rfl ?_
  refine g_bipush X (16 : Int32) dJ6_numberOfLeadingZeros_0f7a4_49 (by decide) ?_
  refine g_icmp_lt X 61 dJ6_numberOfLeadingZeros_0f7a4_51 (by decide) (fun hc => ?_) (fun hc => ?_)
  · have h := h.1 hc
    exact b_J6_numberOfLeadingZeros_0f7a4_61 X hr h
  · have h := h.2 hc
    obtain ⟨y3, ey3⟩ : ∃ y : Int32, y = x1 + (-4 : Int32) := ⟨_, rfl⟩
    have h := h y3 ey3
    refine g_iinc X 1 (-4 : Int32) [(1, .int y3), (0, .int x0)] dJ6_numberOfLeadingZeros_0f7a4_54 rfl (by decide) (Nat.le_of_ble_eq_true rfl) (by rw [ey3]; rfl) ?_
    refine g_iload_n X 1 dJ6_numberOfLeadingZeros_0f7a4_57 rfl rfl ?_
    refine g_iconst X (4 : Int32) dJ6_numberOfLeadingZeros_0f7a4_58 (by decide) ?_
    refine g_iushr X dJ6_numberOfLeadingZeros_0f7a4_59 ?_
    refine g_nameI (fun y4 ey4 => ?_)
    have h := h y4 ey4
    refine g_istore_n X [(0, .int y4), (1, .int y3)] dJ6_numberOfLeadingZeros_0f7a4_60 rfl (Nat.le_of_ble_eq_true rfl) rfl ?_
    exact b_J6_numberOfLeadingZeros_0f7a4_61 X hr h
def w_J6_numberOfLeadingZeros_0f7a4_33 (Q : Int32 → St → Prop) (x0 : Int32) (x1 : Int32) (σ : St) : Prop := ((x0 < (256 : Int32) → (w_J6_numberOfLeadingZeros_0f7a4_48 Q x0 x1 σ)) ∧ (¬ x0 < (256 : Int32) → ∀ y5 : Int32, y5 = x1 + (-8 : Int32) → ∀ y6 : Int32, y6 = (iushrF x0 (8 : Int32)) → (w_J6_numberOfLeadingZeros_0f7a4_48 Q y6 y5 σ)))
set_option maxRecDepth 100000 in
set_option maxHeartbeats 4000000 in
theorem b_J6_numberOfLeadingZeros_0f7a4_33 {p : Program} {l : Launch} {e : Env} {s : State} {m : MethodId} {args : Array Value} {below : List Frame} {meth : Method} {c : Code} {D : va_G} {cA : Nat → ClassId} {A : Nat → Prop} {ad0 : Nat → Nat} {sh : SH} {Q : Int32 → St → Prop} {x0 : Int32} {x1 : Int32} {σ : St} (X : Cx p rmJ6_numberOfLeadingZeros_0f7a4 s m args meth c cJ6_numberOfLeadingZeros_0f7a4 2 RJ6 D cA A) (hr : meth.sig.returnType = some .int) (h : w_J6_numberOfLeadingZeros_0f7a4_33 Q x0 x1 σ) : G p l e rmJ6_numberOfLeadingZeros_0f7a4 s m args below meth c 2 D cA A (MQ below (va_Qi Q (EndW D cA ad0 sh) A) args s 0 0 A) 0 0 (fun ad => ad = ad0) sh σ [(0, .int x0), (1, .int x1)] 33 [] := by
  unfold w_J6_numberOfLeadingZeros_0f7a4_33 at h
  refine g_iload_n X 0 dJ6_numberOfLeadingZeros_0f7a4_33 rfl rfl ?_
  refine g_sipush X (256 : Int32) dJ6_numberOfLeadingZeros_0f7a4_34 (by decide) ?_
  refine g_icmp_lt X 48 dJ6_numberOfLeadingZeros_0f7a4_37 (by decide) (fun hc => ?_) (fun hc => ?_)
  · have h := h.1 hc
    exact b_J6_numberOfLeadingZeros_0f7a4_48 X hr h
  · have h := h.2 hc
    obtain ⟨y5, ey5⟩ : ∃ y : Int32, y = x1 + (-8 : Int32) := ⟨_, rfl⟩
    have h := h y5 ey5
    refine g_iinc X 1 (-8 : Int32) [(1, .int y5), (0, .int x0)] dJ6_numberOfLeadingZeros_0f7a4_40 rfl (by decide) (Nat.le_of_ble_eq_true rfl) (by rw [ey5]; rfl) ?_
    refine g_iload_n X 1 dJ6_numberOfLeadingZeros_0f7a4_43 rfl rfl ?_
    refine g_bipush X (8 : Int32) dJ6_numberOfLeadingZeros_0f7a4_44 (by decide) ?_
    refine g_iushr X dJ6_numberOfLeadingZeros_0f7a4_46 ?_
    refine g_nameI (fun y6 ey6 => ?_)
    have h := h y6 ey6
    refine g_istore_n X [(0, .int y6), (1, .int y5)] dJ6_numberOfLeadingZeros_0f7a4_47 rfl (Nat.le_of_ble_eq_true rfl) rfl ?_
    exact b_J6_numberOfLeadingZeros_0f7a4_48 X hr h
def w_J6_numberOfLeadingZeros_0f7a4 (Q : Int32 → St → Prop) (x0 : Int32) (σ : St) : Prop := ((0 < x0 → ((x0 < (65536 : Int32) → (w_J6_numberOfLeadingZeros_0f7a4_33 Q x0 (31 : Int32) σ)) ∧ (¬ x0 < (65536 : Int32) → ∀ y7 : Int32, y7 = (31 : Int32) + (-16 : Int32) → ∀ y8 : Int32, y8 = (iushrF x0 (16 : Int32)) → (w_J6_numberOfLeadingZeros_0f7a4_33 Q y8 y7 σ)))) ∧ (¬ 0 < x0 → ((¬ x0 = 0 → (Q (0 : Int32) σ)) ∧ (x0 = 0 → (Q (32 : Int32) σ)))))
set_option maxRecDepth 100000 in
set_option maxHeartbeats 4000000 in
theorem b_J6_numberOfLeadingZeros_0f7a4_0 {p : Program} {l : Launch} {e : Env} {s : State} {m : MethodId} {args : Array Value} {below : List Frame} {meth : Method} {c : Code} {D : va_G} {cA : Nat → ClassId} {A : Nat → Prop} {ad0 : Nat → Nat} {sh : SH} {Q : Int32 → St → Prop} {x0 : Int32} {σ : St} (X : Cx p rmJ6_numberOfLeadingZeros_0f7a4 s m args meth c cJ6_numberOfLeadingZeros_0f7a4 2 RJ6 D cA A) (hr : meth.sig.returnType = some .int) (h : w_J6_numberOfLeadingZeros_0f7a4 Q x0 σ) : G p l e rmJ6_numberOfLeadingZeros_0f7a4 s m args below meth c 2 D cA A (MQ below (va_Qi Q (EndW D cA ad0 sh) A) args s 0 0 A) 0 0 (fun ad => ad = ad0) sh σ [(0, .int x0)] 0 [] := by
  unfold w_J6_numberOfLeadingZeros_0f7a4 at h
  refine g_iload_n X 0 dJ6_numberOfLeadingZeros_0f7a4_0 rfl rfl ?_
  refine g_if_gt X 15 dJ6_numberOfLeadingZeros_0f7a4_1 (by decide) (fun hc => ?_) (fun hc => ?_)
  · have h := h.1 hc
    refine g_bipush X (31 : Int32) dJ6_numberOfLeadingZeros_0f7a4_15 (by decide) ?_
    refine g_istore_n X [(1, .int (31 : Int32)), (0, .int x0)] dJ6_numberOfLeadingZeros_0f7a4_17 rfl (Nat.le_of_ble_eq_true rfl) rfl ?_
    refine g_iload_n X 1 dJ6_numberOfLeadingZeros_0f7a4_18 rfl rfl ?_
    refine g_ldcw X q191 dJ6_numberOfLeadingZeros_0f7a4_19 ?_
    refine g_icmp_lt X 33 dJ6_numberOfLeadingZeros_0f7a4_22 (by decide) (fun hc => ?_) (fun hc => ?_)
    · have h := h.1 hc
      refine g_weak [1, 0] rfl ?_
      exact b_J6_numberOfLeadingZeros_0f7a4_33 X hr h
    · have h := h.2 hc
      obtain ⟨y7, ey7⟩ : ∃ y : Int32, y = (31 : Int32) + (-16 : Int32) := ⟨_, rfl⟩
      have h := h y7 ey7
      refine g_iinc X 0 (-16 : Int32) [(1, .int y7), (0, .int x0)] dJ6_numberOfLeadingZeros_0f7a4_25 rfl (by decide) (Nat.le_of_ble_eq_true rfl) (by rw [ey7]; rfl) ?_
      refine g_iload_n X 1 dJ6_numberOfLeadingZeros_0f7a4_28 rfl rfl ?_
      refine g_bipush X (16 : Int32) dJ6_numberOfLeadingZeros_0f7a4_29 (by decide) ?_
      refine g_iushr X dJ6_numberOfLeadingZeros_0f7a4_31 ?_
      refine g_nameI (fun y8 ey8 => ?_)
      have h := h y8 ey8
      refine g_istore_n X [(0, .int y8), (1, .int y7)] dJ6_numberOfLeadingZeros_0f7a4_32 rfl (Nat.le_of_ble_eq_true rfl) rfl ?_
      exact b_J6_numberOfLeadingZeros_0f7a4_33 X hr h
  · have h := h.2 hc
    refine g_iload_n X 0 dJ6_numberOfLeadingZeros_0f7a4_4 rfl rfl ?_
    refine g_if_ne X 13 dJ6_numberOfLeadingZeros_0f7a4_5 (by decide) (fun hc => ?_) (fun hc => ?_)
    · have h := h.1 hc
      refine g_iconst X (0 : Int32) dJ6_numberOfLeadingZeros_0f7a4_13 (by decide) ?_
      exact g_iret X hr dJ6_numberOfLeadingZeros_0f7a4_14 rfl h
    · have h := h.2 hc
      refine g_bipush X (32 : Int32) dJ6_numberOfLeadingZeros_0f7a4_8 (by decide) ?_
      refine g_goto X 14 dJ6_numberOfLeadingZeros_0f7a4_10 (by decide) ?_
      exact g_iret X hr dJ6_numberOfLeadingZeros_0f7a4_14 rfl h
theorem c_J6_numberOfLeadingZeros_0f7a4 (l : Launch) (D : va_G) (cA : Nat → ClassId) (sh : SH) {x0 : Int32} {σ : St} {Q : Int32 → St → Prop} (h : w_J6_numberOfLeadingZeros_0f7a4 Q x0 σ) : CtI l yJ6_numberOfLeadingZeros_0f7a4 cJ6_numberOfLeadingZeros_0f7a4 2 (some .int) rmJ6_numberOfLeadingZeros_0f7a4 D cA sh [.int x0] σ Q := by
  refine CtI.of (own := RJ6) rfl (by decide +kernel) [(0, .int x0)] rfl (Nat.le_of_ble_eq_true rfl) ?_
  intro p e s m args below meth c ad0 A X hr
  exact b_J6_numberOfLeadingZeros_0f7a4_0 X hr  h
def rmJ13_numberOfLeadingZeros_95d88 : Room := { frames := 1, cells := 0, slots := 0, locals := 21 }
def w_J13_numberOfLeadingZeros_95d88 (Q : Int32 → St → Prop) (x0 : Int64) (σ : St) : Prop := ∀ y1 : Int32, y1 = ((lushrF x0 (32 : Int32)).toInt32) → ((¬ y1 = 0 → w_J6_numberOfLeadingZeros_0f7a4 (fun r3 σ2 => (Q r3 σ2)) y1 σ) ∧ (y1 = 0 → w_J6_numberOfLeadingZeros_0f7a4 (fun r5 σ4 => (Q ((32 : Int32) + r5) σ4)) (x0.toInt32) σ))
set_option maxRecDepth 100000 in
set_option maxHeartbeats 4000000 in
theorem b_J13_numberOfLeadingZeros_95d88_0 {p : Program} {l : Launch} {e : Env} {s : State} {m : MethodId} {args : Array Value} {below : List Frame} {meth : Method} {c : Code} {D : va_G} {cA : Nat → ClassId} {A : Nat → Prop} {ad0 : Nat → Nat} {sh : SH} {Q : Int32 → St → Prop} {x0 : Int64} {σ : St} (X : Cx p rmJ13_numberOfLeadingZeros_95d88 s m args meth c cJ13_numberOfLeadingZeros_95d88 3 RJ13 D cA A) (hr : meth.sig.returnType = some .int) (h : w_J13_numberOfLeadingZeros_95d88 Q x0 σ) : G p l e rmJ13_numberOfLeadingZeros_95d88 s m args below meth c 3 D cA A (MQ below (va_Qi Q (EndW D cA ad0 sh) A) args s 0 0 A) 0 0 (fun ad => ad = ad0) sh σ [(0, .long x0)] 0 [] := by
  unfold w_J13_numberOfLeadingZeros_95d88 at h
  refine g_lload_n X 0 dJ13_numberOfLeadingZeros_95d88_0 rfl rfl ?_
  refine g_bipush X (32 : Int32) dJ13_numberOfLeadingZeros_95d88_1 (by decide) ?_
  refine g_lushr X dJ13_numberOfLeadingZeros_95d88_3 ?_
  refine g_l2i X dJ13_numberOfLeadingZeros_95d88_4 ?_
  refine g_nameI (fun y1 ey1 => ?_)
  have h := h y1 ey1
  refine g_istore_n X [(2, .int y1), (0, .long x0)] dJ13_numberOfLeadingZeros_95d88_5 rfl (Nat.le_of_ble_eq_true rfl) rfl ?_
  refine g_iload_n X 0 dJ13_numberOfLeadingZeros_95d88_6 rfl rfl ?_
  refine g_if_ne X 21 dJ13_numberOfLeadingZeros_95d88_7 (by decide) (fun hc => ?_) (fun hc => ?_)
  · have h := h.1 hc
    refine g_iload_n X 0 dJ13_numberOfLeadingZeros_95d88_21 rfl rfl ?_
    refine g_callSI X (n := 1) [.int y1] [] dJ13_numberOfLeadingZeros_95d88_22 (c_J6_numberOfLeadingZeros_0f7a4 l D cA sh h) q188 q189 q56 q190 ⟨by decide, by decide, by decide +kernel⟩ rfl rfl (Nat.le_of_ble_eq_true rfl) rfl rfl ⟨(Nat.le_of_ble_eq_true rfl), (Nat.le_of_ble_eq_true rfl)⟩ (Nat.le_of_ble_eq_true rfl) (Nat.le_of_ble_eq_true rfl) (fun r3 σ2 h => ?_)
    exact g_iret X hr dJ13_numberOfLeadingZeros_95d88_25 rfl h
  · have h := h.2 hc
    refine g_bipush X (32 : Int32) dJ13_numberOfLeadingZeros_95d88_10 (by decide) ?_
    refine g_lload_n X 1 dJ13_numberOfLeadingZeros_95d88_12 rfl rfl ?_
    refine g_l2i X dJ13_numberOfLeadingZeros_95d88_13 ?_
    refine g_callSI X (n := 1) [.int (x0.toInt32)] [.int (32 : Int32)] dJ13_numberOfLeadingZeros_95d88_14 (c_J6_numberOfLeadingZeros_0f7a4 l D cA sh h) q188 q189 q56 q190 ⟨by decide, by decide, by decide +kernel⟩ rfl rfl (Nat.le_of_ble_eq_true rfl) rfl rfl ⟨(Nat.le_of_ble_eq_true rfl), (Nat.le_of_ble_eq_true rfl)⟩ (Nat.le_of_ble_eq_true rfl) (Nat.le_of_ble_eq_true rfl) (fun r5 σ4 h => ?_)
    refine g_iadd X dJ13_numberOfLeadingZeros_95d88_17 ?_
    refine g_goto X 25 dJ13_numberOfLeadingZeros_95d88_18 (by decide) ?_
    exact g_iret X hr dJ13_numberOfLeadingZeros_95d88_25 rfl h
theorem c_J13_numberOfLeadingZeros_95d88 (l : Launch) (D : va_G) (cA : Nat → ClassId) (sh : SH) {x0 : Int64} {σ : St} {Q : Int32 → St → Prop} (h : w_J13_numberOfLeadingZeros_95d88 Q x0 σ) : CtI l yJ13_numberOfLeadingZeros_95d88 cJ13_numberOfLeadingZeros_95d88 3 (some .int) rmJ13_numberOfLeadingZeros_95d88 D cA sh [.long x0] σ Q := by
  refine CtI.of (own := RJ13) rfl (by decide +kernel) [(0, .long x0)] rfl (Nat.le_of_ble_eq_true rfl) ?_
  intro p e s m args below meth c ad0 A X hr
  exact b_J13_numberOfLeadingZeros_95d88_0 X hr  h
def rmJ7_fill_53178 : Room := { frames := 0, cells := 0, slots := 0, locals := 0 }
def w_J7_fill_53178_5 (k0 : Nat) (n0 : Nat) (Q : St → Prop) : Nat → Int32 → Int32 → Int32 → St → Prop
  | 0, _, _, _, _ => False
  | n + 1, x1, x2, x3, σ => ((x3 ≤ x2 → (Q σ)) ∧ (¬ x3 ≤ x2 → vp_in x2 n0 ∧ ∀ σ3 : St, σ3 = uI σ k0 (ix x2) x1 → ∀ y4 : Int32, y4 = x2 + (1 : Int32) → (w_J7_fill_53178_5 k0 n0 Q n x1 y4 x3 σ3)))
set_option maxRecDepth 100000 in
set_option maxHeartbeats 4000000 in
theorem b_J7_fill_53178_5 {p : Program} {l : Launch} {e : Env} {s : State} {m : MethodId} {args : Array Value} {below : List Frame} {meth : Method} {c : Code} {D : va_G} {cA : Nat → ClassId} {A : Nat → Prop} {ad0 : Nat → Nat} {sh : SH} {k0 : Nat} {n0 : Nat} {Q : St → Prop} (X : Cx p rmJ7_fill_53178 s m args meth c cJ7_fill_53178 4 RJ7 D cA A) (hr : meth.sig.returnType = none) (hk0 : arrSh sh k0 0 n0) : ∀ (n : Nat) (x1 : Int32) (x2 : Int32) (x3 : Int32) (σ : St), w_J7_fill_53178_5 k0 n0 Q n x1 x2 x3 σ → G p l e rmJ7_fill_53178 s m args below meth c 4 D cA A (MQ below (va_Qv Q (EndW D cA ad0 sh) A) args s 0 0 A) 0 0 (fun ad => ad = ad0) sh σ [(0, .ref k0), (1, .int x1), (2, .int x2), (3, .int x3)] 5 [] := by
  intro n
  induction n with
  | zero => intro x1 x2 x3 σ h; exact h.elim
  | succ n ih =>
    intro x1 x2 x3 σ h
    rw [w_J7_fill_53178_5] at h
    refine g_iload_n X 2 dJ7_fill_53178_5 rfl rfl ?_
    refine g_iload_n X 3 dJ7_fill_53178_6 rfl rfl ?_
    refine g_icmp_ge X 20 dJ7_fill_53178_7 (by decide) (fun hc => ?_) (fun hc => ?_)
    · have h := h.1 hc
      exact g_vret X hr dJ7_fill_53178_20 h
    · have h := h.2 hc
      refine g_aload_n X 0 dJ7_fill_53178_10 rfl rfl ?_
      refine g_iload_n X 2 dJ7_fill_53178_11 rfl rfl ?_
      refine g_iload_n X 1 dJ7_fill_53178_12 rfl rfl ?_
      obtain ⟨hi2, h⟩ := h
      refine g_iast X dJ7_fill_53178_13 (hk0).1 (hk0).2 hi2 ?_
      refine g_nameS (fun σ3 eσ3 => ?_)
      have h := h σ3 eσ3
      obtain ⟨y4, ey4⟩ : ∃ y : Int32, y = x2 + (1 : Int32) := ⟨_, rfl⟩
      have h := h y4 ey4
      refine g_iinc X 2 (1 : Int32) [(2, .int y4), (0, .ref k0), (1, .int x1), (3, .int x3)] dJ7_fill_53178_14 rfl (by decide) (Nat.le_of_ble_eq_true rfl) (by rw [ey4]; rfl) ?_
      refine g_goto X 5 dJ7_fill_53178_17 (by decide) ?_
      refine g_weak [1, 2, 0, 3] rfl ?_
      exact ih _ _ _ _ h
def w_J7_fill_53178 (k0 : Nat) (n0 : Nat) (Q : St → Prop) (x1 : Int32) (σ : St) : Prop := ∀ y1 : Int32, y1 = (Int32.ofNat n0) → (∃ fu5 : Nat, w_J7_fill_53178_5 k0 n0 Q fu5 x1 (0 : Int32) y1 σ)
set_option maxRecDepth 100000 in
set_option maxHeartbeats 4000000 in
theorem b_J7_fill_53178_0 {p : Program} {l : Launch} {e : Env} {s : State} {m : MethodId} {args : Array Value} {below : List Frame} {meth : Method} {c : Code} {D : va_G} {cA : Nat → ClassId} {A : Nat → Prop} {ad0 : Nat → Nat} {sh : SH} {k0 : Nat} {n0 : Nat} {Q : St → Prop} {x1 : Int32} {σ : St} (X : Cx p rmJ7_fill_53178 s m args meth c cJ7_fill_53178 4 RJ7 D cA A) (hr : meth.sig.returnType = none) (hk0 : arrSh sh k0 0 n0) (h : w_J7_fill_53178 k0 n0 Q x1 σ) : G p l e rmJ7_fill_53178 s m args below meth c 4 D cA A (MQ below (va_Qv Q (EndW D cA ad0 sh) A) args s 0 0 A) 0 0 (fun ad => ad = ad0) sh σ [(0, .ref k0), (1, .int x1)] 0 [] := by
  unfold w_J7_fill_53178 at h
  refine g_iconst X (0 : Int32) dJ7_fill_53178_0 (by decide) ?_
  refine g_istore_n X [(2, .int (0 : Int32)), (0, .ref k0), (1, .int x1)] dJ7_fill_53178_1 rfl (Nat.le_of_ble_eq_true rfl) rfl ?_
  refine g_aload_n X 1 dJ7_fill_53178_2 rfl rfl ?_
  refine g_ilen X _ dJ7_fill_53178_3 (hk0).1 (hk0).2 rfl ?_
  refine g_nameI (fun y1 ey1 => ?_)
  have h := h y1 ey1
  refine g_istore_n X [(3, .int y1), (2, .int (0 : Int32)), (0, .ref k0), (1, .int x1)] dJ7_fill_53178_4 rfl (Nat.le_of_ble_eq_true rfl) rfl ?_
  refine g_weak [2, 3, 1, 0] rfl ?_
  obtain ⟨fu5, h⟩ := h
  exact b_J7_fill_53178_5 X hr hk0 fu5 _ _ _ _ h
theorem c_J7_fill_53178 (l : Launch) (D : va_G) (cA : Nat → ClassId) (sh : SH) {k0 : Nat} {n0 : Nat} {x1 : Int32} {σ : St} {Q : St → Prop} (hk0 : arrSh sh k0 0 n0) (h : w_J7_fill_53178 k0 n0 Q x1 σ) : CtV l yJ7_fill_53178 cJ7_fill_53178 4 (none) rmJ7_fill_53178 D cA sh [.ref k0, .int x1] σ Q := by
  refine CtV.of (own := RJ7) rfl (by decide +kernel) [(0, .ref k0), (1, .int x1)] rfl (Nat.le_of_ble_eq_true rfl) ?_
  intro p e s m args below meth c ad0 A X hr
  exact b_J7_fill_53178_0 X hr hk0 h
def rmJ7_fill_d0a16 : Room := { frames := 0, cells := 0, slots := 0, locals := 0 }
def w_J7_fill_d0a16_6 (k0 : Nat) (n0 : Nat) (Q : St → Prop) : Nat → Int64 → Int32 → Int32 → St → Prop
  | 0, _, _, _, _ => False
  | n + 1, x1, x3, x4, σ => ((x4 ≤ x3 → (Q σ)) ∧ (¬ x4 ≤ x3 → vp_in x3 n0 ∧ ∀ σ3 : St, σ3 = uJ σ k0 (ix x3) x1 → ∀ y4 : Int32, y4 = x3 + (1 : Int32) → (w_J7_fill_d0a16_6 k0 n0 Q n x1 y4 x4 σ3)))
set_option maxRecDepth 100000 in
set_option maxHeartbeats 4000000 in
theorem b_J7_fill_d0a16_6 {p : Program} {l : Launch} {e : Env} {s : State} {m : MethodId} {args : Array Value} {below : List Frame} {meth : Method} {c : Code} {D : va_G} {cA : Nat → ClassId} {A : Nat → Prop} {ad0 : Nat → Nat} {sh : SH} {k0 : Nat} {n0 : Nat} {Q : St → Prop} (X : Cx p rmJ7_fill_d0a16 s m args meth c cJ7_fill_d0a16 5 RJ7 D cA A) (hr : meth.sig.returnType = none) (hk0 : arrSh sh k0 1 n0) : ∀ (n : Nat) (x1 : Int64) (x3 : Int32) (x4 : Int32) (σ : St), w_J7_fill_d0a16_6 k0 n0 Q n x1 x3 x4 σ → G p l e rmJ7_fill_d0a16 s m args below meth c 5 D cA A (MQ below (va_Qv Q (EndW D cA ad0 sh) A) args s 0 0 A) 0 0 (fun ad => ad = ad0) sh σ [(0, .ref k0), (1, .long x1), (3, .int x3), (4, .int x4)] 6 [] := by
  intro n
  induction n with
  | zero => intro x1 x3 x4 σ h; exact h.elim
  | succ n ih =>
    intro x1 x3 x4 σ h
    rw [w_J7_fill_d0a16_6] at h
    refine g_iload_n X 2 dJ7_fill_d0a16_6 rfl rfl ?_
    refine g_iload X 3 dJ7_fill_d0a16_7 rfl ?_
    refine g_icmp_ge X 22 dJ7_fill_d0a16_9 (by decide) (fun hc => ?_) (fun hc => ?_)
    · have h := h.1 hc
      exact g_vret X hr dJ7_fill_d0a16_22 h
    · have h := h.2 hc
      refine g_aload_n X 0 dJ7_fill_d0a16_12 rfl rfl ?_
      refine g_iload_n X 2 dJ7_fill_d0a16_13 rfl rfl ?_
      refine g_lload_n X 1 dJ7_fill_d0a16_14 rfl rfl ?_
      obtain ⟨hi2, h⟩ := h
      refine g_last X dJ7_fill_d0a16_15 (hk0).1 (hk0).2 hi2 ?_
      refine g_nameS (fun σ3 eσ3 => ?_)
      have h := h σ3 eσ3
      obtain ⟨y4, ey4⟩ : ∃ y : Int32, y = x3 + (1 : Int32) := ⟨_, rfl⟩
      have h := h y4 ey4
      refine g_iinc X 2 (1 : Int32) [(3, .int y4), (0, .ref k0), (1, .long x1), (4, .int x4)] dJ7_fill_d0a16_16 rfl (by decide) (Nat.le_of_ble_eq_true rfl) (by rw [ey4]; rfl) ?_
      refine g_goto X 6 dJ7_fill_d0a16_19 (by decide) ?_
      refine g_weak [1, 2, 0, 3] rfl ?_
      exact ih _ _ _ _ h
def w_J7_fill_d0a16 (k0 : Nat) (n0 : Nat) (Q : St → Prop) (x1 : Int64) (σ : St) : Prop := ∀ y1 : Int32, y1 = (Int32.ofNat n0) → (∃ fu5 : Nat, w_J7_fill_d0a16_6 k0 n0 Q fu5 x1 (0 : Int32) y1 σ)
set_option maxRecDepth 100000 in
set_option maxHeartbeats 4000000 in
theorem b_J7_fill_d0a16_0 {p : Program} {l : Launch} {e : Env} {s : State} {m : MethodId} {args : Array Value} {below : List Frame} {meth : Method} {c : Code} {D : va_G} {cA : Nat → ClassId} {A : Nat → Prop} {ad0 : Nat → Nat} {sh : SH} {k0 : Nat} {n0 : Nat} {Q : St → Prop} {x1 : Int64} {σ : St} (X : Cx p rmJ7_fill_d0a16 s m args meth c cJ7_fill_d0a16 5 RJ7 D cA A) (hr : meth.sig.returnType = none) (hk0 : arrSh sh k0 1 n0) (h : w_J7_fill_d0a16 k0 n0 Q x1 σ) : G p l e rmJ7_fill_d0a16 s m args below meth c 5 D cA A (MQ below (va_Qv Q (EndW D cA ad0 sh) A) args s 0 0 A) 0 0 (fun ad => ad = ad0) sh σ [(0, .ref k0), (1, .long x1)] 0 [] := by
  unfold w_J7_fill_d0a16 at h
  refine g_iconst X (0 : Int32) dJ7_fill_d0a16_0 (by decide) ?_
  refine g_istore_n X [(3, .int (0 : Int32)), (0, .ref k0), (1, .long x1)] dJ7_fill_d0a16_1 rfl (Nat.le_of_ble_eq_true rfl) rfl ?_
  refine g_aload_n X 1 dJ7_fill_d0a16_2 rfl rfl ?_
  refine g_llen X _ dJ7_fill_d0a16_3 (hk0).1 (hk0).2 rfl ?_
  refine g_nameI (fun y1 ey1 => ?_)
  have h := h y1 ey1
  refine g_istore X [(4, .int y1), (3, .int (0 : Int32)), (0, .ref k0), (1, .long x1)] dJ7_fill_d0a16_4 (Nat.le_of_ble_eq_true rfl) rfl ?_
  refine g_weak [2, 3, 1, 0] rfl ?_
  obtain ⟨fu5, h⟩ := h
  exact b_J7_fill_d0a16_6 X hr hk0 fu5 _ _ _ _ h
theorem c_J7_fill_d0a16 (l : Launch) (D : va_G) (cA : Nat → ClassId) (sh : SH) {k0 : Nat} {n0 : Nat} {x1 : Int64} {σ : St} {Q : St → Prop} (hk0 : arrSh sh k0 1 n0) (h : w_J7_fill_d0a16 k0 n0 Q x1 σ) : CtV l yJ7_fill_d0a16 cJ7_fill_d0a16 5 (none) rmJ7_fill_d0a16 D cA sh [.ref k0, .long x1] σ Q := by
  refine CtV.of (own := RJ7) rfl (by decide +kernel) [(0, .ref k0), (1, .long x1)] rfl (Nat.le_of_ble_eq_true rfl) ?_
  intro p e s m args below meth c ad0 A X hr
  exact b_J7_fill_d0a16_0 X hr hk0 h
def rmX4_bitsIn : Room := { frames := 2, cells := 0, slots := 0, locals := 43 }
def w_X4_bitsIn (Q : Int32 → St → Prop) (x0 : Int64) (σ : St) : Prop := w_J13_numberOfLeadingZeros_95d88 (fun r2 σ1 => (Q ((64 : Int32) - r2) σ1)) x0 σ
set_option maxRecDepth 100000 in
set_option maxHeartbeats 4000000 in
theorem b_X4_bitsIn_0 {p : Program} {l : Launch} {e : Env} {s : State} {m : MethodId} {args : Array Value} {below : List Frame} {meth : Method} {c : Code} {D : va_G} {cA : Nat → ClassId} {A : Nat → Prop} {ad0 : Nat → Nat} {sh : SH} {Q : Int32 → St → Prop} {x0 : Int64} {σ : St} (X : Cx p rmX4_bitsIn s m args meth c cX4_bitsIn 2 RX4 D cA A) (hr : meth.sig.returnType = some .int) (h : w_X4_bitsIn Q x0 σ) : G p l e rmX4_bitsIn s m args below meth c 2 D cA A (MQ below (va_Qi Q (EndW D cA ad0 sh) A) args s 0 0 A) 0 0 (fun ad => ad = ad0) sh σ [(0, .long x0)] 0 [] := by
  unfold w_X4_bitsIn at h
  refine g_bipush X (64 : Int32) dX4_bitsIn_0 (by decide) ?_
  refine g_lload_n X 0 dX4_bitsIn_2 rfl rfl ?_
  refine g_callSI X (n := 1) [.long x0] [.int (64 : Int32)] dX4_bitsIn_3 (c_J13_numberOfLeadingZeros_95d88 l D cA sh h) q185 q186 q55 q187 ⟨by decide, by decide, by decide +kernel⟩ rfl rfl (Nat.le_of_ble_eq_true rfl) rfl rfl ⟨(Nat.le_of_ble_eq_true rfl), (Nat.le_of_ble_eq_true rfl)⟩ (Nat.le_of_ble_eq_true rfl) (Nat.le_of_ble_eq_true rfl) (fun r2 σ1 h => ?_)
  refine g_isub X dX4_bitsIn_6 ?_
  exact g_iret X hr dX4_bitsIn_7 rfl h
theorem c_X4_bitsIn (l : Launch) (D : va_G) (cA : Nat → ClassId) (sh : SH) {x0 : Int64} {σ : St} {Q : Int32 → St → Prop} (h : w_X4_bitsIn Q x0 σ) : CtI l yX4_bitsIn cX4_bitsIn 2 (some .int) rmX4_bitsIn D cA sh [.long x0] σ Q := by
  refine CtI.of (own := RX4) rfl (by decide +kernel) [(0, .long x0)] rfl (Nat.le_of_ble_eq_true rfl) ?_
  intro p e s m args below meth c ad0 A X hr
  exact b_X4_bitsIn_0 X hr  h
def rmX4_endless : Room := { frames := 0, cells := 0, slots := 0, locals := 0 }
def w_X4_endless (Q : UInt64 → St → Prop) (σ : St) : Prop := (Q (9218868437227405312 : UInt64) σ)
set_option maxRecDepth 100000 in
set_option maxHeartbeats 4000000 in
theorem b_X4_endless_0 {p : Program} {l : Launch} {e : Env} {s : State} {m : MethodId} {args : Array Value} {below : List Frame} {meth : Method} {c : Code} {D : va_G} {cA : Nat → ClassId} {A : Nat → Prop} {ad0 : Nat → Nat} {sh : SH} {Q : UInt64 → St → Prop} {σ : St} (X : Cx p rmX4_endless s m args meth c cX4_endless 0 RX4 D cA A) (hr : meth.sig.returnType = some .double) (h : w_X4_endless Q  σ) : G p l e rmX4_endless s m args below meth c 0 D cA A (MQ below (va_Qd Q (EndW D cA ad0 sh) A) args s 0 0 A) 0 0 (fun ad => ad = ad0) sh σ [] 0 [] := by
  unfold w_X4_endless at h
  refine g_ldc2d X q290 dX4_endless_0 ?_
  exact g_dret X hr dX4_endless_3 h
theorem c_X4_endless (l : Launch) (D : va_G) (cA : Nat → ClassId) (sh : SH) {σ : St} {Q : UInt64 → St → Prop} (h : w_X4_endless Q  σ) : CtD l yX4_endless cX4_endless 0 (some .double) rmX4_endless D cA sh [] σ Q := by
  refine CtD.of (own := RX4) rfl (by decide +kernel) [] rfl (Nat.le_of_ble_eq_true rfl) ?_
  intro p e s m args below meth c ad0 A X hr
  exact b_X4_endless_0 X hr  h
def rmX4_greatest : Room := { frames := 0, cells := 0, slots := 0, locals := 0 }
def w_X4_greatest (Q : UInt64 → St → Prop) (x0 : Int32) (σ : St) : Prop := ((x0 = 0 → (Q (9218868437227405311 : UInt64) σ)) ∧ (¬ x0 = 0 → (Q (5183643170566569984 : UInt64) σ)))
set_option maxRecDepth 100000 in
set_option maxHeartbeats 4000000 in
theorem b_X4_greatest_0 {p : Program} {l : Launch} {e : Env} {s : State} {m : MethodId} {args : Array Value} {below : List Frame} {meth : Method} {c : Code} {D : va_G} {cA : Nat → ClassId} {A : Nat → Prop} {ad0 : Nat → Nat} {sh : SH} {Q : UInt64 → St → Prop} {x0 : Int32} {σ : St} (X : Cx p rmX4_greatest s m args meth c cX4_greatest 1 RX4 D cA A) (hr : meth.sig.returnType = some .double) (h : w_X4_greatest Q x0 σ) : G p l e rmX4_greatest s m args below meth c 1 D cA A (MQ below (va_Qd Q (EndW D cA ad0 sh) A) args s 0 0 A) 0 0 (fun ad => ad = ad0) sh σ [(0, .int x0)] 0 [] := by
  unfold w_X4_greatest at h
  refine g_iload_n X 0 dX4_greatest_0 rfl rfl ?_
  refine g_if_eq X 10 dX4_greatest_1 (by decide) (fun hc => ?_) (fun hc => ?_)
  · have h := h.1 hc
    refine g_ldc2d X q409 dX4_greatest_10 ?_
    exact g_dret X hr dX4_greatest_13 h
  · have h := h.2 hc
    refine g_ldc2d X q408 dX4_greatest_4 ?_
    refine g_goto X 13 dX4_greatest_7 (by decide) ?_
    exact g_dret X hr dX4_greatest_13 h
theorem c_X4_greatest (l : Launch) (D : va_G) (cA : Nat → ClassId) (sh : SH) {x0 : Int32} {σ : St} {Q : UInt64 → St → Prop} (h : w_X4_greatest Q x0 σ) : CtD l yX4_greatest cX4_greatest 1 (some .double) rmX4_greatest D cA sh [.int x0] σ Q := by
  refine CtD.of (own := RX4) rfl (by decide +kernel) [(0, .int x0)] rfl (Nat.le_of_ble_eq_true rfl) ?_
  intro p e s m args below meth c ad0 A X hr
  exact b_X4_greatest_0 X hr  h
def rmX4_power : Room := { frames := 1, cells := 0, slots := 0, locals := 21 }
def w_X4_power_39 (K22 : UInt64 → UInt64 → Int32 → St → Prop) (Q : UInt64 → St → Prop) (x1 : UInt64) (x3 : UInt64) (x5 : Int32) (σ : St) : Prop := vf_n64 (FP.dmul x1 x1) ∧ ∀ y2 : UInt64, y2 = (FP.dmul x1 x1) → ∀ y3 : Int32, y3 = (x5 >>> ((1 : Int32) &&& 31)) → (K22 y2 x3 y3 σ)
set_option maxRecDepth 100000 in
set_option maxHeartbeats 4000000 in
theorem b_X4_power_39 {p : Program} {l : Launch} {e : Env} {s : State} {m : MethodId} {args : Array Value} {below : List Frame} {meth : Method} {c : Code} {D : va_G} {cA : Nat → ClassId} {A : Nat → Prop} {ad0 : Nat → Nat} {sh : SH} {K22 : UInt64 → UInt64 → Int32 → St → Prop} {Q : UInt64 → St → Prop} {x1 : UInt64} {x3 : UInt64} {x5 : Int32} {σ : St} (X : Cx p rmX4_power s m args meth c cX4_power 6 RX4 D cA A) (hr : meth.sig.returnType = some .double) (hK22 : ∀ (x1 : UInt64) (x3 : UInt64) (x5 : Int32) (σ : St), K22 x1 x3 x5 σ → G p l e rmX4_power s m args below meth c 6 D cA A (MQ below (va_Qd Q (EndW D cA ad0 sh) A) args s 0 0 A) 0 0 (fun ad => ad = ad0) sh σ [(1, .double x1), (3, .double x3), (5, .int x5)] 22 []) (h : w_X4_power_39 K22 Q x1 x3 x5 σ) : G p l e rmX4_power s m args below meth c 6 D cA A (MQ below (va_Qd Q (EndW D cA ad0 sh) A) args s 0 0 A) 0 0 (fun ad => ad = ad0) sh σ [(1, .double x1), (3, .double x3), (5, .int x5)] 39 [] := by
  unfold w_X4_power_39 at h
  refine g_dload_n X 0 dX4_power_39 rfl rfl ?_
  refine g_dload_n X 0 dX4_power_40 rfl rfl ?_
  obtain ⟨hc, h⟩ := h
  refine g_dmul X dX4_power_41 hc ?_
  refine g_nameD (fun y2 ey2 => ?_)
  have h := h y2 ey2
  refine g_dstore_n X [(1, .double y2), (3, .double x3), (5, .int x5)] dX4_power_42 rfl (Nat.le_of_ble_eq_true rfl) rfl ?_
  refine g_iload X 2 dX4_power_43 rfl ?_
  refine g_iconst X (1 : Int32) dX4_power_45 (by decide) ?_
  refine g_ishr X dX4_power_46 ?_
  refine g_nameI (fun y3 ey3 => ?_)
  have h := h y3 ey3
  refine g_istore X [(5, .int y3), (1, .double y2), (3, .double x3)] dX4_power_47 (Nat.le_of_ble_eq_true rfl) rfl ?_
  refine g_goto X 22 dX4_power_49 (by decide) ?_
  refine g_weak [1, 2, 0] rfl ?_
  exact hK22 _ _ _ _ h
def w_X4_power_22 (Q : UInt64 → St → Prop) : Nat → UInt64 → UInt64 → Int32 → St → Prop
  | 0, _, _, _, _ => False
  | n + 1, x1, x3, x5, σ => ((x5 ≤ 0 → (Q x3 σ)) ∧ (¬ x5 ≤ 0 → ((¬ (x5 &&& (1 : Int32)) = (1 : Int32) → (w_X4_power_39 (fun x1 x3 x5 σ => w_X4_power_22 Q n x1 x3 x5 σ) Q x1 x3 x5 σ)) ∧ ((x5 &&& (1 : Int32)) = (1 : Int32) → vf_n64 (FP.dmul x3 x1) ∧ ∀ y4 : UInt64, y4 = (FP.dmul x3 x1) → (w_X4_power_39 (fun x1 x3 x5 σ => w_X4_power_22 Q n x1 x3 x5 σ) Q x1 y4 x5 σ)))))
set_option maxRecDepth 100000 in
set_option maxHeartbeats 4000000 in
theorem b_X4_power_22 {p : Program} {l : Launch} {e : Env} {s : State} {m : MethodId} {args : Array Value} {below : List Frame} {meth : Method} {c : Code} {D : va_G} {cA : Nat → ClassId} {A : Nat → Prop} {ad0 : Nat → Nat} {sh : SH} {Q : UInt64 → St → Prop} (X : Cx p rmX4_power s m args meth c cX4_power 6 RX4 D cA A) (hr : meth.sig.returnType = some .double) : ∀ (n : Nat) (x1 : UInt64) (x3 : UInt64) (x5 : Int32) (σ : St), w_X4_power_22 Q n x1 x3 x5 σ → G p l e rmX4_power s m args below meth c 6 D cA A (MQ below (va_Qd Q (EndW D cA ad0 sh) A) args s 0 0 A) 0 0 (fun ad => ad = ad0) sh σ [(1, .double x1), (3, .double x3), (5, .int x5)] 22 [] := by
  intro n
  induction n with
  | zero => intro x1 x3 x5 σ h; exact h.elim
  | succ n ih =>
    intro x1 x3 x5 σ h
    rw [w_X4_power_22] at h
    refine g_iload X 2 dX4_power_22 rfl ?_
    refine g_if_le X 52 dX4_power_24 (by decide) (fun hc => ?_) (fun hc => ?_)
    · have h := h.1 hc
      refine g_dload_n X 1 dX4_power_52 rfl rfl ?_
      exact g_dret X hr dX4_power_53 h
    · have h := h.2 hc
      refine g_iload X 2 dX4_power_27 rfl ?_
      refine g_iconst X (1 : Int32) dX4_power_29 (by decide) ?_
      refine g_iand X dX4_power_30 ?_
      refine g_iconst X (1 : Int32) dX4_power_31 (by decide) ?_
      refine g_icmp_ne X 39 dX4_power_32 (by decide) (fun hc => ?_) (fun hc => ?_)
      · have h := h.1 hc
        exact b_X4_power_39 X hr (ih) h
      · have h := h.2 hc
        refine g_dload_n X 1 dX4_power_35 rfl rfl ?_
        refine g_dload_n X 0 dX4_power_36 rfl rfl ?_
        obtain ⟨hc, h⟩ := h
        refine g_dmul X dX4_power_37 hc ?_
        refine g_nameD (fun y4 ey4 => ?_)
        have h := h y4 ey4
        refine g_dstore_n X [(3, .double y4), (1, .double x1), (5, .int x5)] dX4_power_38 rfl (Nat.le_of_ble_eq_true rfl) rfl ?_
        refine g_weak [1, 0, 2] rfl ?_
        exact b_X4_power_39 X hr (ih) h
def w_X4_power_13 (Q : UInt64 → St → Prop) (x0 : Int32) (s0 : UInt64) (σ : St) : Prop := ∀ y1 : Int32, y1 = (if 0 ≤ x0 then x0 else 0 - x0) → (∃ fu5 : Nat, w_X4_power_22 Q fu5 s0 FP.dconst1 y1 σ)
set_option maxRecDepth 100000 in
set_option maxHeartbeats 4000000 in
theorem b_X4_power_13 {p : Program} {l : Launch} {e : Env} {s : State} {m : MethodId} {args : Array Value} {below : List Frame} {meth : Method} {c : Code} {D : va_G} {cA : Nat → ClassId} {A : Nat → Prop} {ad0 : Nat → Nat} {sh : SH} {Q : UInt64 → St → Prop} {x0 : Int32} {s0 : UInt64} {σ : St} (X : Cx p rmX4_power s m args meth c cX4_power 6 RX4 D cA A) (hr : meth.sig.returnType = some .double) (h : w_X4_power_13 Q x0 s0 σ) : G p l e rmX4_power s m args below meth c 6 D cA A (MQ below (va_Qd Q (EndW D cA ad0 sh) A) args s 0 0 A) 0 0 (fun ad => ad = ad0) sh σ [(0, .int x0)] 13 [.double s0] := by
  unfold w_X4_power_13 at h
  refine g_dstore_n X [(1, .double s0), (0, .int x0)] dX4_power_13 rfl (Nat.le_of_ble_eq_true rfl) rfl ?_
  refine g_dconst1 X dX4_power_14 ?_
  refine g_dstore_n X [(3, .double FP.dconst1), (1, .double s0), (0, .int x0)] dX4_power_15 rfl (Nat.le_of_ble_eq_true rfl) rfl ?_
  refine g_iload_n X 2 dX4_power_16 rfl rfl ?_
  refine g_mabs X dX4_power_17 q297 q298 q53 q299 (Nat.le_of_ble_eq_true rfl) (Nat.le_of_ble_eq_true rfl) (Nat.le_of_ble_eq_true rfl) (Nat.le_of_ble_eq_true rfl) ?_
  refine g_nameI (fun y1 ey1 => ?_)
  have h := h y1 ey1
  refine g_istore X [(5, .int y1), (3, .double FP.dconst1), (1, .double s0), (0, .int x0)] dX4_power_20 (Nat.le_of_ble_eq_true rfl) rfl ?_
  refine g_weak [2, 1, 0] rfl ?_
  obtain ⟨fu5, h⟩ := h
  exact b_X4_power_22 X hr fu5 _ _ _ _ h
def w_X4_power (Q : UInt64 → St → Prop) (x0 : Int32) (σ : St) : Prop := ((0 ≤ x0 → (w_X4_power_13 Q x0 (4611686018427387904 : UInt64) σ)) ∧ (¬ 0 ≤ x0 → (w_X4_power_13 Q x0 (4602678819172646912 : UInt64) σ)))
set_option maxRecDepth 100000 in
set_option maxHeartbeats 4000000 in
theorem b_X4_power_0 {p : Program} {l : Launch} {e : Env} {s : State} {m : MethodId} {args : Array Value} {below : List Frame} {meth : Method} {c : Code} {D : va_G} {cA : Nat → ClassId} {A : Nat → Prop} {ad0 : Nat → Nat} {sh : SH} {Q : UInt64 → St → Prop} {x0 : Int32} {σ : St} (X : Cx p rmX4_power s m args meth c cX4_power 6 RX4 D cA A) (hr : meth.sig.returnType = some .double) (h : w_X4_power Q x0 σ) : G p l e rmX4_power s m args below meth c 6 D cA A (MQ below (va_Qd Q (EndW D cA ad0 sh) A) args s 0 0 A) 0 0 (fun ad => ad = ad0) sh σ [(0, .int x0)] 0 [] := by
  unfold w_X4_power at h
  refine g_iload_n X 0 dX4_power_0 rfl rfl ?_
  refine g_if_ge X 10 dX4_power_1 (by decide) (fun hc => ?_) (fun hc => ?_)
  · have h := h.1 hc
    refine g_ldc2d X q296 dX4_power_10 ?_
    exact b_X4_power_13 X hr h
  · have h := h.2 hc
    refine g_ldc2d X q295 dX4_power_4 ?_
    refine g_goto X 13 dX4_power_7 (by decide) ?_
    exact b_X4_power_13 X hr h
theorem c_X4_power (l : Launch) (D : va_G) (cA : Nat → ClassId) (sh : SH) {x0 : Int32} {σ : St} {Q : UInt64 → St → Prop} (h : w_X4_power Q x0 σ) : CtD l yX4_power cX4_power 6 (some .double) rmX4_power D cA sh [.int x0] σ Q := by
  refine CtD.of (own := RX4) rfl (by decide +kernel) [(0, .int x0)] rfl (Nat.le_of_ble_eq_true rfl) ?_
  intro p e s m args below meth c ad0 A X hr
  exact b_X4_power_0 X hr  h
def rmX4_stepsAway : Room := { frames := 0, cells := 0, slots := 0, locals := 0 }
def w_X4_stepsAway (Q : Int32 → St → Prop) (x0 : Int64) (x2 : Int32) (x3 : Int32) (x4 : Int32) (x5 : Int32) (σ : St) : Prop := ((x5 = 0 → ((x2 = 0 → (Q (0 : Int32) σ)) ∧ (¬ x2 = 0 → ((¬ x3 = 0 → (Q (1 : Int32) σ)) ∧ (x3 = 0 → ((¬ (x0 &&& (1 : Int64)) = (1 : Int64) → (Q (0 : Int32) σ)) ∧ ((x0 &&& (1 : Int64)) = (1 : Int64) → (Q (1 : Int32) σ)))))))) ∧ (x5 = 1 → (Q (0 : Int32) σ)) ∧ (x5 = 2 → ((¬ x4 = 0 → (Q (0 : Int32) σ)) ∧ (x4 = 0 → ((¬ x2 = 0 → (Q (1 : Int32) σ)) ∧ (x2 = 0 → ((x3 = 0 → (Q (0 : Int32) σ)) ∧ (¬ x3 = 0 → (Q (1 : Int32) σ)))))))) ∧ (x5 = 3 → ((x4 = 0 → (Q (0 : Int32) σ)) ∧ (¬ x4 = 0 → ((¬ x2 = 0 → (Q (1 : Int32) σ)) ∧ (x2 = 0 → ((x3 = 0 → (Q (0 : Int32) σ)) ∧ (¬ x3 = 0 → (Q (1 : Int32) σ)))))))) ∧ (¬ x5 = 0 → ¬ x5 = 1 → ¬ x5 = 2 → ¬ x5 = 3 → (Q (0 : Int32) σ)))
set_option maxRecDepth 100000 in
set_option maxHeartbeats 4000000 in
theorem b_X4_stepsAway_0 {p : Program} {l : Launch} {e : Env} {s : State} {m : MethodId} {args : Array Value} {below : List Frame} {meth : Method} {c : Code} {D : va_G} {cA : Nat → ClassId} {A : Nat → Prop} {ad0 : Nat → Nat} {sh : SH} {Q : Int32 → St → Prop} {x0 : Int64} {x2 : Int32} {x3 : Int32} {x4 : Int32} {x5 : Int32} {σ : St} (X : Cx p rmX4_stepsAway s m args meth c cX4_stepsAway 6 RX4 D cA A) (hr : meth.sig.returnType = some .boolean) (h : w_X4_stepsAway Q x0 x2 x3 x4 x5 σ) : G p l e rmX4_stepsAway s m args below meth c 6 D cA A (MQ below (va_Qi Q (EndW D cA ad0 sh) A) args s 0 0 A) 0 0 (fun ad => ad = ad0) sh σ [(0, .long x0), (2, .int x2), (3, .int x3), (4, .int x4), (5, .int x5)] 0 [] := by
  unfold w_X4_stepsAway at h
  refine g_iload X 4 dX4_stepsAway_0 rfl ?_
  by_cases hc0 : x5 = 0
  · have h := h.1 hc0
    refine g_tabIn X 32 (30) dX4_stepsAway_2 (by rw [hc0]; decide) (by rw [hc0]; decide) (by rw [hc0]; rfl) (by decide) ?_
    refine g_iload_n X 1 dX4_stepsAway_32 rfl rfl ?_
    refine g_if_eq X 52 dX4_stepsAway_33 (by decide) (fun hc => ?_) (fun hc => ?_)
    · have h := h.1 hc
      refine g_iconst X (0 : Int32) dX4_stepsAway_52 (by decide) ?_
      exact g_iret X hr dX4_stepsAway_53 (by decide) h
    · have h := h.2 hc
      refine g_iload_n X 2 dX4_stepsAway_36 rfl rfl ?_
      refine g_if_ne X 48 dX4_stepsAway_37 (by decide) (fun hc => ?_) (fun hc => ?_)
      · have h := h.1 hc
        refine g_iconst X (1 : Int32) dX4_stepsAway_48 (by decide) ?_
        refine g_goto X 53 dX4_stepsAway_49 (by decide) ?_
        exact g_iret X hr dX4_stepsAway_53 (by decide) h
      · have h := h.2 hc
        refine g_lload_n X 0 dX4_stepsAway_40 rfl rfl ?_
        refine g_lconst X (1 : Int64) dX4_stepsAway_41 (by decide) ?_
        refine g_land X dX4_stepsAway_42 ?_
        refine g_lconst X (1 : Int64) dX4_stepsAway_43 (by decide) ?_
        refine g_lcmp X dX4_stepsAway_44 ?_
        refine g_if_ne X 52 dX4_stepsAway_45 (by decide) (fun hc => ?_) (fun hc => ?_)
        · have h := h.1 (fun z => hc (lgc_eq.mpr z))
          refine g_iconst X (0 : Int32) dX4_stepsAway_52 (by decide) ?_
          exact g_iret X hr dX4_stepsAway_53 (by decide) h
        · have h := h.2 (lgc_eq.mp hc)
          refine g_iconst X (1 : Int32) dX4_stepsAway_48 (by decide) ?_
          refine g_goto X 53 dX4_stepsAway_49 (by decide) ?_
          exact g_iret X hr dX4_stepsAway_53 (by decide) h
  by_cases hc1 : x5 = 1
  · have h := h.2.1 hc1
    refine g_tabIn X 92 (90) dX4_stepsAway_2 (by rw [hc1]; decide) (by rw [hc1]; decide) (by rw [hc1]; rfl) (by decide) ?_
    refine g_iconst X (0 : Int32) dX4_stepsAway_92 (by decide) ?_
    exact g_iret X hr dX4_stepsAway_93 (by decide) h
  by_cases hc2 : x5 = 2
  · have h := h.2.2.1 hc2
    refine g_tabIn X 54 (52) dX4_stepsAway_2 (by rw [hc2]; decide) (by rw [hc2]; decide) (by rw [hc2]; rfl) (by decide) ?_
    refine g_iload X 3 dX4_stepsAway_54 rfl ?_
    refine g_if_ne X 71 dX4_stepsAway_56 (by decide) (fun hc => ?_) (fun hc => ?_)
    · have h := h.1 hc
      refine g_iconst X (0 : Int32) dX4_stepsAway_71 (by decide) ?_
      exact g_iret X hr dX4_stepsAway_72 (by decide) h
    · have h := h.2 hc
      refine g_iload_n X 1 dX4_stepsAway_59 rfl rfl ?_
      refine g_if_ne X 67 dX4_stepsAway_60 (by decide) (fun hc => ?_) (fun hc => ?_)
      · have h := h.1 hc
        refine g_iconst X (1 : Int32) dX4_stepsAway_67 (by decide) ?_
        refine g_goto X 72 dX4_stepsAway_68 (by decide) ?_
        exact g_iret X hr dX4_stepsAway_72 (by decide) h
      · have h := h.2 hc
        refine g_iload_n X 2 dX4_stepsAway_63 rfl rfl ?_
        refine g_if_eq X 71 dX4_stepsAway_64 (by decide) (fun hc => ?_) (fun hc => ?_)
        · have h := h.1 hc
          refine g_iconst X (0 : Int32) dX4_stepsAway_71 (by decide) ?_
          exact g_iret X hr dX4_stepsAway_72 (by decide) h
        · have h := h.2 hc
          refine g_iconst X (1 : Int32) dX4_stepsAway_67 (by decide) ?_
          refine g_goto X 72 dX4_stepsAway_68 (by decide) ?_
          exact g_iret X hr dX4_stepsAway_72 (by decide) h
  by_cases hc3 : x5 = 3
  · have h := h.2.2.2.1 hc3
    refine g_tabIn X 73 (71) dX4_stepsAway_2 (by rw [hc3]; decide) (by rw [hc3]; decide) (by rw [hc3]; rfl) (by decide) ?_
    refine g_iload X 3 dX4_stepsAway_73 rfl ?_
    refine g_if_eq X 90 dX4_stepsAway_75 (by decide) (fun hc => ?_) (fun hc => ?_)
    · have h := h.1 hc
      refine g_iconst X (0 : Int32) dX4_stepsAway_90 (by decide) ?_
      exact g_iret X hr dX4_stepsAway_91 (by decide) h
    · have h := h.2 hc
      refine g_iload_n X 1 dX4_stepsAway_78 rfl rfl ?_
      refine g_if_ne X 86 dX4_stepsAway_79 (by decide) (fun hc => ?_) (fun hc => ?_)
      · have h := h.1 hc
        refine g_iconst X (1 : Int32) dX4_stepsAway_86 (by decide) ?_
        refine g_goto X 91 dX4_stepsAway_87 (by decide) ?_
        exact g_iret X hr dX4_stepsAway_91 (by decide) h
      · have h := h.2 hc
        refine g_iload_n X 2 dX4_stepsAway_82 rfl rfl ?_
        refine g_if_eq X 90 dX4_stepsAway_83 (by decide) (fun hc => ?_) (fun hc => ?_)
        · have h := h.1 hc
          refine g_iconst X (0 : Int32) dX4_stepsAway_90 (by decide) ?_
          exact g_iret X hr dX4_stepsAway_91 (by decide) h
        · have h := h.2 hc
          refine g_iconst X (1 : Int32) dX4_stepsAway_86 (by decide) ?_
          refine g_goto X 91 dX4_stepsAway_87 (by decide) ?_
          exact g_iret X hr dX4_stepsAway_91 (by decide) h
  have h := h.2.2.2.2 hc0 hc1 hc2 hc3
  refine g_tabOut X 92 dX4_stepsAway_2 (by have e0 := lv_neT (a := 0) hc0 rfl; have e1 := lv_neT (a := 1) hc1 rfl; have e2 := lv_neT (a := 2) hc2 rfl; have e3 := lv_neT (a := 3) hc3 rfl; omega) (by decide) ?_
  refine g_iconst X (0 : Int32) dX4_stepsAway_92 (by decide) ?_
  exact g_iret X hr dX4_stepsAway_93 (by decide) h
theorem c_X4_stepsAway (l : Launch) (D : va_G) (cA : Nat → ClassId) (sh : SH) {x0 : Int64} {x2 : Int32} {x3 : Int32} {x4 : Int32} {x5 : Int32} {σ : St} {Q : Int32 → St → Prop} (h : w_X4_stepsAway Q x0 x2 x3 x4 x5 σ) : CtI l yX4_stepsAway cX4_stepsAway 6 (some .boolean) rmX4_stepsAway D cA sh [.long x0, .int x2, .int x3, .int x4, .int x5] σ Q := by
  refine CtI.of (own := RX4) rfl (by decide +kernel) [(0, .long x0), (2, .int x2), (3, .int x3), (4, .int x4), (5, .int x5)] rfl (Nat.le_of_ble_eq_true rfl) ?_
  intro p e s m args below meth c ad0 A X hr
  exact b_X4_stepsAway_0 X hr  h
def rmX4_finished : Room := { frames := 3, cells := 0, slots := 0, locals := 64 }
def w_X4_finished_91 (Q : UInt64 → St → Prop) (x3 : Int32) (x7 : UInt64) (σ : St) : Prop := ((x3 = 0 → (Q x7 σ)) ∧ (¬ x3 = 0 → (Q (FP.dneg x7) σ)))
set_option maxRecDepth 100000 in
set_option maxHeartbeats 4000000 in
theorem b_X4_finished_91 {p : Program} {l : Launch} {e : Env} {s : State} {m : MethodId} {args : Array Value} {below : List Frame} {meth : Method} {c : Code} {D : va_G} {cA : Nat → ClassId} {A : Nat → Prop} {ad0 : Nat → Nat} {sh : SH} {Q : UInt64 → St → Prop} {x3 : Int32} {x7 : UInt64} {σ : St} (X : Cx p rmX4_finished s m args meth c cX4_finished 10 RX4 D cA A) (hr : meth.sig.returnType = some .double) (h : w_X4_finished_91 Q x3 x7 σ) : G p l e rmX4_finished s m args below meth c 10 D cA A (MQ below (va_Qd Q (EndW D cA ad0 sh) A) args s 0 0 A) 0 0 (fun ad => ad = ad0) sh σ [(3, .int x3), (7, .double x7)] 91 [] := by
  unfold w_X4_finished_91 at h
  refine g_iload_n X 0 dX4_finished_91 rfl rfl ?_
  refine g_if_eq X 101 dX4_finished_92 (by decide) (fun hc => ?_) (fun hc => ?_)
  · have h := h.1 hc
    refine g_dload X 1 dX4_finished_101 rfl ?_
    exact g_dret X hr dX4_finished_103 h
  · have h := h.2 hc
    refine g_dload X 1 dX4_finished_95 rfl ?_
    refine g_dneg X dX4_finished_97 ?_
    refine g_goto X 103 dX4_finished_98 (by decide) ?_
    exact g_dret X hr dX4_finished_103 h
def w_X4_finished_77 (Q : UInt64 → St → Prop) (x3 : Int32) (s0 : UInt64) (σ : St) : Prop := (w_X4_finished_91 Q x3 s0 σ)
set_option maxRecDepth 100000 in
set_option maxHeartbeats 4000000 in
theorem b_X4_finished_77 {p : Program} {l : Launch} {e : Env} {s : State} {m : MethodId} {args : Array Value} {below : List Frame} {meth : Method} {c : Code} {D : va_G} {cA : Nat → ClassId} {A : Nat → Prop} {ad0 : Nat → Nat} {sh : SH} {Q : UInt64 → St → Prop} {x3 : Int32} {s0 : UInt64} {σ : St} (X : Cx p rmX4_finished s m args meth c cX4_finished 10 RX4 D cA A) (hr : meth.sig.returnType = some .double) (h : w_X4_finished_77 Q x3 s0 σ) : G p l e rmX4_finished s m args below meth c 10 D cA A (MQ below (va_Qd Q (EndW D cA ad0 sh) A) args s 0 0 A) 0 0 (fun ad => ad = ad0) sh σ [(3, .int x3)] 77 [.double s0] := by
  unfold w_X4_finished_77 at h
  refine g_dstore X [(7, .double s0), (3, .int x3)] dX4_finished_77 (Nat.le_of_ble_eq_true rfl) rfl ?_
  refine g_goto X 91 dX4_finished_79 (by decide) ?_
  refine g_weak [1, 0] rfl ?_
  exact b_X4_finished_91 X hr h
def w_X4_finished_59 (Q : UInt64 → St → Prop) (x3 : Int32) (x5 : Int32) (s0 : Int32) (σ : St) : Prop := ((s0 = 0 → w_X4_greatest (fun r7 σ6 => (w_X4_finished_77 Q x3 r7 σ6)) x5 σ) ∧ (¬ s0 = 0 → w_X4_endless (fun r9 σ8 => (w_X4_finished_77 Q x3 r9 σ8)) σ))
set_option maxRecDepth 100000 in
set_option maxHeartbeats 4000000 in
theorem b_X4_finished_59 {p : Program} {l : Launch} {e : Env} {s : State} {m : MethodId} {args : Array Value} {below : List Frame} {meth : Method} {c : Code} {D : va_G} {cA : Nat → ClassId} {A : Nat → Prop} {ad0 : Nat → Nat} {sh : SH} {Q : UInt64 → St → Prop} {x3 : Int32} {x5 : Int32} {s0 : Int32} {σ : St} (X : Cx p rmX4_finished s m args meth c cX4_finished 10 RX4 D cA A) (hr : meth.sig.returnType = some .double) (h : w_X4_finished_59 Q x3 x5 s0 σ) : G p l e rmX4_finished s m args below meth c 10 D cA A (MQ below (va_Qd Q (EndW D cA ad0 sh) A) args s 0 0 A) 0 0 (fun ad => ad = ad0) sh σ [(3, .int x3), (5, .int x5)] 59 [.int s0] := by
  unfold w_X4_finished_59 at h
  refine g_istore X [(9, .int s0), (3, .int x3), (5, .int x5)] dX4_finished_59 (Nat.le_of_ble_eq_true rfl) rfl ?_
  refine g_iload X 0 dX4_finished_61 rfl ?_
  refine g_if_eq X 72 dX4_finished_63 (by decide) (fun hc => ?_) (fun hc => ?_)
  · have h := h.1 hc
    refine g_iload X 2 dX4_finished_72 rfl ?_
    refine g_callSD X (n := 1) [.int x5] [] dX4_finished_74 (c_X4_greatest l D cA sh h) q494 q406 q47 q407 ⟨by decide, by decide, by decide +kernel⟩ rfl rfl (Nat.le_of_ble_eq_true rfl) rfl rfl ⟨(Nat.le_of_ble_eq_true rfl), (Nat.le_of_ble_eq_true rfl)⟩ (Nat.le_of_ble_eq_true rfl) (Nat.le_of_ble_eq_true rfl) (fun r7 σ6 h => ?_)
    refine g_weak [1] rfl ?_
    exact b_X4_finished_77 X hr h
  · have h := h.2 hc
    refine g_callSD X (n := 0) [] [] dX4_finished_66 (c_X4_endless l D cA sh h) q448 q288 q47 q289 ⟨by decide, by decide, by decide +kernel⟩ rfl rfl (Nat.le_of_ble_eq_true rfl) rfl rfl ⟨(Nat.le_of_ble_eq_true rfl), (Nat.le_of_ble_eq_true rfl)⟩ (Nat.le_of_ble_eq_true rfl) (Nat.le_of_ble_eq_true rfl) (fun r9 σ8 h => ?_)
    refine g_goto X 77 dX4_finished_69 (by decide) ?_
    refine g_weak [1] rfl ?_
    exact b_X4_finished_77 X hr h
def w_X4_finished_54 (Q : UInt64 → St → Prop) (x3 : Int32) (x5 : Int32) (σ : St) : Prop := (w_X4_finished_59 Q x3 x5 (1 : Int32) σ)
set_option maxRecDepth 100000 in
set_option maxHeartbeats 4000000 in
theorem b_X4_finished_54 {p : Program} {l : Launch} {e : Env} {s : State} {m : MethodId} {args : Array Value} {below : List Frame} {meth : Method} {c : Code} {D : va_G} {cA : Nat → ClassId} {A : Nat → Prop} {ad0 : Nat → Nat} {sh : SH} {Q : UInt64 → St → Prop} {x3 : Int32} {x5 : Int32} {σ : St} (X : Cx p rmX4_finished s m args meth c cX4_finished 10 RX4 D cA A) (hr : meth.sig.returnType = some .double) (h : w_X4_finished_54 Q x3 x5 σ) : G p l e rmX4_finished s m args below meth c 10 D cA A (MQ below (va_Qd Q (EndW D cA ad0 sh) A) args s 0 0 A) 0 0 (fun ad => ad = ad0) sh σ [(3, .int x3), (5, .int x5)] 54 [] := by
  unfold w_X4_finished_54 at h
  refine g_iconst X (1 : Int32) dX4_finished_54 (by decide) ?_
  refine g_goto X 59 dX4_finished_55 (by decide) ?_
  exact b_X4_finished_59 X hr h
def w_X4_finished_51 (Q : UInt64 → St → Prop) (x3 : Int32) (x5 : Int32) (s0 : Int32) (s1 : Int32) (σ : St) : Prop := ((¬ s1 = s0 → (w_X4_finished_59 Q x3 x5 (0 : Int32) σ)) ∧ (s1 = s0 → (w_X4_finished_54 Q x3 x5 σ)))
set_option maxRecDepth 100000 in
set_option maxHeartbeats 4000000 in
theorem b_X4_finished_51 {p : Program} {l : Launch} {e : Env} {s : State} {m : MethodId} {args : Array Value} {below : List Frame} {meth : Method} {c : Code} {D : va_G} {cA : Nat → ClassId} {A : Nat → Prop} {ad0 : Nat → Nat} {sh : SH} {Q : UInt64 → St → Prop} {x3 : Int32} {x5 : Int32} {s0 : Int32} {s1 : Int32} {σ : St} (X : Cx p rmX4_finished s m args meth c cX4_finished 10 RX4 D cA A) (hr : meth.sig.returnType = some .double) (h : w_X4_finished_51 Q x3 x5 s0 s1 σ) : G p l e rmX4_finished s m args below meth c 10 D cA A (MQ below (va_Qd Q (EndW D cA ad0 sh) A) args s 0 0 A) 0 0 (fun ad => ad = ad0) sh σ [(3, .int x3), (5, .int x5)] 51 [.int s0, .int s1] := by
  unfold w_X4_finished_51 at h
  refine g_icmp_ne X 58 dX4_finished_51 (by decide) (fun hc => ?_) (fun hc => ?_)
  · have h := h.1 hc
    refine g_iconst X (0 : Int32) dX4_finished_58 (by decide) ?_
    exact b_X4_finished_59 X hr h
  · have h := h.2 hc
    exact b_X4_finished_54 X hr h
def w_X4_finished_22 (Q : UInt64 → St → Prop) (x0 : Int64) (x2 : Int32) (x3 : Int32) (x4 : Int32) (x5 : Int32) (s0 : Int32) (σ : St) : Prop := w_X4_bitsIn (fun r2 σ1 => (((r2 + x2) ≤ s0 → w_X4_power (fun r4 σ3 => vf_n64 (FP.dmul (FP.l2d x0) r4) ∧ ∀ y5 : UInt64, y5 = (FP.dmul (FP.l2d x0) r4) → (w_X4_finished_91 Q x3 y5 σ3)) x2 σ1) ∧ (¬ (r2 + x2) ≤ s0 → ((x4 = 0 → (w_X4_finished_54 Q x3 x5 σ1)) ∧ (¬ x4 = 0 → ((x3 = 0 → (w_X4_finished_51 Q x3 x5 (2 : Int32) x4 σ1)) ∧ (¬ x3 = 0 → (w_X4_finished_51 Q x3 x5 (3 : Int32) x4 σ1)))))))) x0 σ
set_option maxRecDepth 100000 in
set_option maxHeartbeats 4000000 in
theorem b_X4_finished_22 {p : Program} {l : Launch} {e : Env} {s : State} {m : MethodId} {args : Array Value} {below : List Frame} {meth : Method} {c : Code} {D : va_G} {cA : Nat → ClassId} {A : Nat → Prop} {ad0 : Nat → Nat} {sh : SH} {Q : UInt64 → St → Prop} {x0 : Int64} {x2 : Int32} {x3 : Int32} {x4 : Int32} {x5 : Int32} {s0 : Int32} {σ : St} (X : Cx p rmX4_finished s m args meth c cX4_finished 10 RX4 D cA A) (hr : meth.sig.returnType = some .double) (h : w_X4_finished_22 Q x0 x2 x3 x4 x5 s0 σ) : G p l e rmX4_finished s m args below meth c 10 D cA A (MQ below (va_Qd Q (EndW D cA ad0 sh) A) args s 0 0 A) 0 0 (fun ad => ad = ad0) sh σ [(0, .long x0), (2, .int x2), (3, .int x3), (4, .int x4), (5, .int x5)] 22 [.int s0] := by
  unfold w_X4_finished_22 at h
  refine g_istore X [(6, .int s0), (0, .long x0), (2, .int x2), (3, .int x3), (4, .int x4), (5, .int x5)] dX4_finished_22 (Nat.le_of_ble_eq_true rfl) rfl ?_
  refine g_lload_n X 1 dX4_finished_24 rfl rfl ?_
  refine g_callSI X (n := 1) [.long x0] [] dX4_finished_25 (c_X4_bitsIn l D cA sh h) q493 q183 q47 q184 ⟨by decide, by decide, by decide +kernel⟩ rfl rfl (Nat.le_of_ble_eq_true rfl) rfl rfl ⟨(Nat.le_of_ble_eq_true rfl), (Nat.le_of_ble_eq_true rfl)⟩ (Nat.le_of_ble_eq_true rfl) (Nat.le_of_ble_eq_true rfl) (fun r2 σ1 h => ?_)
  refine g_iload_n X 2 dX4_finished_28 rfl rfl ?_
  refine g_iadd X dX4_finished_29 ?_
  refine g_iload X 0 dX4_finished_30 rfl ?_
  refine g_icmp_le X 82 dX4_finished_32 (by decide) (fun hc => ?_) (fun hc => ?_)
  · have h := h.1 hc
    refine g_lload_n X 1 dX4_finished_82 rfl rfl ?_
    refine g_l2d X dX4_finished_83 ?_
    refine g_iload_n X 2 dX4_finished_84 rfl rfl ?_
    refine g_callSD X (n := 1) [.int x2] [.double (FP.l2d x0)] dX4_finished_85 (c_X4_power l D cA sh h) q495 q293 q47 q294 ⟨by decide, by decide, by decide +kernel⟩ rfl rfl (Nat.le_of_ble_eq_true rfl) rfl rfl ⟨(Nat.le_of_ble_eq_true rfl), (Nat.le_of_ble_eq_true rfl)⟩ (Nat.le_of_ble_eq_true rfl) (Nat.le_of_ble_eq_true rfl) (fun r4 σ3 h => ?_)
    obtain ⟨hc, h⟩ := h
    refine g_dmul X dX4_finished_88 hc ?_
    refine g_nameD (fun y5 ey5 => ?_)
    have h := h y5 ey5
    refine g_dstore X [(7, .double y5), (6, .int s0), (0, .long x0), (2, .int x2), (3, .int x3), (4, .int x4), (5, .int x5)] dX4_finished_89 (Nat.le_of_ble_eq_true rfl) rfl ?_
    refine g_weak [4, 0] rfl ?_
    exact b_X4_finished_91 X hr h
  · have h := h.2 hc
    refine g_iload X 4 dX4_finished_35 rfl ?_
    refine g_if_eq X 54 dX4_finished_37 (by decide) (fun hc => ?_) (fun hc => ?_)
    · have h := h.1 hc
      refine g_weak [3, 5] rfl ?_
      exact b_X4_finished_54 X hr h
    · have h := h.2 hc
      refine g_iload X 4 dX4_finished_40 rfl ?_
      refine g_iload_n X 3 dX4_finished_42 rfl rfl ?_
      refine g_if_eq X 50 dX4_finished_43 (by decide) (fun hc => ?_) (fun hc => ?_)
      · have h := h.1 hc
        refine g_iconst X (2 : Int32) dX4_finished_50 (by decide) ?_
        refine g_weak [3, 5] rfl ?_
        exact b_X4_finished_51 X hr h
      · have h := h.2 hc
        refine g_iconst X (3 : Int32) dX4_finished_46 (by decide) ?_
        refine g_goto X 51 dX4_finished_47 (by decide) ?_
        refine g_weak [3, 5] rfl ?_
        exact b_X4_finished_51 X hr h
def w_X4_finished (Q : UInt64 → St → Prop) (x0 : Int64) (x2 : Int32) (x3 : Int32) (x4 : Int32) (x5 : Int32) (σ : St) : Prop := ((¬ x0 = (0 : Int64) → ((x5 = 0 → (w_X4_finished_22 Q x0 x2 x3 x4 x5 (1024 : Int32) σ)) ∧ (¬ x5 = 0 → (w_X4_finished_22 Q x0 x2 x3 x4 x5 (128 : Int32) σ)))) ∧ (x0 = (0 : Int64) → (Q FP.dconst0 σ)))
set_option maxRecDepth 100000 in
set_option maxHeartbeats 4000000 in
theorem b_X4_finished_0 {p : Program} {l : Launch} {e : Env} {s : State} {m : MethodId} {args : Array Value} {below : List Frame} {meth : Method} {c : Code} {D : va_G} {cA : Nat → ClassId} {A : Nat → Prop} {ad0 : Nat → Nat} {sh : SH} {Q : UInt64 → St → Prop} {x0 : Int64} {x2 : Int32} {x3 : Int32} {x4 : Int32} {x5 : Int32} {σ : St} (X : Cx p rmX4_finished s m args meth c cX4_finished 10 RX4 D cA A) (hr : meth.sig.returnType = some .double) (h : w_X4_finished Q x0 x2 x3 x4 x5 σ) : G p l e rmX4_finished s m args below meth c 10 D cA A (MQ below (va_Qd Q (EndW D cA ad0 sh) A) args s 0 0 A) 0 0 (fun ad => ad = ad0) sh σ [(0, .long x0), (2, .int x2), (3, .int x3), (4, .int x4), (5, .int x5)] 0 [] := by
  unfold w_X4_finished at h
  refine g_lload_n X 0 dX4_finished_0 rfl rfl ?_
  refine g_lconst X (0 : Int64) dX4_finished_1 (by decide) ?_
  refine g_lcmp X dX4_finished_2 ?_
  refine g_if_ne X 8 dX4_finished_3 (by decide) (fun hc => ?_) (fun hc => ?_)
  · have h := h.1 (fun z => hc (lgc_eq.mpr z))
    refine g_iload X 4 dX4_finished_8 rfl ?_
    refine g_if_eq X 19 dX4_finished_10 (by decide) (fun hc => ?_) (fun hc => ?_)
    · have h := h.1 hc
      refine g_sipush X (1024 : Int32) dX4_finished_19 (by decide) ?_
      exact b_X4_finished_22 X hr h
    · have h := h.2 hc
      refine g_sipush X (128 : Int32) dX4_finished_13 (by decide) ?_
      refine g_goto X 22 dX4_finished_16 (by decide) ?_
      exact b_X4_finished_22 X hr h
  · have h := h.2 (lgc_eq.mp hc)
    refine g_dconst0 X dX4_finished_6 ?_
    exact g_dret X hr dX4_finished_7 h
theorem c_X4_finished (l : Launch) (D : va_G) (cA : Nat → ClassId) (sh : SH) {x0 : Int64} {x2 : Int32} {x3 : Int32} {x4 : Int32} {x5 : Int32} {σ : St} {Q : UInt64 → St → Prop} (h : w_X4_finished Q x0 x2 x3 x4 x5 σ) : CtD l yX4_finished cX4_finished 10 (some .double) rmX4_finished D cA sh [.long x0, .int x2, .int x3, .int x4, .int x5] σ Q := by
  refine CtD.of (own := RX4) rfl (by decide +kernel) [(0, .long x0), (2, .int x2), (3, .int x3), (4, .int x4), (5, .int x5)] rfl (Nat.le_of_ble_eq_true rfl) ?_
  intro p e s m args below meth c ad0 A X hr
  exact b_X4_finished_0 X hr  h
