def rmX2_renew : Room := { frames := 1, cells := 0, slots := 0, locals := 24 }
def w_X2_renew (k0 : Nat) (Q : St → Prop) (x1 : Int32) (x2 : Int32) (σ : St) : Prop := ∀ σ1 : St, σ1 = uI σ k0 0 (1 : Int32) → ∀ σ2 : St, σ2 = uI σ1 k0 1 x1 → ∀ σ3 : St, σ3 = uI σ2 k0 2 x2 → w_J7_fill_d0a16 (k0 + 1) 40 (fun σ4 => w_J7_fill_53178 (k0 + 2) 40 (fun σ5 => w_J7_fill_53178 (k0 + 3) 40 (fun σ6 => (Q σ6)) (0 : Int32) σ5) (0 : Int32) σ4) (0 : Int64) σ3
set_option maxRecDepth 100000 in
set_option maxHeartbeats 4000000 in
theorem b_X2_renew_0 {p : Program} {l : Launch} {e : Env} {s : State} {m : MethodId} {args : Array Value} {below : List Frame} {meth : Method} {c : Code} {D : va_G} {cA : Nat → ClassId} {A : Nat → Prop} {ad0 : Nat → Nat} {sh : SH} {k0 : Nat} {Q : St → Prop} {x1 : Int32} {x2 : Int32} {σ : St} (X : Cx p rmX2_renew s m args meth c cX2_renew 3 RX2 D cA A) (hr : meth.sig.returnType = none) (hk0 : rowSh sh k0) (h : w_X2_renew k0 Q x1 x2 σ) : G p l e rmX2_renew s m args below meth c 3 D cA A (MQ below (va_Qv Q (EndW D cA ad0 sh) A) args s 0 0 A) 0 0 (fun ad => ad = ad0) sh σ [(0, .ref k0), (1, .int x1), (2, .int x2)] 0 [] := by
  unfold w_X2_renew at h
  refine g_aload_n X 0 dX2_renew_0 rfl rfl ?_
  refine g_iconst X (1 : Int32) dX2_renew_1 (by decide) ?_
  refine g_putI X (C := RX2) (T := TX2) (N := 6) (ty0 := tyX2) 0 dX2_renew_2 (rowSh.b0 hk0) (rowSh.k0 hk0) rfl rfl inG2 tyX2_ok nmX2 (Nat.le_of_ble_eq_true rfl) rfl rfl q131 rfl rfl ?_
  refine g_nameS (fun σ1 eσ1 => ?_)
  have h := h σ1 eσ1
  refine g_aload_n X 0 dX2_renew_5 rfl rfl ?_
  refine g_iload_n X 1 dX2_renew_6 rfl rfl ?_
  refine g_putI X (C := RX2) (T := TX2) (N := 6) (ty0 := tyX2) 1 dX2_renew_7 (rowSh.b0 hk0) (rowSh.k0 hk0) rfl rfl inG2 tyX2_ok nmX2 (Nat.le_of_ble_eq_true rfl) rfl rfl q133 rfl rfl ?_
  refine g_nameS (fun σ2 eσ2 => ?_)
  have h := h σ2 eσ2
  refine g_aload_n X 0 dX2_renew_10 rfl rfl ?_
  refine g_iload_n X 2 dX2_renew_11 rfl rfl ?_
  refine g_putI X (C := RX2) (T := TX2) (N := 6) (ty0 := tyX2) 2 dX2_renew_12 (rowSh.b0 hk0) (rowSh.k0 hk0) rfl rfl inG2 tyX2_ok nmX2 (Nat.le_of_ble_eq_true rfl) rfl rfl q135 rfl rfl ?_
  refine g_nameS (fun σ3 eσ3 => ?_)
  have h := h σ3 eσ3
  refine g_aload_n X 0 dX2_renew_15 rfl rfl ?_
  refine g_getR X (C := RX2) (T := TX2) (N := 6) 3 dX2_renew_16 (rowSh.b0 hk0) (rowSh.k0 hk0) rfl rfl inG2 (Nat.le_of_ble_eq_true rfl) rfl (rowSh.r3 hk0) q137 ?_
  refine g_lconst X (0 : Int64) dX2_renew_19 (by decide) ?_
  refine g_callSV X (n := 2) [.ref (k0 + 1), .long (0 : Int64)] [] dX2_renew_20 (c_J7_fill_d0a16 l D cA sh (⟨(rowSh.b1 hk0), (rowSh.k1 hk0)⟩ : arrSh sh (k0 + 1) 1 40) h) q161 q162 q52 q163 ⟨by decide, by decide, by decide +kernel⟩ rfl rfl (Nat.le_of_ble_eq_true rfl) rfl rfl ⟨(Nat.le_of_ble_eq_true rfl), (Nat.le_of_ble_eq_true rfl)⟩ (Nat.le_of_ble_eq_true rfl) (Nat.le_of_ble_eq_true rfl) (fun σ4 h => ?_)
  refine g_aload_n X 0 dX2_renew_23 rfl rfl ?_
  refine g_getR X (C := RX2) (T := TX2) (N := 6) 4 dX2_renew_24 (rowSh.b0 hk0) (rowSh.k0 hk0) rfl rfl inG2 (Nat.le_of_ble_eq_true rfl) rfl (rowSh.r4 hk0) q140 ?_
  refine g_iconst X (0 : Int32) dX2_renew_27 (by decide) ?_
  refine g_callSV X (n := 2) [.ref (k0 + 2), .int (0 : Int32)] [] dX2_renew_28 (c_J7_fill_53178 l D cA sh (⟨(rowSh.b2 hk0), (rowSh.k2 hk0)⟩ : arrSh sh (k0 + 2) 0 40) h) q164 q165 q52 q166 ⟨by decide, by decide, by decide +kernel⟩ rfl rfl (Nat.le_of_ble_eq_true rfl) rfl rfl ⟨(Nat.le_of_ble_eq_true rfl), (Nat.le_of_ble_eq_true rfl)⟩ (Nat.le_of_ble_eq_true rfl) (Nat.le_of_ble_eq_true rfl) (fun σ5 h => ?_)
  refine g_aload_n X 0 dX2_renew_31 rfl rfl ?_
  refine g_getR X (C := RX2) (T := TX2) (N := 6) 5 dX2_renew_32 (rowSh.b0 hk0) (rowSh.k0 hk0) rfl rfl inG2 (Nat.le_of_ble_eq_true rfl) rfl (rowSh.r5 hk0) q142 ?_
  refine g_iconst X (0 : Int32) dX2_renew_35 (by decide) ?_
  refine g_callSV X (n := 2) [.ref (k0 + 3), .int (0 : Int32)] [] dX2_renew_36 (c_J7_fill_53178 l D cA sh (⟨(rowSh.b3 hk0), (rowSh.k3 hk0)⟩ : arrSh sh (k0 + 3) 0 40) h) q164 q165 q52 q166 ⟨by decide, by decide, by decide +kernel⟩ rfl rfl (Nat.le_of_ble_eq_true rfl) rfl rfl ⟨(Nat.le_of_ble_eq_true rfl), (Nat.le_of_ble_eq_true rfl)⟩ (Nat.le_of_ble_eq_true rfl) (Nat.le_of_ble_eq_true rfl) (fun σ6 h => ?_)
  exact g_vret X hr dX2_renew_39 h
theorem c_X2_renew (l : Launch) (D : va_G) (cA : Nat → ClassId) (sh : SH) {k0 : Nat} {x1 : Int32} {x2 : Int32} {σ : St} {Q : St → Prop} (hk0 : rowSh sh k0) (h : w_X2_renew k0 Q x1 x2 σ) : CtV l yX2_renew cX2_renew 3 (none) rmX2_renew D cA sh [.ref k0, .int x1, .int x2] σ Q := by
  refine CtV.of (own := RX2) rfl (by decide +kernel) [(0, .ref k0), (1, .int x1), (2, .int x2)] rfl (Nat.le_of_ble_eq_true rfl) ?_
  intro p e s m args below meth c ad0 A X hr
  exact b_X2_renew_0 X hr hk0 h
def rmX2_isFloating : Room := { frames := 0, cells := 0, slots := 0, locals := 0 }
def w_X2_isFloating (k0 : Nat) (Q : Int32 → St → Prop) (σ : St) : Prop := (((gI σ k0 1) = (4 : Int32) → (Q (1 : Int32) σ)) ∧ (¬ (gI σ k0 1) = (4 : Int32) → ((¬ (gI σ k0 1) = (5 : Int32) → (Q (0 : Int32) σ)) ∧ ((gI σ k0 1) = (5 : Int32) → (Q (1 : Int32) σ)))))
set_option maxRecDepth 100000 in
set_option maxHeartbeats 4000000 in
theorem b_X2_isFloating_0 {p : Program} {l : Launch} {e : Env} {s : State} {m : MethodId} {args : Array Value} {below : List Frame} {meth : Method} {c : Code} {D : va_G} {cA : Nat → ClassId} {A : Nat → Prop} {ad0 : Nat → Nat} {sh : SH} {k0 : Nat} {Q : Int32 → St → Prop} {σ : St} (X : Cx p rmX2_isFloating s m args meth c cX2_isFloating 1 RX2 D cA A) (hr : meth.sig.returnType = some .boolean) (hk0 : rowSh sh k0) (h : w_X2_isFloating k0 Q  σ) : G p l e rmX2_isFloating s m args below meth c 1 D cA A (MQ below (va_Qi Q (EndW D cA ad0 sh) A) args s 0 0 A) 0 0 (fun ad => ad = ad0) sh σ [(0, .ref k0)] 0 [] := by
  unfold w_X2_isFloating at h
  refine g_aload_n X 0 dX2_isFloating_0 rfl rfl ?_
  refine g_getI X (C := RX2) (T := TX2) (N := 6) 1 dX2_isFloating_1 (rowSh.b0 hk0) (rowSh.k0 hk0) rfl rfl inG2 (Nat.le_of_ble_eq_true rfl) rfl q133 ?_
  refine g_iconst X (4 : Int32) dX2_isFloating_4 (by decide) ?_
  refine g_icmp_eq X 16 dX2_isFloating_5 (by decide) (fun hc => ?_) (fun hc => ?_)
  · have h := h.1 hc
    refine g_iconst X (1 : Int32) dX2_isFloating_16 (by decide) ?_
    refine g_goto X 21 dX2_isFloating_17 (by decide) ?_
    exact g_iret X hr dX2_isFloating_21 (by decide) h
  · have h := h.2 hc
    refine g_aload_n X 0 dX2_isFloating_8 rfl rfl ?_
    refine g_getI X (C := RX2) (T := TX2) (N := 6) 1 dX2_isFloating_9 (rowSh.b0 hk0) (rowSh.k0 hk0) rfl rfl inG2 (Nat.le_of_ble_eq_true rfl) rfl q133 ?_
    refine g_iconst X (5 : Int32) dX2_isFloating_12 (by decide) ?_
    refine g_icmp_ne X 20 dX2_isFloating_13 (by decide) (fun hc => ?_) (fun hc => ?_)
    · have h := h.1 hc
      refine g_iconst X (0 : Int32) dX2_isFloating_20 (by decide) ?_
      exact g_iret X hr dX2_isFloating_21 (by decide) h
    · have h := h.2 hc
      refine g_iconst X (1 : Int32) dX2_isFloating_16 (by decide) ?_
      refine g_goto X 21 dX2_isFloating_17 (by decide) ?_
      exact g_iret X hr dX2_isFloating_21 (by decide) h
theorem c_X2_isFloating (l : Launch) (D : va_G) (cA : Nat → ClassId) (sh : SH) {k0 : Nat} {σ : St} {Q : Int32 → St → Prop} (hk0 : rowSh sh k0) (h : w_X2_isFloating k0 Q  σ) : CtI l yX2_isFloating cX2_isFloating 1 (some .boolean) rmX2_isFloating D cA sh [.ref k0] σ Q := by
  refine CtI.of (own := RX2) rfl (by decide +kernel) [(0, .ref k0)] rfl (Nat.le_of_ble_eq_true rfl) ?_
  intro p e s m args below meth c ad0 A X hr
  exact b_X2_isFloating_0 X hr hk0 h
def rmX2_has : Room := { frames := 0, cells := 0, slots := 0, locals := 0 }
def w_X2_has (k0 : Nat) (Q : Int32 → St → Prop) (x1 : Int32) (x2 : Int32) (σ : St) : Prop := ((x1 < 0 → (Q (0 : Int32) σ)) ∧ (¬ x1 < 0 → ((((gI σ k0 2) - x2) < x1 → (Q (0 : Int32) σ)) ∧ (¬ ((gI σ k0 2) - x2) < x1 → (Q (1 : Int32) σ)))))
set_option maxRecDepth 100000 in
set_option maxHeartbeats 4000000 in
theorem b_X2_has_0 {p : Program} {l : Launch} {e : Env} {s : State} {m : MethodId} {args : Array Value} {below : List Frame} {meth : Method} {c : Code} {D : va_G} {cA : Nat → ClassId} {A : Nat → Prop} {ad0 : Nat → Nat} {sh : SH} {k0 : Nat} {Q : Int32 → St → Prop} {x1 : Int32} {x2 : Int32} {σ : St} (X : Cx p rmX2_has s m args meth c cX2_has 3 RX2 D cA A) (hr : meth.sig.returnType = some .boolean) (hk0 : rowSh sh k0) (h : w_X2_has k0 Q x1 x2 σ) : G p l e rmX2_has s m args below meth c 3 D cA A (MQ below (va_Qi Q (EndW D cA ad0 sh) A) args s 0 0 A) 0 0 (fun ad => ad = ad0) sh σ [(0, .ref k0), (1, .int x1), (2, .int x2)] 0 [] := by
  unfold w_X2_has at h
  refine g_iload_n X 1 dX2_has_0 rfl rfl ?_
  refine g_if_lt X 18 dX2_has_1 (by decide) (fun hc => ?_) (fun hc => ?_)
  · have h := h.1 hc
    refine g_iconst X (0 : Int32) dX2_has_18 (by decide) ?_
    exact g_iret X hr dX2_has_19 (by decide) h
  · have h := h.2 hc
    refine g_iload_n X 1 dX2_has_4 rfl rfl ?_
    refine g_aload_n X 0 dX2_has_5 rfl rfl ?_
    refine g_getI X (C := RX2) (T := TX2) (N := 6) 2 dX2_has_6 (rowSh.b0 hk0) (rowSh.k0 hk0) rfl rfl inG2 (Nat.le_of_ble_eq_true rfl) rfl q135 ?_
    refine g_iload_n X 2 dX2_has_9 rfl rfl ?_
    refine g_isub X dX2_has_10 ?_
    refine g_icmp_gt X 18 dX2_has_11 (by decide) (fun hc => ?_) (fun hc => ?_)
    · have h := h.1 hc
      refine g_iconst X (0 : Int32) dX2_has_18 (by decide) ?_
      exact g_iret X hr dX2_has_19 (by decide) h
    · have h := h.2 hc
      refine g_iconst X (1 : Int32) dX2_has_14 (by decide) ?_
      refine g_goto X 19 dX2_has_15 (by decide) ?_
      exact g_iret X hr dX2_has_19 (by decide) h
theorem c_X2_has (l : Launch) (D : va_G) (cA : Nat → ClassId) (sh : SH) {k0 : Nat} {x1 : Int32} {x2 : Int32} {σ : St} {Q : Int32 → St → Prop} (hk0 : rowSh sh k0) (h : w_X2_has k0 Q x1 x2 σ) : CtI l yX2_has cX2_has 3 (some .boolean) rmX2_has D cA sh [.ref k0, .int x1, .int x2] σ Q := by
  refine CtI.of (own := RX2) rfl (by decide +kernel) [(0, .ref k0), (1, .int x1), (2, .int x2)] rfl (Nat.le_of_ble_eq_true rfl) ?_
  intro p e s m args below meth c ad0 A X hr
  exact b_X2_has_0 X hr hk0 h
def rmX2_sortAt : Room := { frames := 0, cells := 0, slots := 0, locals := 0 }
def w_X2_sortAt (k0 : Nat) (Q : Int32 → St → Prop) (x1 : Int32) (σ : St) : Prop := vp_in x1 40 ∧ ((¬ (gI σ (k0 + 3) (ix x1)) = (4 : Int32) → vp_in x1 40 ∧ (Q (gI σ (k0 + 3) (ix x1)) σ)) ∧ ((gI σ (k0 + 3) (ix x1)) = (4 : Int32) → (Q (0 : Int32) σ)))
set_option maxRecDepth 100000 in
set_option maxHeartbeats 4000000 in
theorem b_X2_sortAt_0 {p : Program} {l : Launch} {e : Env} {s : State} {m : MethodId} {args : Array Value} {below : List Frame} {meth : Method} {c : Code} {D : va_G} {cA : Nat → ClassId} {A : Nat → Prop} {ad0 : Nat → Nat} {sh : SH} {k0 : Nat} {Q : Int32 → St → Prop} {x1 : Int32} {σ : St} (X : Cx p rmX2_sortAt s m args meth c cX2_sortAt 2 RX2 D cA A) (hr : meth.sig.returnType = some .int) (hk0 : rowSh sh k0) (h : w_X2_sortAt k0 Q x1 σ) : G p l e rmX2_sortAt s m args below meth c 2 D cA A (MQ below (va_Qi Q (EndW D cA ad0 sh) A) args s 0 0 A) 0 0 (fun ad => ad = ad0) sh σ [(0, .ref k0), (1, .int x1)] 0 [] := by
  unfold w_X2_sortAt at h
  refine g_aload_n X 0 dX2_sortAt_0 rfl rfl ?_
  refine g_getR X (C := RX2) (T := TX2) (N := 6) 5 dX2_sortAt_1 (rowSh.b0 hk0) (rowSh.k0 hk0) rfl rfl inG2 (Nat.le_of_ble_eq_true rfl) rfl (rowSh.r5 hk0) q142 ?_
  refine g_iload_n X 1 dX2_sortAt_4 rfl rfl ?_
  obtain ⟨hi1, h⟩ := h
  refine g_iald X dX2_sortAt_5 (rowSh.b3 hk0) (rowSh.k3 hk0) hi1 ?_
  refine g_iconst X (4 : Int32) dX2_sortAt_6 (by decide) ?_
  refine g_icmp_ne X 14 dX2_sortAt_7 (by decide) (fun hc => ?_) (fun hc => ?_)
  · have h := h.1 hc
    refine g_aload_n X 0 dX2_sortAt_14 rfl rfl ?_
    refine g_getR X (C := RX2) (T := TX2) (N := 6) 5 dX2_sortAt_15 (rowSh.b0 hk0) (rowSh.k0 hk0) rfl rfl inG2 (Nat.le_of_ble_eq_true rfl) rfl (rowSh.r5 hk0) q142 ?_
    refine g_iload_n X 1 dX2_sortAt_18 rfl rfl ?_
    obtain ⟨hi2, h⟩ := h
    refine g_iald X dX2_sortAt_19 (rowSh.b3 hk0) (rowSh.k3 hk0) hi2 ?_
    exact g_iret X hr dX2_sortAt_20 rfl h
  · have h := h.2 hc
    refine g_iconst X (0 : Int32) dX2_sortAt_10 (by decide) ?_
    refine g_goto X 20 dX2_sortAt_11 (by decide) ?_
    exact g_iret X hr dX2_sortAt_20 rfl h
theorem c_X2_sortAt (l : Launch) (D : va_G) (cA : Nat → ClassId) (sh : SH) {k0 : Nat} {x1 : Int32} {σ : St} {Q : Int32 → St → Prop} (hk0 : rowSh sh k0) (h : w_X2_sortAt k0 Q x1 σ) : CtI l yX2_sortAt cX2_sortAt 2 (some .int) rmX2_sortAt D cA sh [.ref k0, .int x1] σ Q := by
  refine CtI.of (own := RX2) rfl (by decide +kernel) [(0, .ref k0), (1, .int x1)] rfl (Nat.le_of_ble_eq_true rfl) ?_
  intro p e s m args below meth c ad0 A X hr
  exact b_X2_sortAt_0 X hr hk0 h
def rmX2_asDouble : Room := { frames := 2, cells := 0, slots := 0, locals := 46 }
def w_X2_asDouble (k0 : Nat) (Q : UInt64 → St → Prop) (x1 : Int32) (σ : St) : Prop := vp_in x1 40 ∧ ∀ y2 : Int32, y2 = (gI σ (k0 + 3) (ix x1)) → ((y2 = 1 → w_X4_endless (fun r4 σ3 => (Q r4 σ3)) σ) ∧ (y2 = 2 → w_X4_endless (fun r6 σ5 => (Q (FP.dneg r6) σ5)) σ) ∧ (y2 = 3 → (Q FP.dconst0 σ)) ∧ (y2 = 4 → (Q (9223372036854775808 : UInt64) σ)) ∧ (¬ y2 = 1 → ¬ y2 = 2 → ¬ y2 = 3 → ¬ y2 = 4 → vp_in x1 40 ∧ vp_in x1 40 ∧ w_X4_power (fun r10 σ9 => vf_n64 (FP.dmul (FP.l2d (gJ σ (k0 + 1) (ix x1))) r10) ∧ (Q (FP.dmul (FP.l2d (gJ σ (k0 + 1) (ix x1))) r10) σ9)) (gI σ (k0 + 2) (ix x1)) σ))
set_option maxRecDepth 100000 in
set_option maxHeartbeats 4000000 in
theorem b_X2_asDouble_0 {p : Program} {l : Launch} {e : Env} {s : State} {m : MethodId} {args : Array Value} {below : List Frame} {meth : Method} {c : Code} {D : va_G} {cA : Nat → ClassId} {A : Nat → Prop} {ad0 : Nat → Nat} {sh : SH} {k0 : Nat} {Q : UInt64 → St → Prop} {x1 : Int32} {σ : St} (X : Cx p rmX2_asDouble s m args meth c cX2_asDouble 2 RX2 D cA A) (hr : meth.sig.returnType = some .double) (hk0 : rowSh sh k0) (h : w_X2_asDouble k0 Q x1 σ) : G p l e rmX2_asDouble s m args below meth c 2 D cA A (MQ below (va_Qd Q (EndW D cA ad0 sh) A) args s 0 0 A) 0 0 (fun ad => ad = ad0) sh σ [(0, .ref k0), (1, .int x1)] 0 [] := by
  unfold w_X2_asDouble at h
  refine g_aload_n X 0 dX2_asDouble_0 rfl rfl ?_
  refine g_getR X (C := RX2) (T := TX2) (N := 6) 5 dX2_asDouble_1 (rowSh.b0 hk0) (rowSh.k0 hk0) rfl rfl inG2 (Nat.le_of_ble_eq_true rfl) rfl (rowSh.r5 hk0) q142 ?_
  refine g_iload_n X 1 dX2_asDouble_4 rfl rfl ?_
  obtain ⟨hi1, h⟩ := h
  refine g_iald X dX2_asDouble_5 (rowSh.b3 hk0) (rowSh.k3 hk0) hi1 ?_
  refine g_nameI (fun y2 ey2 => ?_)
  have h := h y2 ey2
  by_cases hc0 : y2 = 1
  · have h := h.1 hc0
    refine g_tabIn X 36 (30) dX2_asDouble_6 (by rw [hc0]; decide) (by rw [hc0]; decide) (by rw [hc0]; rfl) (by decide) ?_
    refine g_callND X (host := "LongSums") (n := 0) [] [] dX2_asDouble_36 (c_X4_endless l D cA sh h) (nw 287 (by decide +kernel) rfl) q288 q47 q289 ⟨by decide, by decide, by decide +kernel⟩ rfl rfl (Nat.le_of_ble_eq_true rfl) rfl rfl ⟨(Nat.le_of_ble_eq_true rfl), (Nat.le_of_ble_eq_true rfl)⟩ (Nat.le_of_ble_eq_true rfl) (Nat.le_of_ble_eq_true rfl) (fun r4 σ3 h => ?_)
    exact g_dret X hr dX2_asDouble_39 h
  by_cases hc1 : y2 = 2
  · have h := h.2.1 hc1
    refine g_tabIn X 40 (34) dX2_asDouble_6 (by rw [hc1]; decide) (by rw [hc1]; decide) (by rw [hc1]; rfl) (by decide) ?_
    refine g_callND X (host := "LongSums") (n := 0) [] [] dX2_asDouble_40 (c_X4_endless l D cA sh h) (nw 287 (by decide +kernel) rfl) q288 q47 q289 ⟨by decide, by decide, by decide +kernel⟩ rfl rfl (Nat.le_of_ble_eq_true rfl) rfl rfl ⟨(Nat.le_of_ble_eq_true rfl), (Nat.le_of_ble_eq_true rfl)⟩ (Nat.le_of_ble_eq_true rfl) (Nat.le_of_ble_eq_true rfl) (fun r6 σ5 h => ?_)
    refine g_dneg X dX2_asDouble_43 ?_
    exact g_dret X hr dX2_asDouble_44 h
  by_cases hc2 : y2 = 3
  · have h := h.2.2.1 hc2
    refine g_tabIn X 49 (43) dX2_asDouble_6 (by rw [hc2]; decide) (by rw [hc2]; decide) (by rw [hc2]; rfl) (by decide) ?_
    refine g_dconst0 X dX2_asDouble_49 ?_
    exact g_dret X hr dX2_asDouble_50 h
  by_cases hc3 : y2 = 4
  · have h := h.2.2.2.1 hc3
    refine g_tabIn X 45 (39) dX2_asDouble_6 (by rw [hc3]; decide) (by rw [hc3]; decide) (by rw [hc3]; rfl) (by decide) ?_
    refine g_ldc2d X q291 dX2_asDouble_45 ?_
    exact g_dret X hr dX2_asDouble_48 h
  have h := h.2.2.2.2 hc0 hc1 hc2 hc3
  refine g_tabOut X 51 dX2_asDouble_6 (by have e0 := lv_neT (a := 1) hc0 rfl; have e1 := lv_neT (a := 2) hc1 rfl; have e2 := lv_neT (a := 3) hc2 rfl; have e3 := lv_neT (a := 4) hc3 rfl; omega) (by decide) ?_
  refine g_aload_n X 0 dX2_asDouble_51 rfl rfl ?_
  refine g_getR X (C := RX2) (T := TX2) (N := 6) 3 dX2_asDouble_52 (rowSh.b0 hk0) (rowSh.k0 hk0) rfl rfl inG2 (Nat.le_of_ble_eq_true rfl) rfl (rowSh.r3 hk0) q137 ?_
  refine g_iload_n X 1 dX2_asDouble_55 rfl rfl ?_
  obtain ⟨hi7, h⟩ := h
  refine g_lald X dX2_asDouble_56 (rowSh.b1 hk0) (rowSh.k1 hk0) hi7 ?_
  refine g_l2d X dX2_asDouble_57 ?_
  refine g_aload_n X 0 dX2_asDouble_58 rfl rfl ?_
  refine g_getR X (C := RX2) (T := TX2) (N := 6) 4 dX2_asDouble_59 (rowSh.b0 hk0) (rowSh.k0 hk0) rfl rfl inG2 (Nat.le_of_ble_eq_true rfl) rfl (rowSh.r4 hk0) q140 ?_
  refine g_iload_n X 1 dX2_asDouble_62 rfl rfl ?_
  obtain ⟨hi8, h⟩ := h
  refine g_iald X dX2_asDouble_63 (rowSh.b2 hk0) (rowSh.k2 hk0) hi8 ?_
  refine g_callND X (host := "LongSums") (n := 1) [.int (gI σ (k0 + 2) (ix x1))] [.double (FP.l2d (gJ σ (k0 + 1) (ix x1)))] dX2_asDouble_64 (c_X4_power l D cA sh h) (nw 292 (by decide +kernel) rfl) q293 q47 q294 ⟨by decide, by decide, by decide +kernel⟩ rfl rfl (Nat.le_of_ble_eq_true rfl) rfl rfl ⟨(Nat.le_of_ble_eq_true rfl), (Nat.le_of_ble_eq_true rfl)⟩ (Nat.le_of_ble_eq_true rfl) (Nat.le_of_ble_eq_true rfl) (fun r10 σ9 h => ?_)
  obtain ⟨hc, h⟩ := h
  refine g_dmul X dX2_asDouble_67 hc ?_
  exact g_dret X hr dX2_asDouble_68 h
theorem c_X2_asDouble (l : Launch) (D : va_G) (cA : Nat → ClassId) (sh : SH) {k0 : Nat} {x1 : Int32} {σ : St} {Q : UInt64 → St → Prop} (hk0 : rowSh sh k0) (h : w_X2_asDouble k0 Q x1 σ) : CtD l yX2_asDouble cX2_asDouble 2 (some .double) rmX2_asDouble D cA sh [.ref k0, .int x1] σ Q := by
  refine CtD.of (own := RX2) rfl (by decide +kernel) [(0, .ref k0), (1, .int x1)] rfl (Nat.le_of_ble_eq_true rfl) ?_
  intro p e s m args below meth c ad0 A X hr
  exact b_X2_asDouble_0 X hr hk0 h
def rmX2_writeNumber : Room := { frames := 0, cells := 0, slots := 0, locals := 0 }
def w_X2_writeNumber (k0 : Nat) (Q : St → Prop) (x1 : Int32) (x2 : Int64) (x4 : Int32) (σ : St) : Prop := vp_in x1 40 ∧ ∀ σ2 : St, σ2 = uJ σ (k0 + 1) (ix x1) x2 → vp_in x1 40 ∧ ∀ σ4 : St, σ4 = uI σ2 (k0 + 2) (ix x1) x4 → vp_in x1 40 ∧ ∀ σ6 : St, σ6 = uI σ4 (k0 + 3) (ix x1) (0 : Int32) → (Q σ6)
set_option maxRecDepth 100000 in
set_option maxHeartbeats 4000000 in
theorem b_X2_writeNumber_0 {p : Program} {l : Launch} {e : Env} {s : State} {m : MethodId} {args : Array Value} {below : List Frame} {meth : Method} {c : Code} {D : va_G} {cA : Nat → ClassId} {A : Nat → Prop} {ad0 : Nat → Nat} {sh : SH} {k0 : Nat} {Q : St → Prop} {x1 : Int32} {x2 : Int64} {x4 : Int32} {σ : St} (X : Cx p rmX2_writeNumber s m args meth c cX2_writeNumber 5 RX2 D cA A) (hr : meth.sig.returnType = none) (hk0 : rowSh sh k0) (h : w_X2_writeNumber k0 Q x1 x2 x4 σ) : G p l e rmX2_writeNumber s m args below meth c 5 D cA A (MQ below (va_Qv Q (EndW D cA ad0 sh) A) args s 0 0 A) 0 0 (fun ad => ad = ad0) sh σ [(0, .ref k0), (1, .int x1), (2, .long x2), (4, .int x4)] 0 [] := by
  unfold w_X2_writeNumber at h
  refine g_aload_n X 0 dX2_writeNumber_0 rfl rfl ?_
  refine g_getR X (C := RX2) (T := TX2) (N := 6) 3 dX2_writeNumber_1 (rowSh.b0 hk0) (rowSh.k0 hk0) rfl rfl inG2 (Nat.le_of_ble_eq_true rfl) rfl (rowSh.r3 hk0) q137 ?_
  refine g_iload_n X 1 dX2_writeNumber_4 rfl rfl ?_
  refine g_lload_n X 2 dX2_writeNumber_5 rfl rfl ?_
  obtain ⟨hi1, h⟩ := h
  refine g_last X dX2_writeNumber_6 (rowSh.b1 hk0) (rowSh.k1 hk0) hi1 ?_
  refine g_nameS (fun σ2 eσ2 => ?_)
  have h := h σ2 eσ2
  refine g_aload_n X 0 dX2_writeNumber_7 rfl rfl ?_
  refine g_getR X (C := RX2) (T := TX2) (N := 6) 4 dX2_writeNumber_8 (rowSh.b0 hk0) (rowSh.k0 hk0) rfl rfl inG2 (Nat.le_of_ble_eq_true rfl) rfl (rowSh.r4 hk0) q140 ?_
  refine g_iload_n X 1 dX2_writeNumber_11 rfl rfl ?_
  refine g_iload X 3 dX2_writeNumber_12 rfl ?_
  obtain ⟨hi3, h⟩ := h
  refine g_iast X dX2_writeNumber_14 (rowSh.b2 hk0) (rowSh.k2 hk0) hi3 ?_
  refine g_nameS (fun σ4 eσ4 => ?_)
  have h := h σ4 eσ4
  refine g_aload_n X 0 dX2_writeNumber_15 rfl rfl ?_
  refine g_getR X (C := RX2) (T := TX2) (N := 6) 5 dX2_writeNumber_16 (rowSh.b0 hk0) (rowSh.k0 hk0) rfl rfl inG2 (Nat.le_of_ble_eq_true rfl) rfl (rowSh.r5 hk0) q142 ?_
  refine g_iload_n X 1 dX2_writeNumber_19 rfl rfl ?_
  refine g_iconst X (0 : Int32) dX2_writeNumber_20 (by decide) ?_
  obtain ⟨hi5, h⟩ := h
  refine g_iast X dX2_writeNumber_21 (rowSh.b3 hk0) (rowSh.k3 hk0) hi5 ?_
  refine g_nameS (fun σ6 eσ6 => ?_)
  have h := h σ6 eσ6
  exact g_vret X hr dX2_writeNumber_22 h
theorem c_X2_writeNumber (l : Launch) (D : va_G) (cA : Nat → ClassId) (sh : SH) {k0 : Nat} {x1 : Int32} {x2 : Int64} {x4 : Int32} {σ : St} {Q : St → Prop} (hk0 : rowSh sh k0) (h : w_X2_writeNumber k0 Q x1 x2 x4 σ) : CtV l yX2_writeNumber cX2_writeNumber 5 (none) rmX2_writeNumber D cA sh [.ref k0, .int x1, .long x2, .int x4] σ Q := by
  refine CtV.of (own := RX2) rfl (by decide +kernel) [(0, .ref k0), (1, .int x1), (2, .long x2), (4, .int x4)] rfl (Nat.le_of_ble_eq_true rfl) ?_
  intro p e s m args below meth c ad0 A X hr
  exact b_X2_writeNumber_0 X hr hk0 h
def rmX2_withoutBits : Room := { frames := 1, cells := 0, slots := 0, locals := 25 }
def w_X2_withoutBits_56 (Q : Int64 → St → Prop) (x3 : Int64) (x5 : Int32) (s0 : Int32) (σ : St) : Prop := w_X4_stepsAway (fun r3 σ2 => ((r3 = 0 → (Q x3 σ2)) ∧ (¬ r3 = 0 → (Q (x3 + (1 : Int64)) σ2)))) x3 x5 s0 (0 : Int32) (0 : Int32) σ
set_option maxRecDepth 100000 in
set_option maxHeartbeats 4000000 in
theorem b_X2_withoutBits_56 {p : Program} {l : Launch} {e : Env} {s : State} {m : MethodId} {args : Array Value} {below : List Frame} {meth : Method} {c : Code} {D : va_G} {cA : Nat → ClassId} {A : Nat → Prop} {ad0 : Nat → Nat} {sh : SH} {Q : Int64 → St → Prop} {x3 : Int64} {x5 : Int32} {s0 : Int32} {σ : St} (X : Cx p rmX2_withoutBits s m args meth c cX2_withoutBits 7 RX2 D cA A) (hr : meth.sig.returnType = some .long) (h : w_X2_withoutBits_56 Q x3 x5 s0 σ) : G p l e rmX2_withoutBits s m args below meth c 7 D cA A (MQ below (va_Ql Q (EndW D cA ad0 sh) A) args s 0 0 A) 0 0 (fun ad => ad = ad0) sh σ [(3, .long x3), (5, .int x5)] 56 [.int s0] := by
  unfold w_X2_withoutBits_56 at h
  refine g_istore X [(6, .int s0), (3, .long x3), (5, .int x5)] dX2_withoutBits_56 (Nat.le_of_ble_eq_true rfl) rfl ?_
  refine g_lload_n X 1 dX2_withoutBits_58 rfl rfl ?_
  refine g_iload X 2 dX2_withoutBits_59 rfl ?_
  refine g_iload X 0 dX2_withoutBits_61 rfl ?_
  refine g_iconst X (0 : Int32) dX2_withoutBits_63 (by decide) ?_
  refine g_iconst X (0 : Int32) dX2_withoutBits_64 (by decide) ?_
  refine g_callNI X (host := "LongSums") (n := 5) [.long x3, .int x5, .int s0, .int (0 : Int32), .int (0 : Int32)] [] dX2_withoutBits_65 (c_X4_stepsAway l D cA sh h) (nw 198 (by decide +kernel) rfl) q199 q47 q200 ⟨by decide, by decide, by decide +kernel⟩ rfl rfl (Nat.le_of_ble_eq_true rfl) rfl rfl ⟨(Nat.le_of_ble_eq_true rfl), (Nat.le_of_ble_eq_true rfl)⟩ (Nat.le_of_ble_eq_true rfl) (Nat.le_of_ble_eq_true rfl) (fun r3 σ2 h => ?_)
  refine g_if_eq X 77 dX2_withoutBits_68 (by decide) (fun hc => ?_) (fun hc => ?_)
  · have h := h.1 hc
    refine g_lload_n X 1 dX2_withoutBits_77 rfl rfl ?_
    exact g_lret X hr dX2_withoutBits_78 h
  · have h := h.2 hc
    refine g_lload_n X 1 dX2_withoutBits_71 rfl rfl ?_
    refine g_lconst X (1 : Int64) dX2_withoutBits_72 (by decide) ?_
    refine g_ladd X dX2_withoutBits_73 ?_
    refine g_goto X 78 dX2_withoutBits_74 (by decide) ?_
    exact g_lret X hr dX2_withoutBits_78 h
def w_X2_withoutBits_35 (Q : Int64 → St → Prop) (x0 : Int64) (x2 : Int32) (x3 : Int64) (s0 : Int32) (σ : St) : Prop := (((x0 &&& ((lshlF (1 : Int64) (x2 - (1 : Int32))) - (1 : Int64))) = (0 : Int64) → (w_X2_withoutBits_56 Q x3 s0 (0 : Int32) σ)) ∧ (¬ (x0 &&& ((lshlF (1 : Int64) (x2 - (1 : Int32))) - (1 : Int64))) = (0 : Int64) → (w_X2_withoutBits_56 Q x3 s0 (1 : Int32) σ)))
set_option maxRecDepth 100000 in
set_option maxHeartbeats 4000000 in
theorem b_X2_withoutBits_35 {p : Program} {l : Launch} {e : Env} {s : State} {m : MethodId} {args : Array Value} {below : List Frame} {meth : Method} {c : Code} {D : va_G} {cA : Nat → ClassId} {A : Nat → Prop} {ad0 : Nat → Nat} {sh : SH} {Q : Int64 → St → Prop} {x0 : Int64} {x2 : Int32} {x3 : Int64} {s0 : Int32} {σ : St} (X : Cx p rmX2_withoutBits s m args meth c cX2_withoutBits 7 RX2 D cA A) (hr : meth.sig.returnType = some .long) (h : w_X2_withoutBits_35 Q x0 x2 x3 s0 σ) : G p l e rmX2_withoutBits s m args below meth c 7 D cA A (MQ below (va_Ql Q (EndW D cA ad0 sh) A) args s 0 0 A) 0 0 (fun ad => ad = ad0) sh σ [(0, .long x0), (2, .int x2), (3, .long x3)] 35 [.int s0] := by
  unfold w_X2_withoutBits_35 at h
  refine g_istore X [(5, .int s0), (0, .long x0), (2, .int x2), (3, .long x3)] dX2_withoutBits_35 (Nat.le_of_ble_eq_true rfl) rfl ?_
  refine g_lload_n X 1 dX2_withoutBits_37 rfl rfl ?_
  refine g_lconst X (1 : Int64) dX2_withoutBits_38 (by decide) ?_
  refine g_iload_n X 2 dX2_withoutBits_39 rfl rfl ?_
  refine g_iconst X (1 : Int32) dX2_withoutBits_40 (by decide) ?_
  refine g_isub X dX2_withoutBits_41 ?_
  refine g_lshl X dX2_withoutBits_42 ?_
  refine g_lconst X (1 : Int64) dX2_withoutBits_43 (by decide) ?_
  refine g_lsub X dX2_withoutBits_44 ?_
  refine g_land X dX2_withoutBits_45 ?_
  refine g_lconst X (0 : Int64) dX2_withoutBits_46 (by decide) ?_
  refine g_lcmp X dX2_withoutBits_47 ?_
  refine g_if_eq X 55 dX2_withoutBits_48 (by decide) (fun hc => ?_) (fun hc => ?_)
  · have h := h.1 (lgc_eq.mp hc)
    refine g_iconst X (0 : Int32) dX2_withoutBits_55 (by decide) ?_
    refine g_weak [3, 0] rfl ?_
    exact b_X2_withoutBits_56 X hr h
  · have h := h.2 (fun z => hc (lgc_eq.mpr z))
    refine g_iconst X (1 : Int32) dX2_withoutBits_51 (by decide) ?_
    refine g_goto X 56 dX2_withoutBits_52 (by decide) ?_
    refine g_weak [3, 0] rfl ?_
    exact b_X2_withoutBits_56 X hr h
def w_X2_withoutBits (Q : Int64 → St → Prop) (x0 : Int64) (x2 : Int32) (σ : St) : Prop := ((0 < x2 → ((x2 ≤ (53 : Int32) → ∀ y1 : Int64, y1 = (lushrF x0 x2) → ((¬ ((lushrF x0 (x2 - (1 : Int32))) &&& (1 : Int64)) = (1 : Int64) → (w_X2_withoutBits_35 Q x0 x2 y1 (0 : Int32) σ)) ∧ (((lushrF x0 (x2 - (1 : Int32))) &&& (1 : Int64)) = (1 : Int64) → (w_X2_withoutBits_35 Q x0 x2 y1 (1 : Int32) σ)))) ∧ (¬ x2 ≤ (53 : Int32) → (Q (0 : Int64) σ)))) ∧ (¬ 0 < x2 → (Q x0 σ)))
set_option maxRecDepth 100000 in
set_option maxHeartbeats 4000000 in
theorem b_X2_withoutBits_0 {p : Program} {l : Launch} {e : Env} {s : State} {m : MethodId} {args : Array Value} {below : List Frame} {meth : Method} {c : Code} {D : va_G} {cA : Nat → ClassId} {A : Nat → Prop} {ad0 : Nat → Nat} {sh : SH} {Q : Int64 → St → Prop} {x0 : Int64} {x2 : Int32} {σ : St} (X : Cx p rmX2_withoutBits s m args meth c cX2_withoutBits 7 RX2 D cA A) (hr : meth.sig.returnType = some .long) (h : w_X2_withoutBits Q x0 x2 σ) : G p l e rmX2_withoutBits s m args below meth c 7 D cA A (MQ below (va_Ql Q (EndW D cA ad0 sh) A) args s 0 0 A) 0 0 (fun ad => ad = ad0) sh σ [(0, .long x0), (2, .int x2)] 0 [] := by
  unfold w_X2_withoutBits at h
  refine g_iload_n X 1 dX2_withoutBits_0 rfl rfl ?_
  refine g_if_gt X 6 dX2_withoutBits_1 (by decide) (fun hc => ?_) (fun hc => ?_)
  · have h := h.1 hc
    refine g_iload_n X 1 dX2_withoutBits_6 rfl rfl ?_
    refine g_bipush X (53 : Int32) dX2_withoutBits_7 (by decide) ?_
    refine g_icmp_le X 14 dX2_withoutBits_9 (by decide) (fun hc => ?_) (fun hc => ?_)
    · have h := h.1 hc
      refine g_lload_n X 0 dX2_withoutBits_14 rfl rfl ?_
      refine g_iload_n X 1 dX2_withoutBits_15 rfl rfl ?_
      refine g_lushr X dX2_withoutBits_16 ?_
      refine g_nameJ (fun y1 ey1 => ?_)
      have h := h y1 ey1
      refine g_lstore_n X [(3, .long y1), (0, .long x0), (2, .int x2)] dX2_withoutBits_17 rfl (Nat.le_of_ble_eq_true rfl) rfl ?_
      refine g_lload_n X 1 dX2_withoutBits_18 rfl rfl ?_
      refine g_iload_n X 2 dX2_withoutBits_19 rfl rfl ?_
      refine g_iconst X (1 : Int32) dX2_withoutBits_20 (by decide) ?_
      refine g_isub X dX2_withoutBits_21 ?_
      refine g_lushr X dX2_withoutBits_22 ?_
      refine g_lconst X (1 : Int64) dX2_withoutBits_23 (by decide) ?_
      refine g_land X dX2_withoutBits_24 ?_
      refine g_lconst X (1 : Int64) dX2_withoutBits_25 (by decide) ?_
      refine g_lcmp X dX2_withoutBits_26 ?_
      refine g_if_ne X 34 dX2_withoutBits_27 (by decide) (fun hc => ?_) (fun hc => ?_)
      · have h := h.1 (fun z => hc (lgc_eq.mpr z))
        refine g_iconst X (0 : Int32) dX2_withoutBits_34 (by decide) ?_
        refine g_weak [1, 2, 0] rfl ?_
        exact b_X2_withoutBits_35 X hr h
      · have h := h.2 (lgc_eq.mp hc)
        refine g_iconst X (1 : Int32) dX2_withoutBits_30 (by decide) ?_
        refine g_goto X 35 dX2_withoutBits_31 (by decide) ?_
        refine g_weak [1, 2, 0] rfl ?_
        exact b_X2_withoutBits_35 X hr h
    · have h := h.2 hc
      refine g_lconst X (0 : Int64) dX2_withoutBits_12 (by decide) ?_
      exact g_lret X hr dX2_withoutBits_13 h
  · have h := h.2 hc
    refine g_lload_n X 0 dX2_withoutBits_4 rfl rfl ?_
    exact g_lret X hr dX2_withoutBits_5 h
theorem c_X2_withoutBits (l : Launch) (D : va_G) (cA : Nat → ClassId) (sh : SH) {x0 : Int64} {x2 : Int32} {σ : St} {Q : Int64 → St → Prop} (h : w_X2_withoutBits Q x0 x2 σ) : CtL l yX2_withoutBits cX2_withoutBits 7 (some .long) rmX2_withoutBits D cA sh [.long x0, .int x2] σ Q := by
  refine CtL.of (own := RX2) rfl (by decide +kernel) [(0, .long x0), (2, .int x2)] rfl (Nat.le_of_ble_eq_true rfl) ?_
  intro p e s m args below meth c ad0 A X hr
  exact b_X2_withoutBits_0 X hr  h
def rmX2_writeSort : Room := { frames := 0, cells := 0, slots := 0, locals := 0 }
def w_X2_writeSort (k0 : Nat) (Q : St → Prop) (x1 : Int32) (x2 : Int32) (σ : St) : Prop := vp_in x1 40 ∧ ∀ σ2 : St, σ2 = uJ σ (k0 + 1) (ix x1) (0 : Int64) → vp_in x1 40 ∧ ∀ σ4 : St, σ4 = uI σ2 (k0 + 2) (ix x1) (0 : Int32) → vp_in x1 40 ∧ ∀ σ6 : St, σ6 = uI σ4 (k0 + 3) (ix x1) x2 → (Q σ6)
set_option maxRecDepth 100000 in
set_option maxHeartbeats 4000000 in
theorem b_X2_writeSort_0 {p : Program} {l : Launch} {e : Env} {s : State} {m : MethodId} {args : Array Value} {below : List Frame} {meth : Method} {c : Code} {D : va_G} {cA : Nat → ClassId} {A : Nat → Prop} {ad0 : Nat → Nat} {sh : SH} {k0 : Nat} {Q : St → Prop} {x1 : Int32} {x2 : Int32} {σ : St} (X : Cx p rmX2_writeSort s m args meth c cX2_writeSort 3 RX2 D cA A) (hr : meth.sig.returnType = none) (hk0 : rowSh sh k0) (h : w_X2_writeSort k0 Q x1 x2 σ) : G p l e rmX2_writeSort s m args below meth c 3 D cA A (MQ below (va_Qv Q (EndW D cA ad0 sh) A) args s 0 0 A) 0 0 (fun ad => ad = ad0) sh σ [(0, .ref k0), (1, .int x1), (2, .int x2)] 0 [] := by
  unfold w_X2_writeSort at h
  refine g_aload_n X 0 dX2_writeSort_0 rfl rfl ?_
  refine g_getR X (C := RX2) (T := TX2) (N := 6) 3 dX2_writeSort_1 (rowSh.b0 hk0) (rowSh.k0 hk0) rfl rfl inG2 (Nat.le_of_ble_eq_true rfl) rfl (rowSh.r3 hk0) q137 ?_
  refine g_iload_n X 1 dX2_writeSort_4 rfl rfl ?_
  refine g_lconst X (0 : Int64) dX2_writeSort_5 (by decide) ?_
  obtain ⟨hi1, h⟩ := h
  refine g_last X dX2_writeSort_6 (rowSh.b1 hk0) (rowSh.k1 hk0) hi1 ?_
  refine g_nameS (fun σ2 eσ2 => ?_)
  have h := h σ2 eσ2
  refine g_aload_n X 0 dX2_writeSort_7 rfl rfl ?_
  refine g_getR X (C := RX2) (T := TX2) (N := 6) 4 dX2_writeSort_8 (rowSh.b0 hk0) (rowSh.k0 hk0) rfl rfl inG2 (Nat.le_of_ble_eq_true rfl) rfl (rowSh.r4 hk0) q140 ?_
  refine g_iload_n X 1 dX2_writeSort_11 rfl rfl ?_
  refine g_iconst X (0 : Int32) dX2_writeSort_12 (by decide) ?_
  obtain ⟨hi3, h⟩ := h
  refine g_iast X dX2_writeSort_13 (rowSh.b2 hk0) (rowSh.k2 hk0) hi3 ?_
  refine g_nameS (fun σ4 eσ4 => ?_)
  have h := h σ4 eσ4
  refine g_aload_n X 0 dX2_writeSort_14 rfl rfl ?_
  refine g_getR X (C := RX2) (T := TX2) (N := 6) 5 dX2_writeSort_15 (rowSh.b0 hk0) (rowSh.k0 hk0) rfl rfl inG2 (Nat.le_of_ble_eq_true rfl) rfl (rowSh.r5 hk0) q142 ?_
  refine g_iload_n X 1 dX2_writeSort_18 rfl rfl ?_
  refine g_iload_n X 2 dX2_writeSort_19 rfl rfl ?_
  obtain ⟨hi5, h⟩ := h
  refine g_iast X dX2_writeSort_20 (rowSh.b3 hk0) (rowSh.k3 hk0) hi5 ?_
  refine g_nameS (fun σ6 eσ6 => ?_)
  have h := h σ6 eσ6
  exact g_vret X hr dX2_writeSort_21 h
theorem c_X2_writeSort (l : Launch) (D : va_G) (cA : Nat → ClassId) (sh : SH) {k0 : Nat} {x1 : Int32} {x2 : Int32} {σ : St} {Q : St → Prop} (hk0 : rowSh sh k0) (h : w_X2_writeSort k0 Q x1 x2 σ) : CtV l yX2_writeSort cX2_writeSort 3 (none) rmX2_writeSort D cA sh [.ref k0, .int x1, .int x2] σ Q := by
  refine CtV.of (own := RX2) rfl (by decide +kernel) [(0, .ref k0), (1, .int x1), (2, .int x2)] rfl (Nat.le_of_ble_eq_true rfl) ?_
  intro p e s m args below meth c ad0 A X hr
  exact b_X2_writeSort_0 X hr hk0 h
def rmX2_writeFloat : Room := { frames := 3, cells := 0, slots := 0, locals := 64 }
def w_X2_writeFloat_117 (k0 : Nat) (Q : St → Prop) (x7 : Int32) (s0 : Int64) (s1 : Int32) (σ : St) : Prop := w_X2_writeNumber k0 (fun σ10 => (Q σ10)) s1 s0 x7 σ
set_option maxRecDepth 100000 in
set_option maxHeartbeats 4000000 in
theorem b_X2_writeFloat_117 {p : Program} {l : Launch} {e : Env} {s : State} {m : MethodId} {args : Array Value} {below : List Frame} {meth : Method} {c : Code} {D : va_G} {cA : Nat → ClassId} {A : Nat → Prop} {ad0 : Nat → Nat} {sh : SH} {k0 : Nat} {Q : St → Prop} {x7 : Int32} {s0 : Int64} {s1 : Int32} {σ : St} (X : Cx p rmX2_writeFloat s m args meth c cX2_writeFloat 10 RX2 D cA A) (hr : meth.sig.returnType = none) (hk0 : rowSh sh k0) (h : w_X2_writeFloat_117 k0 Q x7 s0 s1 σ) : G p l e rmX2_writeFloat s m args below meth c 10 D cA A (MQ below (va_Qv Q (EndW D cA ad0 sh) A) args s 0 0 A) 0 0 (fun ad => ad = ad0) sh σ [(7, .int x7)] 117 [.long s0, .int s1, .ref k0] := by
  unfold w_X2_writeFloat_117 at h
  refine g_iload X 0 dX2_writeFloat_117 rfl ?_
  refine g_callVV X (C := RX2) (T := TX2) (N := 6) (n := 3) [.int s1, .long s0, .int x7] [] dX2_writeFloat_119 (c_X2_writeNumber l D cA sh hk0 h) q171 q173 q0 q51 q174 (rowSh.b0 hk0) (rowSh.k0 hk0) rfl ⟨rfl, by decide, by decide, by decide +kernel⟩ rfl rfl (Nat.le_of_ble_eq_true rfl) rfl rfl ⟨(Nat.le_of_ble_eq_true rfl), (Nat.le_of_ble_eq_true rfl)⟩ (Nat.le_of_ble_eq_true rfl) (Nat.le_of_ble_eq_true rfl) (fun σ10 h => ?_)
  exact g_vret X hr dX2_writeFloat_122 h
def w_X2_writeFloat_95 (k0 : Nat) (Q : St → Prop) (s0 : Int32) (s1 : Int32) (σ : St) : Prop := w_X2_writeSort k0 (fun σ11 => (Q σ11)) s1 s0 σ
set_option maxRecDepth 100000 in
set_option maxHeartbeats 4000000 in
theorem b_X2_writeFloat_95 {p : Program} {l : Launch} {e : Env} {s : State} {m : MethodId} {args : Array Value} {below : List Frame} {meth : Method} {c : Code} {D : va_G} {cA : Nat → ClassId} {A : Nat → Prop} {ad0 : Nat → Nat} {sh : SH} {k0 : Nat} {Q : St → Prop} {s0 : Int32} {s1 : Int32} {σ : St} (X : Cx p rmX2_writeFloat s m args meth c cX2_writeFloat 10 RX2 D cA A) (hr : meth.sig.returnType = none) (hk0 : rowSh sh k0) (h : w_X2_writeFloat_95 k0 Q s0 s1 σ) : G p l e rmX2_writeFloat s m args below meth c 10 D cA A (MQ below (va_Qv Q (EndW D cA ad0 sh) A) args s 0 0 A) 0 0 (fun ad => ad = ad0) sh σ [] 95 [.int s0, .int s1, .ref k0] := by
  unfold w_X2_writeFloat_95 at h
  refine g_callVV X (C := RX2) (T := TX2) (N := 6) (n := 2) [.int s1, .int s0] [] dX2_writeFloat_95 (c_X2_writeSort l D cA sh hk0 h) q201 q203 q2 q51 q204 (rowSh.b0 hk0) (rowSh.k0 hk0) rfl ⟨rfl, by decide, by decide, by decide +kernel⟩ rfl rfl (Nat.le_of_ble_eq_true rfl) rfl rfl ⟨(Nat.le_of_ble_eq_true rfl), (Nat.le_of_ble_eq_true rfl)⟩ (Nat.le_of_ble_eq_true rfl) (Nat.le_of_ble_eq_true rfl) (fun σ11 h => ?_)
  refine g_goto X 122 dX2_writeFloat_98 (by decide) ?_
  exact g_vret X hr dX2_writeFloat_122 h
def w_X2_writeFloat_62 (k0 : Nat) (Q : St → Prop) (s0 : Int32) (s1 : Int32) (σ : St) : Prop := w_X2_writeSort k0 (fun σ12 => (Q σ12)) s1 s0 σ
set_option maxRecDepth 100000 in
set_option maxHeartbeats 4000000 in
theorem b_X2_writeFloat_62 {p : Program} {l : Launch} {e : Env} {s : State} {m : MethodId} {args : Array Value} {below : List Frame} {meth : Method} {c : Code} {D : va_G} {cA : Nat → ClassId} {A : Nat → Prop} {ad0 : Nat → Nat} {sh : SH} {k0 : Nat} {Q : St → Prop} {s0 : Int32} {s1 : Int32} {σ : St} (X : Cx p rmX2_writeFloat s m args meth c cX2_writeFloat 10 RX2 D cA A) (hr : meth.sig.returnType = none) (hk0 : rowSh sh k0) (h : w_X2_writeFloat_62 k0 Q s0 s1 σ) : G p l e rmX2_writeFloat s m args below meth c 10 D cA A (MQ below (va_Qv Q (EndW D cA ad0 sh) A) args s 0 0 A) 0 0 (fun ad => ad = ad0) sh σ [] 62 [.int s0, .int s1, .ref k0] := by
  unfold w_X2_writeFloat_62 at h
  refine g_callVV X (C := RX2) (T := TX2) (N := 6) (n := 2) [.int s1, .int s0] [] dX2_writeFloat_62 (c_X2_writeSort l D cA sh hk0 h) q201 q203 q2 q51 q204 (rowSh.b0 hk0) (rowSh.k0 hk0) rfl ⟨rfl, by decide, by decide, by decide +kernel⟩ rfl rfl (Nat.le_of_ble_eq_true rfl) rfl rfl ⟨(Nat.le_of_ble_eq_true rfl), (Nat.le_of_ble_eq_true rfl)⟩ (Nat.le_of_ble_eq_true rfl) (Nat.le_of_ble_eq_true rfl) (fun σ12 h => ?_)
  refine g_goto X 122 dX2_writeFloat_65 (by decide) ?_
  exact g_vret X hr dX2_writeFloat_122 h
def w_X2_writeFloat (k0 : Nat) (Q : St → Prop) (x1 : Int32) (x2 : Int64) (x4 : Int32) (σ : St) : Prop := ∀ y1 : Int64, y1 = (if 0 < x2 then x2 else -x2) → w_X4_bitsIn (fun r3 σ2 => ∀ y4 : Int32, y4 = (if ((r3 + x4) - (24 : Int32)) < (-149 : Int32) then (-149 : Int32) else ((r3 + x4) - (24 : Int32))) → ∀ y5 : Int32, y5 = (if x4 < y4 then y4 else x4) → w_X2_withoutBits (fun r7 σ6 => ((¬ r7 = (0 : Int64) → w_X4_bitsIn (fun r9 σ8 => (((r9 + y5) ≤ (128 : Int32) → (((0 : Int64) ≤ x2 → (w_X2_writeFloat_117 k0 Q y5 r7 x1 σ8)) ∧ (¬ (0 : Int64) ≤ x2 → (w_X2_writeFloat_117 k0 Q y5 (-r7) x1 σ8)))) ∧ (¬ (r9 + y5) ≤ (128 : Int32) → (((0 : Int64) ≤ x2 → (w_X2_writeFloat_95 k0 Q (1 : Int32) x1 σ8)) ∧ (¬ (0 : Int64) ≤ x2 → (w_X2_writeFloat_95 k0 Q (2 : Int32) x1 σ8)))))) r7 σ6) ∧ (r7 = (0 : Int64) → (((0 : Int64) ≤ x2 → (w_X2_writeFloat_62 k0 Q (0 : Int32) x1 σ6)) ∧ (¬ (0 : Int64) ≤ x2 → (w_X2_writeFloat_62 k0 Q (4 : Int32) x1 σ6)))))) y1 (y5 - x4) σ2) y1 σ
set_option maxRecDepth 100000 in
set_option maxHeartbeats 4000000 in
theorem b_X2_writeFloat_0 {p : Program} {l : Launch} {e : Env} {s : State} {m : MethodId} {args : Array Value} {below : List Frame} {meth : Method} {c : Code} {D : va_G} {cA : Nat → ClassId} {A : Nat → Prop} {ad0 : Nat → Nat} {sh : SH} {k0 : Nat} {Q : St → Prop} {x1 : Int32} {x2 : Int64} {x4 : Int32} {σ : St} (X : Cx p rmX2_writeFloat s m args meth c cX2_writeFloat 10 RX2 D cA A) (hr : meth.sig.returnType = none) (hk0 : rowSh sh k0) (h : w_X2_writeFloat k0 Q x1 x2 x4 σ) : G p l e rmX2_writeFloat s m args below meth c 10 D cA A (MQ below (va_Qv Q (EndW D cA ad0 sh) A) args s 0 0 A) 0 0 (fun ad => ad = ad0) sh σ [(0, .ref k0), (1, .int x1), (2, .long x2), (4, .int x4)] 0 [] := by
  unfold w_X2_writeFloat at h
  refine g_lload_n X 2 dX2_writeFloat_0 rfl rfl ?_
  refine g_mabsl X dX2_writeFloat_1 q179 q180 q53 q181 (Nat.le_of_ble_eq_true rfl) (Nat.le_of_ble_eq_true rfl) (Nat.le_of_ble_eq_true rfl) (Nat.le_of_ble_eq_true rfl) ?_
  refine g_nameJ (fun y1 ey1 => ?_)
  have h := h y1 ey1
  refine g_lstore X [(5, .long y1), (0, .ref k0), (1, .int x1), (2, .long x2), (4, .int x4)] dX2_writeFloat_4 (Nat.le_of_ble_eq_true rfl) rfl ?_
  refine g_iload X 4 dX2_writeFloat_6 rfl ?_
  refine g_lload X 0 dX2_writeFloat_8 rfl ?_
  refine g_callNI X (host := "LongSums") (n := 1) [.long y1] [.int x4] dX2_writeFloat_10 (c_X4_bitsIn l D cA sh h) (nw 182 (by decide +kernel) rfl) q183 q47 q184 ⟨by decide, by decide, by decide +kernel⟩ rfl rfl (Nat.le_of_ble_eq_true rfl) rfl rfl ⟨(Nat.le_of_ble_eq_true rfl), (Nat.le_of_ble_eq_true rfl)⟩ (Nat.le_of_ble_eq_true rfl) (Nat.le_of_ble_eq_true rfl) (fun r3 σ2 h => ?_)
  refine g_iload X 4 dX2_writeFloat_13 rfl ?_
  refine g_iadd X dX2_writeFloat_15 ?_
  refine g_bipush X (24 : Int32) dX2_writeFloat_16 (by decide) ?_
  refine g_isub X dX2_writeFloat_18 ?_
  refine g_sipush X (-149 : Int32) dX2_writeFloat_19 (by decide) ?_
  refine g_mmax X dX2_writeFloat_22 q192 q193 q53 q194 (Nat.le_of_ble_eq_true rfl) (Nat.le_of_ble_eq_true rfl) (Nat.le_of_ble_eq_true rfl) (Nat.le_of_ble_eq_true rfl) ?_
  refine g_nameI (fun y4 ey4 => ?_)
  have h := h y4 ey4
  refine g_mmax X dX2_writeFloat_25 q192 q193 q53 q194 (Nat.le_of_ble_eq_true rfl) (Nat.le_of_ble_eq_true rfl) (Nat.le_of_ble_eq_true rfl) (Nat.le_of_ble_eq_true rfl) ?_
  refine g_nameI (fun y5 ey5 => ?_)
  have h := h y5 ey5
  refine g_istore X [(7, .int y5), (5, .long y1), (0, .ref k0), (1, .int x1), (2, .long x2), (4, .int x4)] dX2_writeFloat_28 (Nat.le_of_ble_eq_true rfl) rfl ?_
  refine g_lload X 1 dX2_writeFloat_30 rfl ?_
  refine g_iload X 0 dX2_writeFloat_32 rfl ?_
  refine g_iload X 5 dX2_writeFloat_34 rfl ?_
  refine g_isub X dX2_writeFloat_36 ?_
  refine g_callSL X (n := 2) [.long y1, .int (y5 - x4)] [] dX2_writeFloat_37 (c_X2_withoutBits l D cA sh h) q195 q196 q51 q197 ⟨by decide, by decide, by decide +kernel⟩ rfl rfl (Nat.le_of_ble_eq_true rfl) rfl rfl ⟨(Nat.le_of_ble_eq_true rfl), (Nat.le_of_ble_eq_true rfl)⟩ (Nat.le_of_ble_eq_true rfl) (Nat.le_of_ble_eq_true rfl) (fun r7 σ6 h => ?_)
  refine g_lstore X [(8, .long r7), (7, .int y5), (5, .long y1), (0, .ref k0), (1, .int x1), (2, .long x2), (4, .int x4)] dX2_writeFloat_40 (Nat.le_of_ble_eq_true rfl) rfl ?_
  refine g_lload X 0 dX2_writeFloat_42 rfl ?_
  refine g_lconst X (0 : Int64) dX2_writeFloat_44 (by decide) ?_
  refine g_lcmp X dX2_writeFloat_45 ?_
  refine g_if_ne X 68 dX2_writeFloat_46 (by decide) (fun hc => ?_) (fun hc => ?_)
  · have h := h.1 (fun z => hc (lgc_eq.mpr z))
    refine g_lload X 0 dX2_writeFloat_68 rfl ?_
    refine g_callNI X (host := "LongSums") (n := 1) [.long r7] [] dX2_writeFloat_70 (c_X4_bitsIn l D cA sh h) (nw 182 (by decide +kernel) rfl) q183 q47 q184 ⟨by decide, by decide, by decide +kernel⟩ rfl rfl (Nat.le_of_ble_eq_true rfl) rfl rfl ⟨(Nat.le_of_ble_eq_true rfl), (Nat.le_of_ble_eq_true rfl)⟩ (Nat.le_of_ble_eq_true rfl) (Nat.le_of_ble_eq_true rfl) (fun r9 σ8 h => ?_)
    refine g_iload X 1 dX2_writeFloat_73 rfl ?_
    refine g_iadd X dX2_writeFloat_75 ?_
    refine g_sipush X (128 : Int32) dX2_writeFloat_76 (by decide) ?_
    refine g_icmp_le X 101 dX2_writeFloat_79 (by decide) (fun hc => ?_) (fun hc => ?_)
    · have h := h.1 hc
      refine g_aload_n X 3 dX2_writeFloat_101 rfl rfl ?_
      refine g_iload_n X 4 dX2_writeFloat_102 rfl rfl ?_
      refine g_lload_n X 5 dX2_writeFloat_103 rfl rfl ?_
      refine g_lconst X (0 : Int64) dX2_writeFloat_104 (by decide) ?_
      refine g_lcmp X dX2_writeFloat_105 ?_
      refine g_if_ge X 115 dX2_writeFloat_106 (by decide) (fun hc => ?_) (fun hc => ?_)
      · have h := h.1 (lgc_ge.mp hc)
        refine g_lload X 0 dX2_writeFloat_115 rfl ?_
        refine g_weak [1] rfl ?_
        exact b_X2_writeFloat_117 X hr hk0 h
      · have h := h.2 (fun z => hc (lgc_ge.mpr z))
        refine g_lload X 0 dX2_writeFloat_109 rfl ?_
        refine g_lneg X dX2_writeFloat_111 ?_
        refine g_goto X 117 dX2_writeFloat_112 (by decide) ?_
        refine g_weak [1] rfl ?_
        exact b_X2_writeFloat_117 X hr hk0 h
    · have h := h.2 hc
      refine g_aload_n X 3 dX2_writeFloat_82 rfl rfl ?_
      refine g_iload_n X 4 dX2_writeFloat_83 rfl rfl ?_
      refine g_lload_n X 5 dX2_writeFloat_84 rfl rfl ?_
      refine g_lconst X (0 : Int64) dX2_writeFloat_85 (by decide) ?_
      refine g_lcmp X dX2_writeFloat_86 ?_
      refine g_if_ge X 94 dX2_writeFloat_87 (by decide) (fun hc => ?_) (fun hc => ?_)
      · have h := h.1 (lgc_ge.mp hc)
        refine g_iconst X (1 : Int32) dX2_writeFloat_94 (by decide) ?_
        refine g_weak [] rfl ?_
        exact b_X2_writeFloat_95 X hr hk0 h
      · have h := h.2 (fun z => hc (lgc_ge.mpr z))
        refine g_iconst X (2 : Int32) dX2_writeFloat_90 (by decide) ?_
        refine g_goto X 95 dX2_writeFloat_91 (by decide) ?_
        refine g_weak [] rfl ?_
        exact b_X2_writeFloat_95 X hr hk0 h
  · have h := h.2 (lgc_eq.mp hc)
    refine g_aload_n X 3 dX2_writeFloat_49 rfl rfl ?_
    refine g_iload_n X 4 dX2_writeFloat_50 rfl rfl ?_
    refine g_lload_n X 5 dX2_writeFloat_51 rfl rfl ?_
    refine g_lconst X (0 : Int64) dX2_writeFloat_52 (by decide) ?_
    refine g_lcmp X dX2_writeFloat_53 ?_
    refine g_if_ge X 61 dX2_writeFloat_54 (by decide) (fun hc => ?_) (fun hc => ?_)
    · have h := h.1 (lgc_ge.mp hc)
      refine g_iconst X (0 : Int32) dX2_writeFloat_61 (by decide) ?_
      refine g_weak [] rfl ?_
      exact b_X2_writeFloat_62 X hr hk0 h
    · have h := h.2 (fun z => hc (lgc_ge.mpr z))
      refine g_iconst X (4 : Int32) dX2_writeFloat_57 (by decide) ?_
      refine g_goto X 62 dX2_writeFloat_58 (by decide) ?_
      refine g_weak [] rfl ?_
      exact b_X2_writeFloat_62 X hr hk0 h
theorem c_X2_writeFloat (l : Launch) (D : va_G) (cA : Nat → ClassId) (sh : SH) {k0 : Nat} {x1 : Int32} {x2 : Int64} {x4 : Int32} {σ : St} {Q : St → Prop} (hk0 : rowSh sh k0) (h : w_X2_writeFloat k0 Q x1 x2 x4 σ) : CtV l yX2_writeFloat cX2_writeFloat 10 (none) rmX2_writeFloat D cA sh [.ref k0, .int x1, .long x2, .int x4] σ Q := by
  refine CtV.of (own := RX2) rfl (by decide +kernel) [(0, .ref k0), (1, .int x1), (2, .long x2), (4, .int x4)] rfl (Nat.le_of_ble_eq_true rfl) ?_
  intro p e s m args below meth c ad0 A X hr
  exact b_X2_writeFloat_0 X hr hk0 h
def rmX2_write : Room := { frames := 4, cells := 0, slots := 0, locals := 93 }
def w_X2_write (k0 : Nat) (Q : St → Prop) (x1 : Int32) (x2 : Int64) (x4 : Int32) (σ : St) : Prop := ∀ y1 : Int32, y1 = (gI σ k0 1) → ((y1 = 0 → w_X2_writeNumber k0 (fun σ2 => (Q σ2)) x1 (((x2.toInt32).toInt8.toInt32).toInt64) (0 : Int32) σ) ∧ (y1 = 1 → w_X2_writeNumber k0 (fun σ3 => (Q σ3)) x1 (((x2.toInt32).toInt16.toInt32).toInt64) (0 : Int32) σ) ∧ (y1 = 2 → w_X2_writeNumber k0 (fun σ4 => (Q σ4)) x1 ((x2.toInt32).toInt64) (0 : Int32) σ) ∧ (y1 = 3 → w_X2_writeNumber k0 (fun σ5 => (Q σ5)) x1 x2 (0 : Int32) σ) ∧ (y1 = 4 → w_X2_writeFloat k0 (fun σ6 => (Q σ6)) x1 x2 x4 σ) ∧ (¬ y1 = 0 → ¬ y1 = 1 → ¬ y1 = 2 → ¬ y1 = 3 → ¬ y1 = 4 → w_X2_writeNumber k0 (fun σ7 => (Q σ7)) x1 x2 x4 σ))
set_option maxRecDepth 100000 in
set_option maxHeartbeats 4000000 in
theorem b_X2_write_0 {p : Program} {l : Launch} {e : Env} {s : State} {m : MethodId} {args : Array Value} {below : List Frame} {meth : Method} {c : Code} {D : va_G} {cA : Nat → ClassId} {A : Nat → Prop} {ad0 : Nat → Nat} {sh : SH} {k0 : Nat} {Q : St → Prop} {x1 : Int32} {x2 : Int64} {x4 : Int32} {σ : St} (X : Cx p rmX2_write s m args meth c cX2_write 5 RX2 D cA A) (hr : meth.sig.returnType = none) (hk0 : rowSh sh k0) (h : w_X2_write k0 Q x1 x2 x4 σ) : G p l e rmX2_write s m args below meth c 5 D cA A (MQ below (va_Qv Q (EndW D cA ad0 sh) A) args s 0 0 A) 0 0 (fun ad => ad = ad0) sh σ [(0, .ref k0), (1, .int x1), (2, .long x2), (4, .int x4)] 0 [] := by
  unfold w_X2_write at h
  refine g_aload_n X 0 dX2_write_0 rfl rfl ?_
  refine g_getI X (C := RX2) (T := TX2) (N := 6) 1 dX2_write_1 (rowSh.b0 hk0) (rowSh.k0 hk0) rfl rfl inG2 (Nat.le_of_ble_eq_true rfl) rfl q133 ?_
  refine g_nameI (fun y1 ey1 => ?_)
  have h := h y1 ey1
  by_cases hc0 : y1 = 0
  · have h := h.1 hc0
    refine g_tabIn X 40 (36) dX2_write_4 (by rw [hc0]; decide) (by rw [hc0]; decide) (by rw [hc0]; rfl) (by decide) ?_
    refine g_aload_n X 0 dX2_write_40 rfl rfl ?_
    refine g_iload_n X 1 dX2_write_41 rfl rfl ?_
    refine g_lload_n X 2 dX2_write_42 rfl rfl ?_
    refine g_l2i X dX2_write_43 ?_
    refine g_i2b X dX2_write_44 ?_
    refine g_i2l X dX2_write_45 ?_
    refine g_iconst X (0 : Int32) dX2_write_46 (by decide) ?_
    refine g_callVV X (C := RX2) (T := TX2) (N := 6) (n := 3) [.int x1, .long (((x2.toInt32).toInt8.toInt32).toInt64), .int (0 : Int32)] [] dX2_write_47 (c_X2_writeNumber l D cA sh hk0 h) q171 q173 q0 q51 q174 (rowSh.b0 hk0) (rowSh.k0 hk0) rfl ⟨rfl, by decide, by decide, by decide +kernel⟩ rfl rfl (Nat.le_of_ble_eq_true rfl) rfl rfl ⟨(Nat.le_of_ble_eq_true rfl), (Nat.le_of_ble_eq_true rfl)⟩ (Nat.le_of_ble_eq_true rfl) (Nat.le_of_ble_eq_true rfl) (fun σ2 h => ?_)
    refine g_goto X 107 dX2_write_50 (by decide) ?_
    exact g_vret X hr dX2_write_107 h
  by_cases hc1 : y1 = 1
  · have h := h.2.1 hc1
    refine g_tabIn X 53 (49) dX2_write_4 (by rw [hc1]; decide) (by rw [hc1]; decide) (by rw [hc1]; rfl) (by decide) ?_
    refine g_aload_n X 0 dX2_write_53 rfl rfl ?_
    refine g_iload_n X 1 dX2_write_54 rfl rfl ?_
    refine g_lload_n X 2 dX2_write_55 rfl rfl ?_
    refine g_l2i X dX2_write_56 ?_
    refine g_i2s X dX2_write_57 ?_
    refine g_i2l X dX2_write_58 ?_
    refine g_iconst X (0 : Int32) dX2_write_59 (by decide) ?_
    refine g_callVV X (C := RX2) (T := TX2) (N := 6) (n := 3) [.int x1, .long (((x2.toInt32).toInt16.toInt32).toInt64), .int (0 : Int32)] [] dX2_write_60 (c_X2_writeNumber l D cA sh hk0 h) q171 q173 q0 q51 q174 (rowSh.b0 hk0) (rowSh.k0 hk0) rfl ⟨rfl, by decide, by decide, by decide +kernel⟩ rfl rfl (Nat.le_of_ble_eq_true rfl) rfl rfl ⟨(Nat.le_of_ble_eq_true rfl), (Nat.le_of_ble_eq_true rfl)⟩ (Nat.le_of_ble_eq_true rfl) (Nat.le_of_ble_eq_true rfl) (fun σ3 h => ?_)
    refine g_goto X 107 dX2_write_63 (by decide) ?_
    exact g_vret X hr dX2_write_107 h
  by_cases hc2 : y1 = 2
  · have h := h.2.2.1 hc2
    refine g_tabIn X 66 (62) dX2_write_4 (by rw [hc2]; decide) (by rw [hc2]; decide) (by rw [hc2]; rfl) (by decide) ?_
    refine g_aload_n X 0 dX2_write_66 rfl rfl ?_
    refine g_iload_n X 1 dX2_write_67 rfl rfl ?_
    refine g_lload_n X 2 dX2_write_68 rfl rfl ?_
    refine g_l2i X dX2_write_69 ?_
    refine g_i2l X dX2_write_70 ?_
    refine g_iconst X (0 : Int32) dX2_write_71 (by decide) ?_
    refine g_callVV X (C := RX2) (T := TX2) (N := 6) (n := 3) [.int x1, .long ((x2.toInt32).toInt64), .int (0 : Int32)] [] dX2_write_72 (c_X2_writeNumber l D cA sh hk0 h) q171 q173 q0 q51 q174 (rowSh.b0 hk0) (rowSh.k0 hk0) rfl ⟨rfl, by decide, by decide, by decide +kernel⟩ rfl rfl (Nat.le_of_ble_eq_true rfl) rfl rfl ⟨(Nat.le_of_ble_eq_true rfl), (Nat.le_of_ble_eq_true rfl)⟩ (Nat.le_of_ble_eq_true rfl) (Nat.le_of_ble_eq_true rfl) (fun σ4 h => ?_)
    refine g_goto X 107 dX2_write_75 (by decide) ?_
    exact g_vret X hr dX2_write_107 h
  by_cases hc3 : y1 = 3
  · have h := h.2.2.2.1 hc3
    refine g_tabIn X 78 (74) dX2_write_4 (by rw [hc3]; decide) (by rw [hc3]; decide) (by rw [hc3]; rfl) (by decide) ?_
    refine g_aload_n X 0 dX2_write_78 rfl rfl ?_
    refine g_iload_n X 1 dX2_write_79 rfl rfl ?_
    refine g_lload_n X 2 dX2_write_80 rfl rfl ?_
    refine g_iconst X (0 : Int32) dX2_write_81 (by decide) ?_
    refine g_callVV X (C := RX2) (T := TX2) (N := 6) (n := 3) [.int x1, .long x2, .int (0 : Int32)] [] dX2_write_82 (c_X2_writeNumber l D cA sh hk0 h) q171 q173 q0 q51 q174 (rowSh.b0 hk0) (rowSh.k0 hk0) rfl ⟨rfl, by decide, by decide, by decide +kernel⟩ rfl rfl (Nat.le_of_ble_eq_true rfl) rfl rfl ⟨(Nat.le_of_ble_eq_true rfl), (Nat.le_of_ble_eq_true rfl)⟩ (Nat.le_of_ble_eq_true rfl) (Nat.le_of_ble_eq_true rfl) (fun σ5 h => ?_)
    refine g_goto X 107 dX2_write_85 (by decide) ?_
    exact g_vret X hr dX2_write_107 h
  by_cases hc4 : y1 = 4
  · have h := h.2.2.2.2.1 hc4
    refine g_tabIn X 88 (84) dX2_write_4 (by rw [hc4]; decide) (by rw [hc4]; decide) (by rw [hc4]; rfl) (by decide) ?_
    refine g_aload_n X 0 dX2_write_88 rfl rfl ?_
    refine g_iload_n X 1 dX2_write_89 rfl rfl ?_
    refine g_lload_n X 2 dX2_write_90 rfl rfl ?_
    refine g_iload X 3 dX2_write_91 rfl ?_
    refine g_callVV X (C := RX2) (T := TX2) (N := 6) (n := 3) [.int x1, .long x2, .int x4] [] dX2_write_93 (c_X2_writeFloat l D cA sh hk0 h) q175 q177 q1 q51 q178 (rowSh.b0 hk0) (rowSh.k0 hk0) rfl ⟨rfl, by decide, by decide, by decide +kernel⟩ rfl rfl (Nat.le_of_ble_eq_true rfl) rfl rfl ⟨(Nat.le_of_ble_eq_true rfl), (Nat.le_of_ble_eq_true rfl)⟩ (Nat.le_of_ble_eq_true rfl) (Nat.le_of_ble_eq_true rfl) (fun σ6 h => ?_)
    refine g_goto X 107 dX2_write_96 (by decide) ?_
    exact g_vret X hr dX2_write_107 h
  have h := h.2.2.2.2.2 hc0 hc1 hc2 hc3 hc4
  refine g_tabOut X 99 dX2_write_4 (by have e0 := lv_neT (a := 0) hc0 rfl; have e1 := lv_neT (a := 1) hc1 rfl; have e2 := lv_neT (a := 2) hc2 rfl; have e3 := lv_neT (a := 3) hc3 rfl; have e4 := lv_neT (a := 4) hc4 rfl; omega) (by decide) ?_
  refine g_aload_n X 0 dX2_write_99 rfl rfl ?_
  refine g_iload_n X 1 dX2_write_100 rfl rfl ?_
  refine g_lload_n X 2 dX2_write_101 rfl rfl ?_
  refine g_iload X 3 dX2_write_102 rfl ?_
  refine g_callVV X (C := RX2) (T := TX2) (N := 6) (n := 3) [.int x1, .long x2, .int x4] [] dX2_write_104 (c_X2_writeNumber l D cA sh hk0 h) q171 q173 q0 q51 q174 (rowSh.b0 hk0) (rowSh.k0 hk0) rfl ⟨rfl, by decide, by decide, by decide +kernel⟩ rfl rfl (Nat.le_of_ble_eq_true rfl) rfl rfl ⟨(Nat.le_of_ble_eq_true rfl), (Nat.le_of_ble_eq_true rfl)⟩ (Nat.le_of_ble_eq_true rfl) (Nat.le_of_ble_eq_true rfl) (fun σ7 h => ?_)
  exact g_vret X hr dX2_write_107 h
theorem c_X2_write (l : Launch) (D : va_G) (cA : Nat → ClassId) (sh : SH) {k0 : Nat} {x1 : Int32} {x2 : Int64} {x4 : Int32} {σ : St} {Q : St → Prop} (hk0 : rowSh sh k0) (h : w_X2_write k0 Q x1 x2 x4 σ) : CtV l yX2_write cX2_write 5 (none) rmX2_write D cA sh [.ref k0, .int x1, .long x2, .int x4] σ Q := by
  refine CtV.of (own := RX2) rfl (by decide +kernel) [(0, .ref k0), (1, .int x1), (2, .long x2), (4, .int x4)] rfl (Nat.le_of_ble_eq_true rfl) ?_
  intro p e s m args below meth c ad0 A X hr
  exact b_X2_write_0 X hr hk0 h
def rmX2_writeMark : Room := { frames := 1, cells := 0, slots := 0, locals := 24 }
def w_X2_writeMark_117 (k0 : Nat) (Q : St → Prop) (s0 : Int32) (s1 : Int64) (s2 : Int32) (σ : St) : Prop := w_X2_writeNumber k0 (fun σ6 => (Q σ6)) s2 s1 s0 σ
set_option maxRecDepth 100000 in
set_option maxHeartbeats 4000000 in
theorem b_X2_writeMark_117 {p : Program} {l : Launch} {e : Env} {s : State} {m : MethodId} {args : Array Value} {below : List Frame} {meth : Method} {c : Code} {D : va_G} {cA : Nat → ClassId} {A : Nat → Prop} {ad0 : Nat → Nat} {sh : SH} {k0 : Nat} {Q : St → Prop} {s0 : Int32} {s1 : Int64} {s2 : Int32} {σ : St} (X : Cx p rmX2_writeMark s m args meth c cX2_writeMark 6 RX2 D cA A) (hr : meth.sig.returnType = none) (hk0 : rowSh sh k0) (h : w_X2_writeMark_117 k0 Q s0 s1 s2 σ) : G p l e rmX2_writeMark s m args below meth c 6 D cA A (MQ below (va_Qv Q (EndW D cA ad0 sh) A) args s 0 0 A) 0 0 (fun ad => ad = ad0) sh σ [] 117 [.int s0, .long s1, .int s2, .ref k0] := by
  unfold w_X2_writeMark_117 at h
  refine g_callVV X (C := RX2) (T := TX2) (N := 6) (n := 3) [.int s2, .long s1, .int s0] [] dX2_writeMark_117 (c_X2_writeNumber l D cA sh hk0 h) q171 q173 q0 q51 q174 (rowSh.b0 hk0) (rowSh.k0 hk0) rfl ⟨rfl, by decide, by decide, by decide +kernel⟩ rfl rfl (Nat.le_of_ble_eq_true rfl) rfl rfl ⟨(Nat.le_of_ble_eq_true rfl), (Nat.le_of_ble_eq_true rfl)⟩ (Nat.le_of_ble_eq_true rfl) (Nat.le_of_ble_eq_true rfl) (fun σ6 h => ?_)
  refine g_goto X 142 dX2_writeMark_120 (by decide) ?_
  exact g_vret X hr dX2_writeMark_142 h
def w_X2_writeMark_96 (k0 : Nat) (Q : St → Prop) (x1 : Int32) (x3 : Int32) (s0 : Int32) (s1 : Int64) (σ : St) : Prop := ∀ y5 : Int64, y5 = ((lshlF s1 s0) - (1 : Int64)) → ((x3 = 0 → (w_X2_writeMark_117 k0 Q (971 : Int32) y5 x1 σ)) ∧ (¬ x3 = 0 → (w_X2_writeMark_117 k0 Q (104 : Int32) y5 x1 σ)))
set_option maxRecDepth 100000 in
set_option maxHeartbeats 4000000 in
theorem b_X2_writeMark_96 {p : Program} {l : Launch} {e : Env} {s : State} {m : MethodId} {args : Array Value} {below : List Frame} {meth : Method} {c : Code} {D : va_G} {cA : Nat → ClassId} {A : Nat → Prop} {ad0 : Nat → Nat} {sh : SH} {k0 : Nat} {Q : St → Prop} {x1 : Int32} {x3 : Int32} {s0 : Int32} {s1 : Int64} {σ : St} (X : Cx p rmX2_writeMark s m args meth c cX2_writeMark 6 RX2 D cA A) (hr : meth.sig.returnType = none) (hk0 : rowSh sh k0) (h : w_X2_writeMark_96 k0 Q x1 x3 s0 s1 σ) : G p l e rmX2_writeMark s m args below meth c 6 D cA A (MQ below (va_Qv Q (EndW D cA ad0 sh) A) args s 0 0 A) 0 0 (fun ad => ad = ad0) sh σ [(0, .ref k0), (1, .int x1), (3, .int x3)] 96 [.int s0, .long s1] := by
  unfold w_X2_writeMark_96 at h
  refine g_lshl X dX2_writeMark_96 ?_
  refine g_lconst X (1 : Int64) dX2_writeMark_97 (by decide) ?_
  refine g_lsub X dX2_writeMark_98 ?_
  refine g_nameJ (fun y5 ey5 => ?_)
  have h := h y5 ey5
  refine g_lstore X [(4, .long y5), (0, .ref k0), (1, .int x1), (3, .int x3)] dX2_writeMark_99 (Nat.le_of_ble_eq_true rfl) rfl ?_
  refine g_aload_n X 1 dX2_writeMark_101 rfl rfl ?_
  refine g_iload_n X 2 dX2_writeMark_102 rfl rfl ?_
  refine g_lload X 0 dX2_writeMark_103 rfl ?_
  refine g_iload_n X 3 dX2_writeMark_105 rfl rfl ?_
  refine g_if_eq X 114 dX2_writeMark_106 (by decide) (fun hc => ?_) (fun hc => ?_)
  · have h := h.1 hc
    refine g_sipush X (971 : Int32) dX2_writeMark_114 (by decide) ?_
    refine g_weak [] rfl ?_
    exact b_X2_writeMark_117 X hr hk0 h
  · have h := h.2 hc
    refine g_bipush X (104 : Int32) dX2_writeMark_109 (by decide) ?_
    refine g_goto X 117 dX2_writeMark_111 (by decide) ?_
    refine g_weak [] rfl ?_
    exact b_X2_writeMark_117 X hr hk0 h
def w_X2_writeMark_139 (k0 : Nat) (Q : St → Prop) (s0 : Int32) (s1 : Int64) (s2 : Int32) (σ : St) : Prop := w_X2_writeNumber k0 (fun σ7 => (Q σ7)) s2 s1 s0 σ
set_option maxRecDepth 100000 in
set_option maxHeartbeats 4000000 in
theorem b_X2_writeMark_139 {p : Program} {l : Launch} {e : Env} {s : State} {m : MethodId} {args : Array Value} {below : List Frame} {meth : Method} {c : Code} {D : va_G} {cA : Nat → ClassId} {A : Nat → Prop} {ad0 : Nat → Nat} {sh : SH} {k0 : Nat} {Q : St → Prop} {s0 : Int32} {s1 : Int64} {s2 : Int32} {σ : St} (X : Cx p rmX2_writeMark s m args meth c cX2_writeMark 6 RX2 D cA A) (hr : meth.sig.returnType = none) (hk0 : rowSh sh k0) (h : w_X2_writeMark_139 k0 Q s0 s1 s2 σ) : G p l e rmX2_writeMark s m args below meth c 6 D cA A (MQ below (va_Qv Q (EndW D cA ad0 sh) A) args s 0 0 A) 0 0 (fun ad => ad = ad0) sh σ [] 139 [.int s0, .long s1, .int s2, .ref k0] := by
  unfold w_X2_writeMark_139 at h
  refine g_callVV X (C := RX2) (T := TX2) (N := 6) (n := 3) [.int s2, .long s1, .int s0] [] dX2_writeMark_139 (c_X2_writeNumber l D cA sh hk0 h) q171 q173 q0 q51 q174 (rowSh.b0 hk0) (rowSh.k0 hk0) rfl ⟨rfl, by decide, by decide, by decide +kernel⟩ rfl rfl (Nat.le_of_ble_eq_true rfl) rfl rfl ⟨(Nat.le_of_ble_eq_true rfl), (Nat.le_of_ble_eq_true rfl)⟩ (Nat.le_of_ble_eq_true rfl) (Nat.le_of_ble_eq_true rfl) (fun σ7 h => ?_)
  exact g_vret X hr dX2_writeMark_142 h
def w_X2_writeMark_13 (k0 : Nat) (Q : St → Prop) (x1 : Int32) (x2 : Int32) (s0 : Int32) (σ : St) : Prop := ((x2 = 0 → w_X2_writeSort k0 (fun σ1 => (Q σ1)) x1 (1 : Int32) σ) ∧ (x2 = 1 → w_X2_writeSort k0 (fun σ2 => (Q σ2)) x1 (2 : Int32) σ) ∧ (x2 = 2 → w_X2_writeSort k0 (fun σ3 => (Q σ3)) x1 (3 : Int32) σ) ∧ (x2 = 3 → w_X2_writeSort k0 (fun σ4 => (Q σ4)) x1 (4 : Int32) σ) ∧ (x2 = 4 → ((s0 = 0 → (w_X2_writeMark_96 k0 Q x1 s0 (53 : Int32) (1 : Int64) σ)) ∧ (¬ s0 = 0 → (w_X2_writeMark_96 k0 Q x1 s0 (24 : Int32) (1 : Int64) σ)))) ∧ (¬ x2 = 0 → ¬ x2 = 1 → ¬ x2 = 2 → ¬ x2 = 3 → ¬ x2 = 4 → ((s0 = 0 → (w_X2_writeMark_139 k0 Q (-1074 : Int32) (1 : Int64) x1 σ)) ∧ (¬ s0 = 0 → (w_X2_writeMark_139 k0 Q (-149 : Int32) (1 : Int64) x1 σ)))))
set_option maxRecDepth 100000 in
set_option maxHeartbeats 4000000 in
theorem b_X2_writeMark_13 {p : Program} {l : Launch} {e : Env} {s : State} {m : MethodId} {args : Array Value} {below : List Frame} {meth : Method} {c : Code} {D : va_G} {cA : Nat → ClassId} {A : Nat → Prop} {ad0 : Nat → Nat} {sh : SH} {k0 : Nat} {Q : St → Prop} {x1 : Int32} {x2 : Int32} {s0 : Int32} {σ : St} (X : Cx p rmX2_writeMark s m args meth c cX2_writeMark 6 RX2 D cA A) (hr : meth.sig.returnType = none) (hk0 : rowSh sh k0) (h : w_X2_writeMark_13 k0 Q x1 x2 s0 σ) : G p l e rmX2_writeMark s m args below meth c 6 D cA A (MQ below (va_Qv Q (EndW D cA ad0 sh) A) args s 0 0 A) 0 0 (fun ad => ad = ad0) sh σ [(0, .ref k0), (1, .int x1), (2, .int x2)] 13 [.int s0] := by
  unfold w_X2_writeMark_13 at h
  refine g_istore_n X [(3, .int s0), (0, .ref k0), (1, .int x1), (2, .int x2)] dX2_writeMark_13 rfl (Nat.le_of_ble_eq_true rfl) rfl ?_
  refine g_iload_n X 3 dX2_writeMark_14 rfl rfl ?_
  by_cases hc0 : x2 = 0
  · have h := h.1 hc0
    refine g_tabIn X 48 (33) dX2_writeMark_15 (by rw [hc0]; decide) (by rw [hc0]; decide) (by rw [hc0]; rfl) (by decide) ?_
    refine g_aload_n X 1 dX2_writeMark_48 rfl rfl ?_
    refine g_iload_n X 2 dX2_writeMark_49 rfl rfl ?_
    refine g_iconst X (1 : Int32) dX2_writeMark_50 (by decide) ?_
    refine g_callVV X (C := RX2) (T := TX2) (N := 6) (n := 2) [.int x1, .int (1 : Int32)] [] dX2_writeMark_51 (c_X2_writeSort l D cA sh hk0 h) q201 q203 q2 q51 q204 (rowSh.b0 hk0) (rowSh.k0 hk0) rfl ⟨rfl, by decide, by decide, by decide +kernel⟩ rfl rfl (Nat.le_of_ble_eq_true rfl) rfl rfl ⟨(Nat.le_of_ble_eq_true rfl), (Nat.le_of_ble_eq_true rfl)⟩ (Nat.le_of_ble_eq_true rfl) (Nat.le_of_ble_eq_true rfl) (fun σ1 h => ?_)
    refine g_goto X 142 dX2_writeMark_54 (by decide) ?_
    exact g_vret X hr dX2_writeMark_142 h
  by_cases hc1 : x2 = 1
  · have h := h.2.1 hc1
    refine g_tabIn X 57 (42) dX2_writeMark_15 (by rw [hc1]; decide) (by rw [hc1]; decide) (by rw [hc1]; rfl) (by decide) ?_
    refine g_aload_n X 1 dX2_writeMark_57 rfl rfl ?_
    refine g_iload_n X 2 dX2_writeMark_58 rfl rfl ?_
    refine g_iconst X (2 : Int32) dX2_writeMark_59 (by decide) ?_
    refine g_callVV X (C := RX2) (T := TX2) (N := 6) (n := 2) [.int x1, .int (2 : Int32)] [] dX2_writeMark_60 (c_X2_writeSort l D cA sh hk0 h) q201 q203 q2 q51 q204 (rowSh.b0 hk0) (rowSh.k0 hk0) rfl ⟨rfl, by decide, by decide, by decide +kernel⟩ rfl rfl (Nat.le_of_ble_eq_true rfl) rfl rfl ⟨(Nat.le_of_ble_eq_true rfl), (Nat.le_of_ble_eq_true rfl)⟩ (Nat.le_of_ble_eq_true rfl) (Nat.le_of_ble_eq_true rfl) (fun σ2 h => ?_)
    refine g_goto X 142 dX2_writeMark_63 (by decide) ?_
    exact g_vret X hr dX2_writeMark_142 h
  by_cases hc2 : x2 = 2
  · have h := h.2.2.1 hc2
    refine g_tabIn X 66 (51) dX2_writeMark_15 (by rw [hc2]; decide) (by rw [hc2]; decide) (by rw [hc2]; rfl) (by decide) ?_
    refine g_aload_n X 1 dX2_writeMark_66 rfl rfl ?_
    refine g_iload_n X 2 dX2_writeMark_67 rfl rfl ?_
    refine g_iconst X (3 : Int32) dX2_writeMark_68 (by decide) ?_
    refine g_callVV X (C := RX2) (T := TX2) (N := 6) (n := 2) [.int x1, .int (3 : Int32)] [] dX2_writeMark_69 (c_X2_writeSort l D cA sh hk0 h) q201 q203 q2 q51 q204 (rowSh.b0 hk0) (rowSh.k0 hk0) rfl ⟨rfl, by decide, by decide, by decide +kernel⟩ rfl rfl (Nat.le_of_ble_eq_true rfl) rfl rfl ⟨(Nat.le_of_ble_eq_true rfl), (Nat.le_of_ble_eq_true rfl)⟩ (Nat.le_of_ble_eq_true rfl) (Nat.le_of_ble_eq_true rfl) (fun σ3 h => ?_)
    refine g_goto X 142 dX2_writeMark_72 (by decide) ?_
    exact g_vret X hr dX2_writeMark_142 h
  by_cases hc3 : x2 = 3
  · have h := h.2.2.2.1 hc3
    refine g_tabIn X 75 (60) dX2_writeMark_15 (by rw [hc3]; decide) (by rw [hc3]; decide) (by rw [hc3]; rfl) (by decide) ?_
    refine g_aload_n X 1 dX2_writeMark_75 rfl rfl ?_
    refine g_iload_n X 2 dX2_writeMark_76 rfl rfl ?_
    refine g_iconst X (4 : Int32) dX2_writeMark_77 (by decide) ?_
    refine g_callVV X (C := RX2) (T := TX2) (N := 6) (n := 2) [.int x1, .int (4 : Int32)] [] dX2_writeMark_78 (c_X2_writeSort l D cA sh hk0 h) q201 q203 q2 q51 q204 (rowSh.b0 hk0) (rowSh.k0 hk0) rfl ⟨rfl, by decide, by decide, by decide +kernel⟩ rfl rfl (Nat.le_of_ble_eq_true rfl) rfl rfl ⟨(Nat.le_of_ble_eq_true rfl), (Nat.le_of_ble_eq_true rfl)⟩ (Nat.le_of_ble_eq_true rfl) (Nat.le_of_ble_eq_true rfl) (fun σ4 h => ?_)
    refine g_goto X 142 dX2_writeMark_81 (by decide) ?_
    exact g_vret X hr dX2_writeMark_142 h
  by_cases hc4 : x2 = 4
  · have h := h.2.2.2.2.1 hc4
    refine g_tabIn X 84 (69) dX2_writeMark_15 (by rw [hc4]; decide) (by rw [hc4]; decide) (by rw [hc4]; rfl) (by decide) ?_
    refine g_lconst X (1 : Int64) dX2_writeMark_84 (by decide) ?_
    refine g_iload_n X 0 dX2_writeMark_85 rfl rfl ?_
    refine g_if_eq X 94 dX2_writeMark_86 (by decide) (fun hc => ?_) (fun hc => ?_)
    · have h := h.1 hc
      refine g_bipush X (53 : Int32) dX2_writeMark_94 (by decide) ?_
      refine g_weak [1, 2, 0] rfl ?_
      exact b_X2_writeMark_96 X hr hk0 h
    · have h := h.2 hc
      refine g_bipush X (24 : Int32) dX2_writeMark_89 (by decide) ?_
      refine g_goto X 96 dX2_writeMark_91 (by decide) ?_
      refine g_weak [1, 2, 0] rfl ?_
      exact b_X2_writeMark_96 X hr hk0 h
  have h := h.2.2.2.2.2 hc0 hc1 hc2 hc3 hc4
  refine g_tabOut X 123 dX2_writeMark_15 (by have e0 := lv_neT (a := 0) hc0 rfl; have e1 := lv_neT (a := 1) hc1 rfl; have e2 := lv_neT (a := 2) hc2 rfl; have e3 := lv_neT (a := 3) hc3 rfl; have e4 := lv_neT (a := 4) hc4 rfl; omega) (by decide) ?_
  refine g_aload_n X 1 dX2_writeMark_123 rfl rfl ?_
  refine g_iload_n X 2 dX2_writeMark_124 rfl rfl ?_
  refine g_lconst X (1 : Int64) dX2_writeMark_125 (by decide) ?_
  refine g_iload_n X 0 dX2_writeMark_126 rfl rfl ?_
  refine g_if_eq X 136 dX2_writeMark_127 (by decide) (fun hc => ?_) (fun hc => ?_)
  · have h := h.1 hc
    refine g_sipush X (-1074 : Int32) dX2_writeMark_136 (by decide) ?_
    refine g_weak [] rfl ?_
    exact b_X2_writeMark_139 X hr hk0 h
  · have h := h.2 hc
    refine g_sipush X (-149 : Int32) dX2_writeMark_130 (by decide) ?_
    refine g_goto X 139 dX2_writeMark_133 (by decide) ?_
    refine g_weak [] rfl ?_
    exact b_X2_writeMark_139 X hr hk0 h
def w_X2_writeMark (k0 : Nat) (Q : St → Prop) (x1 : Int32) (x2 : Int32) (σ : St) : Prop := ((¬ (gI σ k0 1) = (4 : Int32) → (w_X2_writeMark_13 k0 Q x1 x2 (0 : Int32) σ)) ∧ ((gI σ k0 1) = (4 : Int32) → (w_X2_writeMark_13 k0 Q x1 x2 (1 : Int32) σ)))
set_option maxRecDepth 100000 in
set_option maxHeartbeats 4000000 in
theorem b_X2_writeMark_0 {p : Program} {l : Launch} {e : Env} {s : State} {m : MethodId} {args : Array Value} {below : List Frame} {meth : Method} {c : Code} {D : va_G} {cA : Nat → ClassId} {A : Nat → Prop} {ad0 : Nat → Nat} {sh : SH} {k0 : Nat} {Q : St → Prop} {x1 : Int32} {x2 : Int32} {σ : St} (X : Cx p rmX2_writeMark s m args meth c cX2_writeMark 6 RX2 D cA A) (hr : meth.sig.returnType = none) (hk0 : rowSh sh k0) (h : w_X2_writeMark k0 Q x1 x2 σ) : G p l e rmX2_writeMark s m args below meth c 6 D cA A (MQ below (va_Qv Q (EndW D cA ad0 sh) A) args s 0 0 A) 0 0 (fun ad => ad = ad0) sh σ [(0, .ref k0), (1, .int x1), (2, .int x2)] 0 [] := by
  unfold w_X2_writeMark at h
  refine g_aload_n X 0 dX2_writeMark_0 rfl rfl ?_
  refine g_getI X (C := RX2) (T := TX2) (N := 6) 1 dX2_writeMark_1 (rowSh.b0 hk0) (rowSh.k0 hk0) rfl rfl inG2 (Nat.le_of_ble_eq_true rfl) rfl q133 ?_
  refine g_iconst X (4 : Int32) dX2_writeMark_4 (by decide) ?_
  refine g_icmp_ne X 12 dX2_writeMark_5 (by decide) (fun hc => ?_) (fun hc => ?_)
  · have h := h.1 hc
    refine g_iconst X (0 : Int32) dX2_writeMark_12 (by decide) ?_
    exact b_X2_writeMark_13 X hr hk0 h
  · have h := h.2 hc
    refine g_iconst X (1 : Int32) dX2_writeMark_8 (by decide) ?_
    refine g_goto X 13 dX2_writeMark_9 (by decide) ?_
    exact b_X2_writeMark_13 X hr hk0 h
theorem c_X2_writeMark (l : Launch) (D : va_G) (cA : Nat → ClassId) (sh : SH) {k0 : Nat} {x1 : Int32} {x2 : Int32} {σ : St} {Q : St → Prop} (hk0 : rowSh sh k0) (h : w_X2_writeMark k0 Q x1 x2 σ) : CtV l yX2_writeMark cX2_writeMark 6 (none) rmX2_writeMark D cA sh [.ref k0, .int x1, .int x2] σ Q := by
  refine CtV.of (own := RX2) rfl (by decide +kernel) [(0, .ref k0), (1, .int x1), (2, .int x2)] rfl (Nat.le_of_ble_eq_true rfl) ?_
  intro p e s m args below meth c ad0 A X hr
  exact b_X2_writeMark_0 X hr hk0 h
def rmX2_writeAll : Room := { frames := 1, cells := 0, slots := 0, locals := 40 }
def w_X2_writeAll (k0 : Nat) (Q : St → Prop) (k1 : Nat) (x2 : Int32) (x3 : Int32) (x4 : Int32) (σ : St) : Prop := ¬ x2 < 0 ∧ ¬ x3 < 0 ∧ ¬ x4 < 0 ∧ ix x2 + ix x4 ≤ 40 ∧ ix x3 + ix x4 ≤ 40 ∧ ∀ σ1 : St, σ1 = wJ σ (k0 + 1) (va_cpy (gJ σ (k1 + 1)) (gJ σ (k0 + 1)) (ix x2) (ix x3) (ix x4)) → ¬ x2 < 0 ∧ ¬ x3 < 0 ∧ ¬ x4 < 0 ∧ ix x2 + ix x4 ≤ 40 ∧ ix x3 + ix x4 ≤ 40 ∧ ∀ σ2 : St, σ2 = wI σ1 (k0 + 2) (va_cpy (gI σ1 (k1 + 2)) (gI σ1 (k0 + 2)) (ix x2) (ix x3) (ix x4)) → ¬ x2 < 0 ∧ ¬ x3 < 0 ∧ ¬ x4 < 0 ∧ ix x2 + ix x4 ≤ 40 ∧ ix x3 + ix x4 ≤ 40 ∧ ∀ σ3 : St, σ3 = wI σ2 (k0 + 3) (va_cpy (gI σ2 (k1 + 3)) (gI σ2 (k0 + 3)) (ix x2) (ix x3) (ix x4)) → (Q σ3)
set_option maxRecDepth 100000 in
set_option maxHeartbeats 4000000 in
theorem b_X2_writeAll_0 {p : Program} {l : Launch} {e : Env} {s : State} {m : MethodId} {args : Array Value} {below : List Frame} {meth : Method} {c : Code} {D : va_G} {cA : Nat → ClassId} {A : Nat → Prop} {ad0 : Nat → Nat} {sh : SH} {k0 : Nat} {Q : St → Prop} {k1 : Nat} {x2 : Int32} {x3 : Int32} {x4 : Int32} {σ : St} (X : Cx p rmX2_writeAll s m args meth c cX2_writeAll 5 RX2 D cA A) (hr : meth.sig.returnType = none) (hk0 : rowSh sh k0) (hk1 : rowSh sh k1) (h : w_X2_writeAll k0 Q k1 x2 x3 x4 σ) : G p l e rmX2_writeAll s m args below meth c 5 D cA A (MQ below (va_Qv Q (EndW D cA ad0 sh) A) args s 0 0 A) 0 0 (fun ad => ad = ad0) sh σ [(0, .ref k0), (1, .ref k1), (2, .int x2), (3, .int x3), (4, .int x4)] 0 [] := by
  unfold w_X2_writeAll at h
  refine g_aload_n X 1 dX2_writeAll_0 rfl rfl ?_
  refine g_getR X (C := RX2) (T := TX2) (N := 6) 3 dX2_writeAll_1 (rowSh.b0 hk1) (rowSh.k0 hk1) rfl rfl inG2 (Nat.le_of_ble_eq_true rfl) rfl (rowSh.r3 hk1) q137 ?_
  refine g_iload_n X 2 dX2_writeAll_4 rfl rfl ?_
  refine g_aload_n X 0 dX2_writeAll_5 rfl rfl ?_
  refine g_getR X (C := RX2) (T := TX2) (N := 6) 3 dX2_writeAll_6 (rowSh.b0 hk0) (rowSh.k0 hk0) rfl rfl inG2 (Nat.le_of_ble_eq_true rfl) rfl (rowSh.r3 hk0) q137 ?_
  refine g_iload_n X 3 dX2_writeAll_9 rfl rfl ?_
  refine g_iload X 4 dX2_writeAll_10 rfl ?_
  obtain ⟨hc1, hc2, hc3, hc4, hc5, h⟩ := h
  refine g_copyl X dX2_writeAll_12 q268 q270 q269 q58 (rowSh.b1 hk1) (rowSh.k1 hk1) (rowSh.b1 hk0) (rowSh.k1 hk0) hc1 hc2 hc3 hc4 hc5 (Nat.le_of_ble_eq_true rfl) (Nat.le_of_ble_eq_true rfl) ?_
  refine g_nameS (fun σ1 eσ1 => ?_)
  have h := h σ1 eσ1
  refine g_aload_n X 1 dX2_writeAll_15 rfl rfl ?_
  refine g_getR X (C := RX2) (T := TX2) (N := 6) 4 dX2_writeAll_16 (rowSh.b0 hk1) (rowSh.k0 hk1) rfl rfl inG2 (Nat.le_of_ble_eq_true rfl) rfl (rowSh.r4 hk1) q140 ?_
  refine g_iload_n X 2 dX2_writeAll_19 rfl rfl ?_
  refine g_aload_n X 0 dX2_writeAll_20 rfl rfl ?_
  refine g_getR X (C := RX2) (T := TX2) (N := 6) 4 dX2_writeAll_21 (rowSh.b0 hk0) (rowSh.k0 hk0) rfl rfl inG2 (Nat.le_of_ble_eq_true rfl) rfl (rowSh.r4 hk0) q140 ?_
  refine g_iload_n X 3 dX2_writeAll_24 rfl rfl ?_
  refine g_iload X 4 dX2_writeAll_25 rfl ?_
  obtain ⟨hc1, hc2, hc3, hc4, hc5, h⟩ := h
  refine g_copyi X dX2_writeAll_27 q268 q270 q269 q58 (rowSh.b2 hk1) (rowSh.k2 hk1) (rowSh.b2 hk0) (rowSh.k2 hk0) hc1 hc2 hc3 hc4 hc5 (Nat.le_of_ble_eq_true rfl) (Nat.le_of_ble_eq_true rfl) ?_
  refine g_nameS (fun σ2 eσ2 => ?_)
  have h := h σ2 eσ2
  refine g_aload_n X 1 dX2_writeAll_30 rfl rfl ?_
  refine g_getR X (C := RX2) (T := TX2) (N := 6) 5 dX2_writeAll_31 (rowSh.b0 hk1) (rowSh.k0 hk1) rfl rfl inG2 (Nat.le_of_ble_eq_true rfl) rfl (rowSh.r5 hk1) q142 ?_
  refine g_iload_n X 2 dX2_writeAll_34 rfl rfl ?_
  refine g_aload_n X 0 dX2_writeAll_35 rfl rfl ?_
  refine g_getR X (C := RX2) (T := TX2) (N := 6) 5 dX2_writeAll_36 (rowSh.b0 hk0) (rowSh.k0 hk0) rfl rfl inG2 (Nat.le_of_ble_eq_true rfl) rfl (rowSh.r5 hk0) q142 ?_
  refine g_iload_n X 3 dX2_writeAll_39 rfl rfl ?_
  refine g_iload X 4 dX2_writeAll_40 rfl ?_
  obtain ⟨hc1, hc2, hc3, hc4, hc5, h⟩ := h
  refine g_copyi X dX2_writeAll_42 q268 q270 q269 q58 (rowSh.b3 hk1) (rowSh.k3 hk1) (rowSh.b3 hk0) (rowSh.k3 hk0) hc1 hc2 hc3 hc4 hc5 (Nat.le_of_ble_eq_true rfl) (Nat.le_of_ble_eq_true rfl) ?_
  refine g_nameS (fun σ3 eσ3 => ?_)
  have h := h σ3 eσ3
  exact g_vret X hr dX2_writeAll_45 h
theorem c_X2_writeAll (l : Launch) (D : va_G) (cA : Nat → ClassId) (sh : SH) {k0 : Nat} {k1 : Nat} {x2 : Int32} {x3 : Int32} {x4 : Int32} {σ : St} {Q : St → Prop} (hk0 : rowSh sh k0) (hk1 : rowSh sh k1) (h : w_X2_writeAll k0 Q k1 x2 x3 x4 σ) : CtV l yX2_writeAll cX2_writeAll 5 (none) rmX2_writeAll D cA sh [.ref k0, .ref k1, .int x2, .int x3, .int x4] σ Q := by
  refine CtV.of (own := RX2) rfl (by decide +kernel) [(0, .ref k0), (1, .ref k1), (2, .int x2), (3, .int x3), (4, .int x4)] rfl (Nat.le_of_ble_eq_true rfl) ?_
  intro p e s m args below meth c ad0 A X hr
  exact b_X2_writeAll_0 X hr hk0 hk1 h
def rmX2_topPower : Room := { frames := 2, cells := 0, slots := 0, locals := 46 }
def w_X2_topPower_8 (Q : Int32 → St → Prop) : Nat → UInt64 → Int32 → Int32 → St → Prop
  | 0, _, _, _, _ => False
  | n + 1, x0, x2, x3, σ => ((x3 ≤ 0 → (Q x2 σ)) ∧ (¬ x3 ≤ 0 → ∀ y1 : Int32, y1 = (x2 + x3) → (((1024 : Int32) ≤ y1 → ∀ y2 : Int32, y2 = (x3 >>> ((1 : Int32) &&& 31)) → (w_X2_topPower_8 Q n x0 x2 y2 σ)) ∧ (¬ (1024 : Int32) ≤ y1 → w_X4_power (fun r4 σ3 => (((dcmpF x0 r4 .l) < 0 → ∀ y5 : Int32, y5 = (x3 >>> ((1 : Int32) &&& 31)) → (w_X2_topPower_8 Q n x0 x2 y5 σ3)) ∧ (¬ (dcmpF x0 r4 .l) < 0 → ∀ y6 : Int32, y6 = (x3 >>> ((1 : Int32) &&& 31)) → (w_X2_topPower_8 Q n x0 y1 y6 σ3)))) y1 σ))))
set_option maxRecDepth 100000 in
set_option maxHeartbeats 4000000 in
theorem b_X2_topPower_8 {p : Program} {l : Launch} {e : Env} {s : State} {m : MethodId} {args : Array Value} {below : List Frame} {meth : Method} {c : Code} {D : va_G} {cA : Nat → ClassId} {A : Nat → Prop} {ad0 : Nat → Nat} {sh : SH} {Q : Int32 → St → Prop} (X : Cx p rmX2_topPower s m args meth c cX2_topPower 5 RX2 D cA A) (hr : meth.sig.returnType = some .int) : ∀ (n : Nat) (x0 : UInt64) (x2 : Int32) (x3 : Int32) (σ : St), w_X2_topPower_8 Q n x0 x2 x3 σ → G p l e rmX2_topPower s m args below meth c 5 D cA A (MQ below (va_Qi Q (EndW D cA ad0 sh) A) args s 0 0 A) 0 0 (fun ad => ad = ad0) sh σ [(0, .double x0), (2, .int x2), (3, .int x3)] 8 [] := by
  intro n
  induction n with
  | zero => intro x0 x2 x3 σ h; exact h.elim
  | succ n ih =>
    intro x0 x2 x3 σ h
    rw [w_X2_topPower_8] at h
    refine g_iload_n X 2 dX2_topPower_8 rfl rfl ?_
    refine g_if_le X 45 dX2_topPower_9 (by decide) (fun hc => ?_) (fun hc => ?_)
    · have h := h.1 hc
      refine g_iload_n X 1 dX2_topPower_45 rfl rfl ?_
      exact g_iret X hr dX2_topPower_46 rfl h
    · have h := h.2 hc
      refine g_iload_n X 1 dX2_topPower_12 rfl rfl ?_
      refine g_iload_n X 2 dX2_topPower_13 rfl rfl ?_
      refine g_iadd X dX2_topPower_14 ?_
      refine g_nameI (fun y1 ey1 => ?_)
      have h := h y1 ey1
      refine g_istore X [(4, .int y1), (0, .double x0), (2, .int x2), (3, .int x3)] dX2_topPower_15 (Nat.le_of_ble_eq_true rfl) rfl ?_
      refine g_iload X 0 dX2_topPower_17 rfl ?_
      refine g_sipush X (1024 : Int32) dX2_topPower_19 (by decide) ?_
      refine g_icmp_ge X 38 dX2_topPower_22 (by decide) (fun hc => ?_) (fun hc => ?_)
      · have h := h.1 hc
        refine g_iload_n X 3 dX2_topPower_38 rfl rfl ?_
        refine g_iconst X (1 : Int32) dX2_topPower_39 (by decide) ?_
        refine g_ishr X dX2_topPower_40 ?_
        refine g_nameI (fun y2 ey2 => ?_)
        have h := h y2 ey2
        refine g_istore_n X [(3, .int y2), (4, .int y1), (0, .double x0), (2, .int x2)] dX2_topPower_41 rfl (Nat.le_of_ble_eq_true rfl) rfl ?_
        refine g_goto X 8 dX2_topPower_42 (by decide) ?_
        refine g_weak [2, 3, 0] rfl ?_
        exact ih _ _ _ _ h
      · have h := h.2 hc
        refine g_dload_n X 1 dX2_topPower_25 rfl rfl ?_
        refine g_iload X 0 dX2_topPower_26 rfl ?_
        refine g_callND X (host := "LongSums") (n := 1) [.int y1] [.double x0] dX2_topPower_28 (c_X4_power l D cA sh h) (nw 292 (by decide +kernel) rfl) q293 q47 q294 ⟨by decide, by decide, by decide +kernel⟩ rfl rfl (Nat.le_of_ble_eq_true rfl) rfl rfl ⟨(Nat.le_of_ble_eq_true rfl), (Nat.le_of_ble_eq_true rfl)⟩ (Nat.le_of_ble_eq_true rfl) (Nat.le_of_ble_eq_true rfl) (fun r4 σ3 h => ?_)
        refine g_dcmp X dX2_topPower_31 ?_
        refine g_if_lt X 38 dX2_topPower_32 (by decide) (fun hc => ?_) (fun hc => ?_)
        · have h := h.1 hc
          refine g_iload_n X 3 dX2_topPower_38 rfl rfl ?_
          refine g_iconst X (1 : Int32) dX2_topPower_39 (by decide) ?_
          refine g_ishr X dX2_topPower_40 ?_
          refine g_nameI (fun y5 ey5 => ?_)
          have h := h y5 ey5
          refine g_istore_n X [(3, .int y5), (4, .int y1), (0, .double x0), (2, .int x2)] dX2_topPower_41 rfl (Nat.le_of_ble_eq_true rfl) rfl ?_
          refine g_goto X 8 dX2_topPower_42 (by decide) ?_
          refine g_weak [2, 3, 0] rfl ?_
          exact ih _ _ _ _ h
        · have h := h.2 hc
          refine g_iload X 0 dX2_topPower_35 rfl ?_
          refine g_istore_n X [(2, .int y1), (4, .int y1), (0, .double x0), (3, .int x3)] dX2_topPower_37 rfl (Nat.le_of_ble_eq_true rfl) rfl ?_
          refine g_iload_n X 3 dX2_topPower_38 rfl rfl ?_
          refine g_iconst X (1 : Int32) dX2_topPower_39 (by decide) ?_
          refine g_ishr X dX2_topPower_40 ?_
          refine g_nameI (fun y6 ey6 => ?_)
          have h := h y6 ey6
          refine g_istore_n X [(3, .int y6), (2, .int y1), (4, .int y1), (0, .double x0)] dX2_topPower_41 rfl (Nat.le_of_ble_eq_true rfl) rfl ?_
          refine g_goto X 8 dX2_topPower_42 (by decide) ?_
          refine g_weak [3, 1, 0] rfl ?_
          exact ih _ _ _ _ h
def w_X2_topPower (Q : Int32 → St → Prop) (x0 : UInt64) (σ : St) : Prop := (∃ fu7 : Nat, w_X2_topPower_8 Q fu7 x0 (-1074 : Int32) (2048 : Int32) σ)
set_option maxRecDepth 100000 in
set_option maxHeartbeats 4000000 in
theorem b_X2_topPower_0 {p : Program} {l : Launch} {e : Env} {s : State} {m : MethodId} {args : Array Value} {below : List Frame} {meth : Method} {c : Code} {D : va_G} {cA : Nat → ClassId} {A : Nat → Prop} {ad0 : Nat → Nat} {sh : SH} {Q : Int32 → St → Prop} {x0 : UInt64} {σ : St} (X : Cx p rmX2_topPower s m args meth c cX2_topPower 5 RX2 D cA A) (hr : meth.sig.returnType = some .int) (h : w_X2_topPower Q x0 σ) : G p l e rmX2_topPower s m args below meth c 5 D cA A (MQ below (va_Qi Q (EndW D cA ad0 sh) A) args s 0 0 A) 0 0 (fun ad => ad = ad0) sh σ [(0, .double x0)] 0 [] := by
  unfold w_X2_topPower at h
  refine g_sipush X (-1074 : Int32) dX2_topPower_0 (by decide) ?_
  refine g_istore_n X [(2, .int (-1074 : Int32)), (0, .double x0)] dX2_topPower_3 rfl (Nat.le_of_ble_eq_true rfl) rfl ?_
  refine g_sipush X (2048 : Int32) dX2_topPower_4 (by decide) ?_
  refine g_istore_n X [(3, .int (2048 : Int32)), (2, .int (-1074 : Int32)), (0, .double x0)] dX2_topPower_7 rfl (Nat.le_of_ble_eq_true rfl) rfl ?_
  refine g_weak [2, 1, 0] rfl ?_
  obtain ⟨fu7, h⟩ := h
  exact b_X2_topPower_8 X hr fu7 _ _ _ _ h
theorem c_X2_topPower (l : Launch) (D : va_G) (cA : Nat → ClassId) (sh : SH) {x0 : UInt64} {σ : St} {Q : Int32 → St → Prop} (h : w_X2_topPower Q x0 σ) : CtI l yX2_topPower cX2_topPower 5 (some .int) rmX2_topPower D cA sh [.double x0] σ Q := by
  refine CtI.of (own := RX2) rfl (by decide +kernel) [(0, .double x0)] rfl (Nat.le_of_ble_eq_true rfl) ?_
  intro p e s m args below meth c ad0 A X hr
  exact b_X2_topPower_0 X hr  h
def rmX2_writeDouble : Room := { frames := 3, cells := 0, slots := 0, locals := 70 }
def w_X2_writeDouble_101 (k0 : Nat) (Q : St → Prop) (x6 : Int32) (s0 : Int64) (s1 : Int32) (σ : St) : Prop := w_X2_writeNumber k0 (fun σ9 => (Q σ9)) s1 s0 x6 σ
set_option maxRecDepth 100000 in
set_option maxHeartbeats 4000000 in
theorem b_X2_writeDouble_101 {p : Program} {l : Launch} {e : Env} {s : State} {m : MethodId} {args : Array Value} {below : List Frame} {meth : Method} {c : Code} {D : va_G} {cA : Nat → ClassId} {A : Nat → Prop} {ad0 : Nat → Nat} {sh : SH} {k0 : Nat} {Q : St → Prop} {x6 : Int32} {s0 : Int64} {s1 : Int32} {σ : St} (X : Cx p rmX2_writeDouble s m args meth c cX2_writeDouble 9 RX2 D cA A) (hr : meth.sig.returnType = none) (hk0 : rowSh sh k0) (h : w_X2_writeDouble_101 k0 Q x6 s0 s1 σ) : G p l e rmX2_writeDouble s m args below meth c 9 D cA A (MQ below (va_Qv Q (EndW D cA ad0 sh) A) args s 0 0 A) 0 0 (fun ad => ad = ad0) sh σ [(6, .int x6)] 101 [.long s0, .int s1, .ref k0] := by
  unfold w_X2_writeDouble_101 at h
  refine g_iload X 0 dX2_writeDouble_101 rfl ?_
  refine g_callVV X (C := RX2) (T := TX2) (N := 6) (n := 3) [.int s1, .long s0, .int x6] [] dX2_writeDouble_103 (c_X2_writeNumber l D cA sh hk0 h) q171 q173 q0 q51 q174 (rowSh.b0 hk0) (rowSh.k0 hk0) rfl ⟨rfl, by decide, by decide, by decide +kernel⟩ rfl rfl (Nat.le_of_ble_eq_true rfl) rfl rfl ⟨(Nat.le_of_ble_eq_true rfl), (Nat.le_of_ble_eq_true rfl)⟩ (Nat.le_of_ble_eq_true rfl) (Nat.le_of_ble_eq_true rfl) (fun σ9 h => ?_)
  exact g_vret X hr dX2_writeDouble_106 h
def w_X2_writeDouble_37 (k0 : Nat) (Q : St → Prop) (s0 : Int32) (s1 : Int32) (σ : St) : Prop := w_X2_writeSort k0 (fun σ11 => (Q σ11)) s1 s0 σ
set_option maxRecDepth 100000 in
set_option maxHeartbeats 4000000 in
theorem b_X2_writeDouble_37 {p : Program} {l : Launch} {e : Env} {s : State} {m : MethodId} {args : Array Value} {below : List Frame} {meth : Method} {c : Code} {D : va_G} {cA : Nat → ClassId} {A : Nat → Prop} {ad0 : Nat → Nat} {sh : SH} {k0 : Nat} {Q : St → Prop} {s0 : Int32} {s1 : Int32} {σ : St} (X : Cx p rmX2_writeDouble s m args meth c cX2_writeDouble 9 RX2 D cA A) (hr : meth.sig.returnType = none) (hk0 : rowSh sh k0) (h : w_X2_writeDouble_37 k0 Q s0 s1 σ) : G p l e rmX2_writeDouble s m args below meth c 9 D cA A (MQ below (va_Qv Q (EndW D cA ad0 sh) A) args s 0 0 A) 0 0 (fun ad => ad = ad0) sh σ [] 37 [.int s0, .int s1, .ref k0] := by
  unfold w_X2_writeDouble_37 at h
  refine g_callVV X (C := RX2) (T := TX2) (N := 6) (n := 2) [.int s1, .int s0] [] dX2_writeDouble_37 (c_X2_writeSort l D cA sh hk0 h) q201 q203 q2 q51 q204 (rowSh.b0 hk0) (rowSh.k0 hk0) rfl ⟨rfl, by decide, by decide, by decide +kernel⟩ rfl rfl (Nat.le_of_ble_eq_true rfl) rfl rfl ⟨(Nat.le_of_ble_eq_true rfl), (Nat.le_of_ble_eq_true rfl)⟩ (Nat.le_of_ble_eq_true rfl) (Nat.le_of_ble_eq_true rfl) (fun σ11 h => ?_)
  exact g_vret X hr dX2_writeDouble_40 h
def w_X2_writeDouble_12 (k0 : Nat) (Q : St → Prop) (x1 : Int32) (x2 : UInt64) (s0 : UInt64) (σ : St) : Prop := w_X4_greatest (fun r2 σ1 => (((dcmpF s0 r2 .l) ≤ 0 → ((¬ (dcmpF s0 FP.dconst0 .l) = 0 → w_X2_topPower (fun r4 σ3 => ∀ y5 : Int32, y5 = (if ((r4 - (53 : Int32)) + (1 : Int32)) < (-1074 : Int32) then (-1074 : Int32) else ((r4 - (53 : Int32)) + (1 : Int32))) → w_X4_power (fun r7 σ6 => vf_n64 (FP.ddiv s0 r7) ∧ ∀ y8 : Int64, y8 = (FP.d2l (FP.ddiv s0 r7)) → ((0 ≤ (dcmpF x2 FP.dconst0 .g) → (w_X2_writeDouble_101 k0 Q y5 y8 x1 σ6)) ∧ (¬ 0 ≤ (dcmpF x2 FP.dconst0 .g) → (w_X2_writeDouble_101 k0 Q y5 (-y8) x1 σ6)))) y5 σ3) s0 σ1) ∧ ((dcmpF s0 FP.dconst0 .l) = 0 → w_X2_writeNumber k0 (fun σ10 => (Q σ10)) x1 (0 : Int64) (0 : Int32) σ1))) ∧ (¬ (dcmpF s0 r2 .l) ≤ 0 → ((0 ≤ (dcmpF x2 FP.dconst0 .g) → (w_X2_writeDouble_37 k0 Q (1 : Int32) x1 σ1)) ∧ (¬ 0 ≤ (dcmpF x2 FP.dconst0 .g) → (w_X2_writeDouble_37 k0 Q (2 : Int32) x1 σ1)))))) (0 : Int32) σ
set_option maxRecDepth 100000 in
set_option maxHeartbeats 4000000 in
theorem b_X2_writeDouble_12 {p : Program} {l : Launch} {e : Env} {s : State} {m : MethodId} {args : Array Value} {below : List Frame} {meth : Method} {c : Code} {D : va_G} {cA : Nat → ClassId} {A : Nat → Prop} {ad0 : Nat → Nat} {sh : SH} {k0 : Nat} {Q : St → Prop} {x1 : Int32} {x2 : UInt64} {s0 : UInt64} {σ : St} (X : Cx p rmX2_writeDouble s m args meth c cX2_writeDouble 9 RX2 D cA A) (hr : meth.sig.returnType = none) (hk0 : rowSh sh k0) (h : w_X2_writeDouble_12 k0 Q x1 x2 s0 σ) : G p l e rmX2_writeDouble s m args below meth c 9 D cA A (MQ below (va_Qv Q (EndW D cA ad0 sh) A) args s 0 0 A) 0 0 (fun ad => ad = ad0) sh σ [(0, .ref k0), (1, .int x1), (2, .double x2)] 12 [.double s0] := by
  unfold w_X2_writeDouble_12 at h
  refine g_dstore X [(4, .double s0), (0, .ref k0), (1, .int x1), (2, .double x2)] dX2_writeDouble_12 (Nat.le_of_ble_eq_true rfl) rfl ?_
  refine g_dload X 0 dX2_writeDouble_14 rfl ?_
  refine g_iconst X (0 : Int32) dX2_writeDouble_16 (by decide) ?_
  refine g_callND X (host := "LongSums") (n := 1) [.int (0 : Int32)] [.double s0] dX2_writeDouble_17 (c_X4_greatest l D cA sh h) (nw 405 (by decide +kernel) rfl) q406 q47 q407 ⟨by decide, by decide, by decide +kernel⟩ rfl rfl (Nat.le_of_ble_eq_true rfl) rfl rfl ⟨(Nat.le_of_ble_eq_true rfl), (Nat.le_of_ble_eq_true rfl)⟩ (Nat.le_of_ble_eq_true rfl) (Nat.le_of_ble_eq_true rfl) (fun r2 σ1 h => ?_)
  refine g_dcmp X dX2_writeDouble_20 ?_
  refine g_if_le X 41 dX2_writeDouble_21 (by decide) (fun hc => ?_) (fun hc => ?_)
  · have h := h.1 hc
    refine g_dload X 0 dX2_writeDouble_41 rfl ?_
    refine g_dconst0 X dX2_writeDouble_43 ?_
    refine g_dcmp X dX2_writeDouble_44 ?_
    refine g_if_ne X 56 dX2_writeDouble_45 (by decide) (fun hc => ?_) (fun hc => ?_)
    · have h := h.1 hc
      refine g_dload X 0 dX2_writeDouble_56 rfl ?_
      refine g_callSI X (n := 1) [.double s0] [] dX2_writeDouble_58 (c_X2_topPower l D cA sh h) q414 q415 q51 q416 ⟨by decide, by decide, by decide +kernel⟩ rfl rfl (Nat.le_of_ble_eq_true rfl) rfl rfl ⟨(Nat.le_of_ble_eq_true rfl), (Nat.le_of_ble_eq_true rfl)⟩ (Nat.le_of_ble_eq_true rfl) (Nat.le_of_ble_eq_true rfl) (fun r4 σ3 h => ?_)
      refine g_bipush X (53 : Int32) dX2_writeDouble_61 (by decide) ?_
      refine g_isub X dX2_writeDouble_63 ?_
      refine g_iconst X (1 : Int32) dX2_writeDouble_64 (by decide) ?_
      refine g_iadd X dX2_writeDouble_65 ?_
      refine g_sipush X (-1074 : Int32) dX2_writeDouble_66 (by decide) ?_
      refine g_mmax X dX2_writeDouble_69 q192 q193 q53 q194 (Nat.le_of_ble_eq_true rfl) (Nat.le_of_ble_eq_true rfl) (Nat.le_of_ble_eq_true rfl) (Nat.le_of_ble_eq_true rfl) ?_
      refine g_nameI (fun y5 ey5 => ?_)
      have h := h y5 ey5
      refine g_istore X [(6, .int y5), (4, .double s0), (0, .ref k0), (1, .int x1), (2, .double x2)] dX2_writeDouble_72 (Nat.le_of_ble_eq_true rfl) rfl ?_
      refine g_dload X 1 dX2_writeDouble_74 rfl ?_
      refine g_iload X 0 dX2_writeDouble_76 rfl ?_
      refine g_callND X (host := "LongSums") (n := 1) [.int y5] [.double s0] dX2_writeDouble_78 (c_X4_power l D cA sh h) (nw 292 (by decide +kernel) rfl) q293 q47 q294 ⟨by decide, by decide, by decide +kernel⟩ rfl rfl (Nat.le_of_ble_eq_true rfl) rfl rfl ⟨(Nat.le_of_ble_eq_true rfl), (Nat.le_of_ble_eq_true rfl)⟩ (Nat.le_of_ble_eq_true rfl) (Nat.le_of_ble_eq_true rfl) (fun r7 σ6 h => ?_)
      obtain ⟨hc, h⟩ := h
      refine g_ddiv X dX2_writeDouble_81 hc ?_
      refine g_d2l X dX2_writeDouble_82 ?_
      refine g_nameJ (fun y8 ey8 => ?_)
      have h := h y8 ey8
      refine g_lstore X [(7, .long y8), (6, .int y5), (4, .double s0), (0, .ref k0), (1, .int x1), (2, .double x2)] dX2_writeDouble_83 (Nat.le_of_ble_eq_true rfl) rfl ?_
      refine g_aload_n X 3 dX2_writeDouble_85 rfl rfl ?_
      refine g_iload_n X 4 dX2_writeDouble_86 rfl rfl ?_
      refine g_dload_n X 5 dX2_writeDouble_87 rfl rfl ?_
      refine g_dconst0 X dX2_writeDouble_88 ?_
      refine g_dcmp X dX2_writeDouble_89 ?_
      refine g_if_ge X 99 dX2_writeDouble_90 (by decide) (fun hc => ?_) (fun hc => ?_)
      · have h := h.1 hc
        refine g_lload X 0 dX2_writeDouble_99 rfl ?_
        refine g_weak [1] rfl ?_
        exact b_X2_writeDouble_101 X hr hk0 h
      · have h := h.2 hc
        refine g_lload X 0 dX2_writeDouble_93 rfl ?_
        refine g_lneg X dX2_writeDouble_95 ?_
        refine g_goto X 101 dX2_writeDouble_96 (by decide) ?_
        refine g_weak [1] rfl ?_
        exact b_X2_writeDouble_101 X hr hk0 h
    · have h := h.2 hc
      refine g_aload_n X 1 dX2_writeDouble_48 rfl rfl ?_
      refine g_iload_n X 2 dX2_writeDouble_49 rfl rfl ?_
      refine g_lconst X (0 : Int64) dX2_writeDouble_50 (by decide) ?_
      refine g_iconst X (0 : Int32) dX2_writeDouble_51 (by decide) ?_
      refine g_callVV X (C := RX2) (T := TX2) (N := 6) (n := 3) [.int x1, .long (0 : Int64), .int (0 : Int32)] [] dX2_writeDouble_52 (c_X2_writeNumber l D cA sh hk0 h) q171 q173 q0 q51 q174 (rowSh.b0 hk0) (rowSh.k0 hk0) rfl ⟨rfl, by decide, by decide, by decide +kernel⟩ rfl rfl (Nat.le_of_ble_eq_true rfl) rfl rfl ⟨(Nat.le_of_ble_eq_true rfl), (Nat.le_of_ble_eq_true rfl)⟩ (Nat.le_of_ble_eq_true rfl) (Nat.le_of_ble_eq_true rfl) (fun σ10 h => ?_)
      exact g_vret X hr dX2_writeDouble_55 h
  · have h := h.2 hc
    refine g_aload_n X 1 dX2_writeDouble_24 rfl rfl ?_
    refine g_iload_n X 2 dX2_writeDouble_25 rfl rfl ?_
    refine g_dload_n X 3 dX2_writeDouble_26 rfl rfl ?_
    refine g_dconst0 X dX2_writeDouble_27 ?_
    refine g_dcmp X dX2_writeDouble_28 ?_
    refine g_if_ge X 36 dX2_writeDouble_29 (by decide) (fun hc => ?_) (fun hc => ?_)
    · have h := h.1 hc
      refine g_iconst X (1 : Int32) dX2_writeDouble_36 (by decide) ?_
      refine g_weak [] rfl ?_
      exact b_X2_writeDouble_37 X hr hk0 h
    · have h := h.2 hc
      refine g_iconst X (2 : Int32) dX2_writeDouble_32 (by decide) ?_
      refine g_goto X 37 dX2_writeDouble_33 (by decide) ?_
      refine g_weak [] rfl ?_
      exact b_X2_writeDouble_37 X hr hk0 h
def w_X2_writeDouble (k0 : Nat) (Q : St → Prop) (x1 : Int32) (x2 : UInt64) (σ : St) : Prop := ((0 ≤ (dcmpF x2 FP.dconst0 .g) → (w_X2_writeDouble_12 k0 Q x1 x2 x2 σ)) ∧ (¬ 0 ≤ (dcmpF x2 FP.dconst0 .g) → (w_X2_writeDouble_12 k0 Q x1 x2 (FP.dneg x2) σ)))
set_option maxRecDepth 100000 in
set_option maxHeartbeats 4000000 in
theorem b_X2_writeDouble_0 {p : Program} {l : Launch} {e : Env} {s : State} {m : MethodId} {args : Array Value} {below : List Frame} {meth : Method} {c : Code} {D : va_G} {cA : Nat → ClassId} {A : Nat → Prop} {ad0 : Nat → Nat} {sh : SH} {k0 : Nat} {Q : St → Prop} {x1 : Int32} {x2 : UInt64} {σ : St} (X : Cx p rmX2_writeDouble s m args meth c cX2_writeDouble 9 RX2 D cA A) (hr : meth.sig.returnType = none) (hk0 : rowSh sh k0) (h : w_X2_writeDouble k0 Q x1 x2 σ) : G p l e rmX2_writeDouble s m args below meth c 9 D cA A (MQ below (va_Qv Q (EndW D cA ad0 sh) A) args s 0 0 A) 0 0 (fun ad => ad = ad0) sh σ [(0, .ref k0), (1, .int x1), (2, .double x2)] 0 [] := by
  unfold w_X2_writeDouble at h
  refine g_dload_n X 2 dX2_writeDouble_0 rfl rfl ?_
  refine g_dconst0 X dX2_writeDouble_1 ?_
  refine g_dcmp X dX2_writeDouble_2 ?_
  refine g_if_ge X 11 dX2_writeDouble_3 (by decide) (fun hc => ?_) (fun hc => ?_)
  · have h := h.1 hc
    refine g_dload_n X 2 dX2_writeDouble_11 rfl rfl ?_
    exact b_X2_writeDouble_12 X hr hk0 h
  · have h := h.2 hc
    refine g_dload_n X 2 dX2_writeDouble_6 rfl rfl ?_
    refine g_dneg X dX2_writeDouble_7 ?_
    refine g_goto X 12 dX2_writeDouble_8 (by decide) ?_
    exact b_X2_writeDouble_12 X hr hk0 h
theorem c_X2_writeDouble (l : Launch) (D : va_G) (cA : Nat → ClassId) (sh : SH) {k0 : Nat} {x1 : Int32} {x2 : UInt64} {σ : St} {Q : St → Prop} (hk0 : rowSh sh k0) (h : w_X2_writeDouble k0 Q x1 x2 σ) : CtV l yX2_writeDouble cX2_writeDouble 9 (none) rmX2_writeDouble D cA sh [.ref k0, .int x1, .double x2] σ Q := by
  refine CtV.of (own := RX2) rfl (by decide +kernel) [(0, .ref k0), (1, .int x1), (2, .double x2)] rfl (Nat.le_of_ble_eq_true rfl) ?_
  intro p e s m args below meth c ad0 A X hr
  exact b_X2_writeDouble_0 X hr hk0 h
def rmX2_areOpposedEndless : Room := { frames := 1, cells := 0, slots := 0, locals := 20 }
def w_X2_areOpposedEndless_21 (Q : Int32 → St → Prop) (x0 : UInt64) (x2 : UInt64) (x4 : UInt64) (σ : St) : Prop := ((0 ≤ (dcmpF x0 (FP.dneg x4) .g) → (Q (0 : Int32) σ)) ∧ (¬ 0 ≤ (dcmpF x0 (FP.dneg x4) .g) → (((dcmpF x2 x4 .l) ≤ 0 → (Q (0 : Int32) σ)) ∧ (¬ (dcmpF x2 x4 .l) ≤ 0 → (Q (1 : Int32) σ)))))
set_option maxRecDepth 100000 in
set_option maxHeartbeats 4000000 in
theorem b_X2_areOpposedEndless_21 {p : Program} {l : Launch} {e : Env} {s : State} {m : MethodId} {args : Array Value} {below : List Frame} {meth : Method} {c : Code} {D : va_G} {cA : Nat → ClassId} {A : Nat → Prop} {ad0 : Nat → Nat} {sh : SH} {Q : Int32 → St → Prop} {x0 : UInt64} {x2 : UInt64} {x4 : UInt64} {σ : St} (X : Cx p rmX2_areOpposedEndless s m args meth c cX2_areOpposedEndless 6 RX2 D cA A) (hr : meth.sig.returnType = some .boolean) (h : w_X2_areOpposedEndless_21 Q x0 x2 x4 σ) : G p l e rmX2_areOpposedEndless s m args below meth c 6 D cA A (MQ below (va_Qi Q (EndW D cA ad0 sh) A) args s 0 0 A) 0 0 (fun ad => ad = ad0) sh σ [(0, .double x0), (2, .double x2), (4, .double x4)] 21 [] := by
  unfold w_X2_areOpposedEndless_21 at h
  refine g_dload_n X 0 dX2_areOpposedEndless_21 rfl rfl ?_
  refine g_dload X 2 dX2_areOpposedEndless_22 rfl ?_
  refine g_dneg X dX2_areOpposedEndless_24 ?_
  refine g_dcmp X dX2_areOpposedEndless_25 ?_
  refine g_if_ge X 40 dX2_areOpposedEndless_26 (by decide) (fun hc => ?_) (fun hc => ?_)
  · have h := h.1 hc
    refine g_iconst X (0 : Int32) dX2_areOpposedEndless_40 (by decide) ?_
    exact g_iret X hr dX2_areOpposedEndless_41 (by decide) h
  · have h := h.2 hc
    refine g_dload_n X 1 dX2_areOpposedEndless_29 rfl rfl ?_
    refine g_dload X 2 dX2_areOpposedEndless_30 rfl ?_
    refine g_dcmp X dX2_areOpposedEndless_32 ?_
    refine g_if_le X 40 dX2_areOpposedEndless_33 (by decide) (fun hc => ?_) (fun hc => ?_)
    · have h := h.1 hc
      refine g_iconst X (0 : Int32) dX2_areOpposedEndless_40 (by decide) ?_
      exact g_iret X hr dX2_areOpposedEndless_41 (by decide) h
    · have h := h.2 hc
      refine g_iconst X (1 : Int32) dX2_areOpposedEndless_36 (by decide) ?_
      refine g_goto X 41 dX2_areOpposedEndless_37 (by decide) ?_
      exact g_iret X hr dX2_areOpposedEndless_41 (by decide) h
def w_X2_areOpposedEndless (Q : Int32 → St → Prop) (x0 : UInt64) (x2 : UInt64) (σ : St) : Prop := w_X4_greatest (fun r2 σ1 => (((dcmpF x0 r2 .l) ≤ 0 → (w_X2_areOpposedEndless_21 Q x0 x2 r2 σ1)) ∧ (¬ (dcmpF x0 r2 .l) ≤ 0 → (((dcmpF x2 (FP.dneg r2) .g) < 0 → (Q (1 : Int32) σ1)) ∧ (¬ (dcmpF x2 (FP.dneg r2) .g) < 0 → (w_X2_areOpposedEndless_21 Q x0 x2 r2 σ1)))))) (0 : Int32) σ
set_option maxRecDepth 100000 in
set_option maxHeartbeats 4000000 in
theorem b_X2_areOpposedEndless_0 {p : Program} {l : Launch} {e : Env} {s : State} {m : MethodId} {args : Array Value} {below : List Frame} {meth : Method} {c : Code} {D : va_G} {cA : Nat → ClassId} {A : Nat → Prop} {ad0 : Nat → Nat} {sh : SH} {Q : Int32 → St → Prop} {x0 : UInt64} {x2 : UInt64} {σ : St} (X : Cx p rmX2_areOpposedEndless s m args meth c cX2_areOpposedEndless 6 RX2 D cA A) (hr : meth.sig.returnType = some .boolean) (h : w_X2_areOpposedEndless Q x0 x2 σ) : G p l e rmX2_areOpposedEndless s m args below meth c 6 D cA A (MQ below (va_Qi Q (EndW D cA ad0 sh) A) args s 0 0 A) 0 0 (fun ad => ad = ad0) sh σ [(0, .double x0), (2, .double x2)] 0 [] := by
  unfold w_X2_areOpposedEndless at h
  refine g_iconst X (0 : Int32) dX2_areOpposedEndless_0 (by decide) ?_
  refine g_callND X (host := "LongSums") (n := 1) [.int (0 : Int32)] [] dX2_areOpposedEndless_1 (c_X4_greatest l D cA sh h) (nw 405 (by decide +kernel) rfl) q406 q47 q407 ⟨by decide, by decide, by decide +kernel⟩ rfl rfl (Nat.le_of_ble_eq_true rfl) rfl rfl ⟨(Nat.le_of_ble_eq_true rfl), (Nat.le_of_ble_eq_true rfl)⟩ (Nat.le_of_ble_eq_true rfl) (Nat.le_of_ble_eq_true rfl) (fun r2 σ1 h => ?_)
  refine g_dstore X [(4, .double r2), (0, .double x0), (2, .double x2)] dX2_areOpposedEndless_4 (Nat.le_of_ble_eq_true rfl) rfl ?_
  refine g_dload_n X 1 dX2_areOpposedEndless_6 rfl rfl ?_
  refine g_dload X 0 dX2_areOpposedEndless_7 rfl ?_
  refine g_dcmp X dX2_areOpposedEndless_9 ?_
  refine g_if_le X 21 dX2_areOpposedEndless_10 (by decide) (fun hc => ?_) (fun hc => ?_)
  · have h := h.1 hc
    refine g_weak [1, 2, 0] rfl ?_
    exact b_X2_areOpposedEndless_21 X hr h
  · have h := h.2 hc
    refine g_dload_n X 2 dX2_areOpposedEndless_13 rfl rfl ?_
    refine g_dload X 0 dX2_areOpposedEndless_14 rfl ?_
    refine g_dneg X dX2_areOpposedEndless_16 ?_
    refine g_dcmp X dX2_areOpposedEndless_17 ?_
    refine g_if_lt X 36 dX2_areOpposedEndless_18 (by decide) (fun hc => ?_) (fun hc => ?_)
    · have h := h.1 hc
      refine g_iconst X (1 : Int32) dX2_areOpposedEndless_36 (by decide) ?_
      refine g_goto X 41 dX2_areOpposedEndless_37 (by decide) ?_
      exact g_iret X hr dX2_areOpposedEndless_41 (by decide) h
    · have h := h.2 hc
      refine g_weak [1, 2, 0] rfl ?_
      exact b_X2_areOpposedEndless_21 X hr h
theorem c_X2_areOpposedEndless (l : Launch) (D : va_G) (cA : Nat → ClassId) (sh : SH) {x0 : UInt64} {x2 : UInt64} {σ : St} {Q : Int32 → St → Prop} (h : w_X2_areOpposedEndless Q x0 x2 σ) : CtI l yX2_areOpposedEndless cX2_areOpposedEndless 6 (some .boolean) rmX2_areOpposedEndless D cA sh [.double x0, .double x2] σ Q := by
  refine CtI.of (own := RX2) rfl (by decide +kernel) [(0, .double x0), (2, .double x2)] rfl (Nat.le_of_ble_eq_true rfl) ?_
  intro p e s m args below meth c ad0 A X hr
  exact b_X2_areOpposedEndless_0 X hr  h
def rmX2_summedPlainly : Room := { frames := 3, cells := 0, slots := 0, locals := 67 }
def w_X2_summedPlainly_5 (k0 : Nat) (Q : UInt64 → St → Prop) : Nat → Int32 → Int32 → UInt64 → Int32 → St → Prop
  | 0, _, _, _, _, _ => False
  | n + 1, x1, x2, x3, x5, σ => (((x1 + x2) ≤ x5 → (Q x3 σ)) ∧ (¬ (x1 + x2) ≤ x5 → w_X2_asDouble k0 (fun r2 σ1 => vp_in x5 40 ∧ (((gI σ1 (k0 + 3) (ix x5)) = (3 : Int32) → (Q FP.dconst0 σ1)) ∧ (¬ (gI σ1 (k0 + 3) (ix x5)) = (3 : Int32) → w_X2_areOpposedEndless (fun r5 σ4 => ((r5 = 0 → vf_n64 (FP.dadd x3 r2) ∧ ∀ y6 : UInt64, y6 = (FP.dadd x3 r2) → ∀ y7 : Int32, y7 = x5 + (1 : Int32) → (w_X2_summedPlainly_5 k0 Q n x1 x2 y6 y7 σ4)) ∧ (¬ r5 = 0 → (Q FP.dconst0 σ4)))) x3 r2 σ1))) x5 σ))
set_option maxRecDepth 100000 in
set_option maxHeartbeats 4000000 in
theorem b_X2_summedPlainly_5 {p : Program} {l : Launch} {e : Env} {s : State} {m : MethodId} {args : Array Value} {below : List Frame} {meth : Method} {c : Code} {D : va_G} {cA : Nat → ClassId} {A : Nat → Prop} {ad0 : Nat → Nat} {sh : SH} {k0 : Nat} {Q : UInt64 → St → Prop} (X : Cx p rmX2_summedPlainly s m args meth c cX2_summedPlainly 8 RX2 D cA A) (hr : meth.sig.returnType = some .double) (hk0 : rowSh sh k0) : ∀ (n : Nat) (x1 : Int32) (x2 : Int32) (x3 : UInt64) (x5 : Int32) (σ : St), w_X2_summedPlainly_5 k0 Q n x1 x2 x3 x5 σ → G p l e rmX2_summedPlainly s m args below meth c 8 D cA A (MQ below (va_Qd Q (EndW D cA ad0 sh) A) args s 0 0 A) 0 0 (fun ad => ad = ad0) sh σ [(0, .ref k0), (1, .int x1), (2, .int x2), (3, .double x3), (5, .int x5)] 5 [] := by
  intro n
  induction n with
  | zero => intro x1 x2 x3 x5 σ h; exact h.elim
  | succ n ih =>
    intro x1 x2 x3 x5 σ h
    rw [w_X2_summedPlainly_5] at h
    refine g_iload X 4 dX2_summedPlainly_5 rfl ?_
    refine g_iload_n X 1 dX2_summedPlainly_7 rfl rfl ?_
    refine g_iload_n X 2 dX2_summedPlainly_8 rfl rfl ?_
    refine g_iadd X dX2_summedPlainly_9 ?_
    refine g_icmp_ge X 54 dX2_summedPlainly_10 (by decide) (fun hc => ?_) (fun hc => ?_)
    · have h := h.1 hc
      refine g_dload_n X 3 dX2_summedPlainly_54 rfl rfl ?_
      exact g_dret X hr dX2_summedPlainly_55 h
    · have h := h.2 hc
      refine g_aload_n X 0 dX2_summedPlainly_13 rfl rfl ?_
      refine g_iload X 4 dX2_summedPlainly_14 rfl ?_
      refine g_callVD X (C := RX2) (T := TX2) (N := 6) (n := 1) [.int x5] [] dX2_summedPlainly_16 (c_X2_asDouble l D cA sh hk0 h) q401 q284 q285 q51 q286 (rowSh.b0 hk0) (rowSh.k0 hk0) rfl ⟨rfl, by decide, by decide, by decide +kernel⟩ rfl rfl (Nat.le_of_ble_eq_true rfl) rfl rfl ⟨(Nat.le_of_ble_eq_true rfl), (Nat.le_of_ble_eq_true rfl)⟩ (Nat.le_of_ble_eq_true rfl) (Nat.le_of_ble_eq_true rfl) (fun r2 σ1 h => ?_)
      refine g_dstore X [(6, .double r2), (0, .ref k0), (1, .int x1), (2, .int x2), (3, .double x3), (5, .int x5)] dX2_summedPlainly_19 (Nat.le_of_ble_eq_true rfl) rfl ?_
      refine g_aload_n X 1 dX2_summedPlainly_21 rfl rfl ?_
      refine g_getR X (C := RX2) (T := TX2) (N := 6) 5 dX2_summedPlainly_22 (rowSh.b0 hk0) (rowSh.k0 hk0) rfl rfl inG2 (Nat.le_of_ble_eq_true rfl) rfl (rowSh.r5 hk0) q142 ?_
      refine g_iload X 5 dX2_summedPlainly_25 rfl ?_
      obtain ⟨hi3, h⟩ := h
      refine g_iald X dX2_summedPlainly_27 (rowSh.b3 hk0) (rowSh.k3 hk0) hi3 ?_
      refine g_iconst X (3 : Int32) dX2_summedPlainly_28 (by decide) ?_
      refine g_icmp_eq X 41 dX2_summedPlainly_29 (by decide) (fun hc => ?_) (fun hc => ?_)
      · have h := h.1 hc
        refine g_dconst0 X dX2_summedPlainly_41 ?_
        exact g_dret X hr dX2_summedPlainly_42 h
      · have h := h.2 hc
        refine g_dload_n X 4 dX2_summedPlainly_32 rfl rfl ?_
        refine g_dload X 0 dX2_summedPlainly_33 rfl ?_
        refine g_callSI X (n := 2) [.double x3, .double r2] [] dX2_summedPlainly_35 (c_X2_areOpposedEndless l D cA sh h) q402 q403 q51 q404 ⟨by decide, by decide, by decide +kernel⟩ rfl rfl (Nat.le_of_ble_eq_true rfl) rfl rfl ⟨(Nat.le_of_ble_eq_true rfl), (Nat.le_of_ble_eq_true rfl)⟩ (Nat.le_of_ble_eq_true rfl) (Nat.le_of_ble_eq_true rfl) (fun r5 σ4 h => ?_)
        refine g_if_eq X 43 dX2_summedPlainly_38 (by decide) (fun hc => ?_) (fun hc => ?_)
        · have h := h.1 hc
          refine g_dload_n X 4 dX2_summedPlainly_43 rfl rfl ?_
          refine g_dload X 0 dX2_summedPlainly_44 rfl ?_
          obtain ⟨hc, h⟩ := h
          refine g_dadd X dX2_summedPlainly_46 hc ?_
          refine g_nameD (fun y6 ey6 => ?_)
          have h := h y6 ey6
          refine g_dstore_n X [(3, .double y6), (6, .double r2), (0, .ref k0), (1, .int x1), (2, .int x2), (5, .int x5)] dX2_summedPlainly_47 rfl (Nat.le_of_ble_eq_true rfl) rfl ?_
          obtain ⟨y7, ey7⟩ : ∃ y : Int32, y = x5 + (1 : Int32) := ⟨_, rfl⟩
          have h := h y7 ey7
          refine g_iinc X 5 (1 : Int32) [(5, .int y7), (3, .double y6), (6, .double r2), (0, .ref k0), (1, .int x1), (2, .int x2)] dX2_summedPlainly_48 rfl (by decide) (Nat.le_of_ble_eq_true rfl) (by rw [ey7]; rfl) ?_
          refine g_goto X 5 dX2_summedPlainly_51 (by decide) ?_
          refine g_weak [3, 4, 5, 1, 0] rfl ?_
          exact ih _ _ _ _ _ h
        · have h := h.2 hc
          refine g_dconst0 X dX2_summedPlainly_41 ?_
          exact g_dret X hr dX2_summedPlainly_42 h
def w_X2_summedPlainly (k0 : Nat) (Q : UInt64 → St → Prop) (x1 : Int32) (x2 : Int32) (σ : St) : Prop := (∃ fu8 : Nat, w_X2_summedPlainly_5 k0 Q fu8 x1 x2 FP.dconst0 x1 σ)
set_option maxRecDepth 100000 in
set_option maxHeartbeats 4000000 in
theorem b_X2_summedPlainly_0 {p : Program} {l : Launch} {e : Env} {s : State} {m : MethodId} {args : Array Value} {below : List Frame} {meth : Method} {c : Code} {D : va_G} {cA : Nat → ClassId} {A : Nat → Prop} {ad0 : Nat → Nat} {sh : SH} {k0 : Nat} {Q : UInt64 → St → Prop} {x1 : Int32} {x2 : Int32} {σ : St} (X : Cx p rmX2_summedPlainly s m args meth c cX2_summedPlainly 8 RX2 D cA A) (hr : meth.sig.returnType = some .double) (hk0 : rowSh sh k0) (h : w_X2_summedPlainly k0 Q x1 x2 σ) : G p l e rmX2_summedPlainly s m args below meth c 8 D cA A (MQ below (va_Qd Q (EndW D cA ad0 sh) A) args s 0 0 A) 0 0 (fun ad => ad = ad0) sh σ [(0, .ref k0), (1, .int x1), (2, .int x2)] 0 [] := by
  unfold w_X2_summedPlainly at h
  refine g_dconst0 X dX2_summedPlainly_0 ?_
  refine g_dstore_n X [(3, .double FP.dconst0), (0, .ref k0), (1, .int x1), (2, .int x2)] dX2_summedPlainly_1 rfl (Nat.le_of_ble_eq_true rfl) rfl ?_
  refine g_iload_n X 2 dX2_summedPlainly_2 rfl rfl ?_
  refine g_istore X [(5, .int x1), (3, .double FP.dconst0), (0, .ref k0), (1, .int x1), (2, .int x2)] dX2_summedPlainly_3 (Nat.le_of_ble_eq_true rfl) rfl ?_
  refine g_weak [2, 3, 4, 1, 0] rfl ?_
  obtain ⟨fu8, h⟩ := h
  exact b_X2_summedPlainly_5 X hr hk0 fu8 _ _ _ _ _ h
theorem c_X2_summedPlainly (l : Launch) (D : va_G) (cA : Nat → ClassId) (sh : SH) {k0 : Nat} {x1 : Int32} {x2 : Int32} {σ : St} {Q : UInt64 → St → Prop} (hk0 : rowSh sh k0) (h : w_X2_summedPlainly k0 Q x1 x2 σ) : CtD l yX2_summedPlainly cX2_summedPlainly 8 (some .double) rmX2_summedPlainly D cA sh [.ref k0, .int x1, .int x2] σ Q := by
  refine CtD.of (own := RX2) rfl (by decide +kernel) [(0, .ref k0), (1, .int x1), (2, .int x2)] rfl (Nat.le_of_ble_eq_true rfl) ?_
  intro p e s m args below meth c ad0 A X hr
  exact b_X2_summedPlainly_0 X hr hk0 h
