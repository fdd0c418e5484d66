def rmX1_renew : Room := { frames := 1, cells := 0, slots := 0, locals := 24 }
def w_X1_renew (k0 : Nat) (Q : St → Prop) (x1 : Int32) (σ : St) : Prop := ∀ σ1 : St, σ1 = uI σ k0 0 (1 : Int32) → ∀ σ2 : St, σ2 = uI σ1 k0 1 x1 → w_J7_fill_53178 (k0 + 1) 3 (fun σ3 => w_J7_fill_d0a16 (k0 + 2) 150 (fun σ4 => (Q σ4)) (0 : Int64) σ3) (0 : Int32) σ2
set_option maxRecDepth 100000 in
set_option maxHeartbeats 4000000 in
theorem b_X1_renew_0 {p : Program} {l : Launch} {e : Env} {s : State} {m : MethodId} {args : Array Value} {below : List Frame} {meth : Method} {c : Code} {D : va_G} {cA : Nat → ClassId} {A : Nat → Prop} {ad0 : Nat → Nat} {sh : SH} {k0 : Nat} {Q : St → Prop} {x1 : Int32} {σ : St} (X : Cx p rmX1_renew s m args meth c cX1_renew 2 RX1 D cA A) (hr : meth.sig.returnType = none) (hk0 : keepSh sh k0) (h : w_X1_renew k0 Q x1 σ) : G p l e rmX1_renew s m args below meth c 2 D cA A (MQ below (va_Qv Q (EndW D cA ad0 sh) A) args s 0 0 A) 0 0 (fun ad => ad = ad0) sh σ [(0, .ref k0), (1, .int x1)] 0 [] := by
  unfold w_X1_renew at h
  refine g_aload_n X 0 dX1_renew_0 rfl rfl ?_
  refine g_iconst X (1 : Int32) dX1_renew_1 (by decide) ?_
  refine g_putI X (C := RX1) (T := TX1) (N := 4) (ty0 := tyX1) 0 dX1_renew_2 (keepSh.b0 hk0) (keepSh.k0 hk0) rfl rfl inG1 tyX1_ok nmX1 (Nat.le_of_ble_eq_true rfl) rfl rfl q83 rfl rfl ?_
  refine g_nameS (fun σ1 eσ1 => ?_)
  have h := h σ1 eσ1
  refine g_aload_n X 0 dX1_renew_5 rfl rfl ?_
  refine g_iload_n X 1 dX1_renew_6 rfl rfl ?_
  refine g_putI X (C := RX1) (T := TX1) (N := 4) (ty0 := tyX1) 1 dX1_renew_7 (keepSh.b0 hk0) (keepSh.k0 hk0) rfl rfl inG1 tyX1_ok nmX1 (Nat.le_of_ble_eq_true rfl) rfl rfl q85 rfl rfl ?_
  refine g_nameS (fun σ2 eσ2 => ?_)
  have h := h σ2 eσ2
  refine g_aload_n X 0 dX1_renew_10 rfl rfl ?_
  refine g_getR X (C := RX1) (T := TX1) (N := 4) 2 dX1_renew_11 (keepSh.b0 hk0) (keepSh.k0 hk0) rfl rfl inG1 (Nat.le_of_ble_eq_true rfl) rfl (keepSh.r2 hk0) q87 ?_
  refine g_iconst X (0 : Int32) dX1_renew_14 (by decide) ?_
  refine g_callSV X (n := 2) [.ref (k0 + 1), .int (0 : Int32)] [] dX1_renew_15 (c_J7_fill_53178 l D cA sh (⟨(keepSh.b1 hk0), (keepSh.k1 hk0)⟩ : arrSh sh (k0 + 1) 0 3) h) q335 q165 q52 q166 ⟨by decide, by decide, by decide +kernel⟩ rfl rfl (Nat.le_of_ble_eq_true rfl) rfl rfl ⟨(Nat.le_of_ble_eq_true rfl), (Nat.le_of_ble_eq_true rfl)⟩ (Nat.le_of_ble_eq_true rfl) (Nat.le_of_ble_eq_true rfl) (fun σ3 h => ?_)
  refine g_aload_n X 0 dX1_renew_18 rfl rfl ?_
  refine g_getR X (C := RX1) (T := TX1) (N := 4) 3 dX1_renew_19 (keepSh.b0 hk0) (keepSh.k0 hk0) rfl rfl inG1 (Nat.le_of_ble_eq_true rfl) rfl (keepSh.r3 hk0) q89 ?_
  refine g_lconst X (0 : Int64) dX1_renew_22 (by decide) ?_
  refine g_callSV X (n := 2) [.ref (k0 + 2), .long (0 : Int64)] [] dX1_renew_23 (c_J7_fill_d0a16 l D cA sh (⟨(keepSh.b2 hk0), (keepSh.k2 hk0)⟩ : arrSh sh (k0 + 2) 1 150) h) q336 q162 q52 q163 ⟨by decide, by decide, by decide +kernel⟩ rfl rfl (Nat.le_of_ble_eq_true rfl) rfl rfl ⟨(Nat.le_of_ble_eq_true rfl), (Nat.le_of_ble_eq_true rfl)⟩ (Nat.le_of_ble_eq_true rfl) (Nat.le_of_ble_eq_true rfl) (fun σ4 h => ?_)
  exact g_vret X hr dX1_renew_26 h
theorem c_X1_renew (l : Launch) (D : va_G) (cA : Nat → ClassId) (sh : SH) {k0 : Nat} {x1 : Int32} {σ : St} {Q : St → Prop} (hk0 : keepSh sh k0) (h : w_X1_renew k0 Q x1 σ) : CtV l yX1_renew cX1_renew 2 (none) rmX1_renew D cA sh [.ref k0, .int x1] σ Q := by
  refine CtV.of (own := RX1) rfl (by decide +kernel) [(0, .ref k0), (1, .int x1)] rfl (Nat.le_of_ble_eq_true rfl) ?_
  intro p e s m args below meth c ad0 A X hr
  exact b_X1_renew_0 X hr hk0 h
def rmX1_become : Room := { frames := 1, cells := 0, slots := 0, locals := 40 }
def w_X1_become (k0 : Nat) (Q : St → Prop) (k1 : Nat) (σ : St) : Prop := bz (gI σ k1 0) ∧ ∀ σ1 : St, σ1 = uI σ k0 0 (gI σ k1 0) → ∀ σ2 : St, σ2 = uI σ1 k0 1 (gI σ1 k1 1) → ¬ (0 : Int32) < 0 ∧ ¬ (0 : Int32) < 0 ∧ ¬ (3 : Int32) < 0 ∧ ix (0 : Int32) + ix (3 : Int32) ≤ 3 ∧ ix (0 : Int32) + ix (3 : Int32) ≤ 3 ∧ ∀ σ3 : St, σ3 = wI σ2 (k0 + 1) (va_cpy (gI σ2 (k1 + 1)) (gI σ2 (k0 + 1)) (ix (0 : Int32)) (ix (0 : Int32)) (ix (3 : Int32))) → ¬ (0 : Int32) < 0 ∧ ¬ (0 : Int32) < 0 ∧ ¬ (150 : Int32) < 0 ∧ ix (0 : Int32) + ix (150 : Int32) ≤ 150 ∧ ix (0 : Int32) + ix (150 : Int32) ≤ 150 ∧ ∀ σ4 : St, σ4 = wJ σ3 (k0 + 2) (va_cpy (gJ σ3 (k1 + 2)) (gJ σ3 (k0 + 2)) (ix (0 : Int32)) (ix (0 : Int32)) (ix (150 : Int32))) → (Q σ4)
set_option maxRecDepth 100000 in
set_option maxHeartbeats 4000000 in
theorem b_X1_become_0 {p : Program} {l : Launch} {e : Env} {s : State} {m : MethodId} {args : Array Value} {below : List Frame} {meth : Method} {c : Code} {D : va_G} {cA : Nat → ClassId} {A : Nat → Prop} {ad0 : Nat → Nat} {sh : SH} {k0 : Nat} {Q : St → Prop} {k1 : Nat} {σ : St} (X : Cx p rmX1_become s m args meth c cX1_become 2 RX1 D cA A) (hr : meth.sig.returnType = none) (hk0 : keepSh sh k0) (hk1 : keepSh sh k1) (h : w_X1_become k0 Q k1 σ) : G p l e rmX1_become s m args below meth c 2 D cA A (MQ below (va_Qv Q (EndW D cA ad0 sh) A) args s 0 0 A) 0 0 (fun ad => ad = ad0) sh σ [(0, .ref k0), (1, .ref k1)] 0 [] := by
  unfold w_X1_become at h
  refine g_aload_n X 0 dX1_become_0 rfl rfl ?_
  refine g_aload_n X 1 dX1_become_1 rfl rfl ?_
  refine g_getI X (C := RX1) (T := TX1) (N := 4) 0 dX1_become_2 (keepSh.b0 hk1) (keepSh.k0 hk1) rfl rfl inG1 (Nat.le_of_ble_eq_true rfl) rfl q83 ?_
  obtain ⟨hc, h⟩ := h
  refine g_putI X (C := RX1) (T := TX1) (N := 4) (ty0 := tyX1) 0 dX1_become_5 (keepSh.b0 hk0) (keepSh.k0 hk0) rfl rfl inG1 tyX1_ok nmX1 (Nat.le_of_ble_eq_true rfl) rfl rfl q83 (bz_narrow hc) (bz_fits hc) ?_
  refine g_nameS (fun σ1 eσ1 => ?_)
  have h := h σ1 eσ1
  refine g_aload_n X 0 dX1_become_8 rfl rfl ?_
  refine g_aload_n X 1 dX1_become_9 rfl rfl ?_
  refine g_getI X (C := RX1) (T := TX1) (N := 4) 1 dX1_become_10 (keepSh.b0 hk1) (keepSh.k0 hk1) rfl rfl inG1 (Nat.le_of_ble_eq_true rfl) rfl q85 ?_
  refine g_putI X (C := RX1) (T := TX1) (N := 4) (ty0 := tyX1) 1 dX1_become_13 (keepSh.b0 hk0) (keepSh.k0 hk0) rfl rfl inG1 tyX1_ok nmX1 (Nat.le_of_ble_eq_true rfl) rfl rfl q85 rfl rfl ?_
  refine g_nameS (fun σ2 eσ2 => ?_)
  have h := h σ2 eσ2
  refine g_aload_n X 1 dX1_become_16 rfl rfl ?_
  refine g_getR X (C := RX1) (T := TX1) (N := 4) 2 dX1_become_17 (keepSh.b0 hk1) (keepSh.k0 hk1) rfl rfl inG1 (Nat.le_of_ble_eq_true rfl) rfl (keepSh.r2 hk1) q87 ?_
  refine g_iconst X (0 : Int32) dX1_become_20 (by decide) ?_
  refine g_aload_n X 0 dX1_become_21 rfl rfl ?_
  refine g_getR X (C := RX1) (T := TX1) (N := 4) 2 dX1_become_22 (keepSh.b0 hk0) (keepSh.k0 hk0) rfl rfl inG1 (Nat.le_of_ble_eq_true rfl) rfl (keepSh.r2 hk0) q87 ?_
  refine g_iconst X (0 : Int32) dX1_become_25 (by decide) ?_
  refine g_aload_n X 0 dX1_become_26 rfl rfl ?_
  refine g_getR X (C := RX1) (T := TX1) (N := 4) 2 dX1_become_27 (keepSh.b0 hk0) (keepSh.k0 hk0) rfl rfl inG1 (Nat.le_of_ble_eq_true rfl) rfl (keepSh.r2 hk0) q87 ?_
  refine g_ilen X (3 : Int32) dX1_become_30 (keepSh.b1 hk0) (keepSh.k1 hk0) (by decide) ?_
  obtain ⟨hc1, hc2, hc3, hc4, hc5, h⟩ := h
  refine g_copyi X dX1_become_31 q327 q270 q269 q58 (keepSh.b1 hk1) (keepSh.k1 hk1) (keepSh.b1 hk0) (keepSh.k1 hk0) hc1 hc2 hc3 hc4 hc5 (Nat.le_of_ble_eq_true rfl) (Nat.le_of_ble_eq_true rfl) ?_
  refine g_nameS (fun σ3 eσ3 => ?_)
  have h := h σ3 eσ3
  refine g_aload_n X 1 dX1_become_34 rfl rfl ?_
  refine g_getR X (C := RX1) (T := TX1) (N := 4) 3 dX1_become_35 (keepSh.b0 hk1) (keepSh.k0 hk1) rfl rfl inG1 (Nat.le_of_ble_eq_true rfl) rfl (keepSh.r3 hk1) q89 ?_
  refine g_iconst X (0 : Int32) dX1_become_38 (by decide) ?_
  refine g_aload_n X 0 dX1_become_39 rfl rfl ?_
  refine g_getR X (C := RX1) (T := TX1) (N := 4) 3 dX1_become_40 (keepSh.b0 hk0) (keepSh.k0 hk0) rfl rfl inG1 (Nat.le_of_ble_eq_true rfl) rfl (keepSh.r3 hk0) q89 ?_
  refine g_iconst X (0 : Int32) dX1_become_43 (by decide) ?_
  refine g_sipush X (150 : Int32) dX1_become_44 (by decide) ?_
  obtain ⟨hc1, hc2, hc3, hc4, hc5, h⟩ := h
  refine g_copyl X dX1_become_47 q327 q270 q269 q58 (keepSh.b2 hk1) (keepSh.k2 hk1) (keepSh.b2 hk0) (keepSh.k2 hk0) hc1 hc2 hc3 hc4 hc5 (Nat.le_of_ble_eq_true rfl) (Nat.le_of_ble_eq_true rfl) ?_
  refine g_nameS (fun σ4 eσ4 => ?_)
  have h := h σ4 eσ4
  exact g_vret X hr dX1_become_50 h
theorem c_X1_become (l : Launch) (D : va_G) (cA : Nat → ClassId) (sh : SH) {k0 : Nat} {k1 : Nat} {σ : St} {Q : St → Prop} (hk0 : keepSh sh k0) (hk1 : keepSh sh k1) (h : w_X1_become k0 Q k1 σ) : CtV l yX1_become cX1_become 2 (none) rmX1_become D cA sh [.ref k0, .ref k1] σ Q := by
  refine CtV.of (own := RX1) rfl (by decide +kernel) [(0, .ref k0), (1, .ref k1)] rfl (Nat.le_of_ble_eq_true rfl) ?_
  intro p e s m args below meth c ad0 A X hr
  exact b_X1_become_0 X hr hk0 hk1 h
def rmX1_state : Room := { frames := 0, cells := 0, slots := 0, locals := 0 }
def w_X1_state_29 (k0 : Nat) (Q : Int32 → St → Prop) (σ : St) : Prop := (((gI σ (k0 + 1) (ix (1 : Int32))) ≤ 0 → (((gI σ (k0 + 1) (ix (2 : Int32))) ≤ 0 → (Q (0 : Int32) σ)) ∧ (¬ (gI σ (k0 + 1) (ix (2 : Int32))) ≤ 0 → (Q (2 : Int32) σ)))) ∧ (¬ (gI σ (k0 + 1) (ix (1 : Int32))) ≤ 0 → (Q (1 : Int32) σ)))
set_option maxRecDepth 100000 in
set_option maxHeartbeats 4000000 in
theorem b_X1_state_29 {p : Program} {l : Launch} {e : Env} {s : State} {m : MethodId} {args : Array Value} {below : List Frame} {meth : Method} {c : Code} {D : va_G} {cA : Nat → ClassId} {A : Nat → Prop} {ad0 : Nat → Nat} {sh : SH} {k0 : Nat} {Q : Int32 → St → Prop} {σ : St} (X : Cx p rmX1_state s m args meth c cX1_state 1 RX1 D cA A) (hr : meth.sig.returnType = some .int) (hk0 : keepSh sh k0) (h : w_X1_state_29 k0 Q  σ) : G p l e rmX1_state s m args below meth c 1 D cA A (MQ below (va_Qi Q (EndW D cA ad0 sh) A) args s 0 0 A) 0 0 (fun ad => ad = ad0) sh σ [(0, .ref k0)] 29 [] := by
  unfold w_X1_state_29 at h
  refine g_aload_n X 0 dX1_state_29 rfl rfl ?_
  refine g_getR X (C := RX1) (T := TX1) (N := 4) 2 dX1_state_30 (keepSh.b0 hk0) (keepSh.k0 hk0) rfl rfl inG1 (Nat.le_of_ble_eq_true rfl) rfl (keepSh.r2 hk0) q87 ?_
  refine g_iconst X (1 : Int32) dX1_state_33 (by decide) ?_
  refine g_iald X dX1_state_34 (keepSh.b1 hk0) (keepSh.k1 hk0) (by unfold vp_in; decide) ?_
  refine g_if_le X 40 dX1_state_35 (by decide) (fun hc => ?_) (fun hc => ?_)
  · have h := h.1 hc
    refine g_aload_n X 0 dX1_state_40 rfl rfl ?_
    refine g_getR X (C := RX1) (T := TX1) (N := 4) 2 dX1_state_41 (keepSh.b0 hk0) (keepSh.k0 hk0) rfl rfl inG1 (Nat.le_of_ble_eq_true rfl) rfl (keepSh.r2 hk0) q87 ?_
    refine g_iconst X (2 : Int32) dX1_state_44 (by decide) ?_
    refine g_iald X dX1_state_45 (keepSh.b1 hk0) (keepSh.k1 hk0) (by unfold vp_in; decide) ?_
    refine g_if_le X 53 dX1_state_46 (by decide) (fun hc => ?_) (fun hc => ?_)
    · have h := h.1 hc
      refine g_iconst X (0 : Int32) dX1_state_53 (by decide) ?_
      exact g_iret X hr dX1_state_54 rfl h
    · have h := h.2 hc
      refine g_iconst X (2 : Int32) dX1_state_49 (by decide) ?_
      refine g_goto X 54 dX1_state_50 (by decide) ?_
      exact g_iret X hr dX1_state_54 rfl h
  · have h := h.2 hc
    refine g_iconst X (1 : Int32) dX1_state_38 (by decide) ?_
    exact g_iret X hr dX1_state_39 rfl h
def w_X1_state (k0 : Nat) (Q : Int32 → St → Prop) (σ : St) : Prop := ((0 < (gI σ (k0 + 1) (ix (0 : Int32))) → (Q (3 : Int32) σ)) ∧ (¬ 0 < (gI σ (k0 + 1) (ix (0 : Int32))) → (((gI σ (k0 + 1) (ix (1 : Int32))) ≤ 0 → (w_X1_state_29 k0 Q σ)) ∧ (¬ (gI σ (k0 + 1) (ix (1 : Int32))) ≤ 0 → (((gI σ (k0 + 1) (ix (2 : Int32))) ≤ 0 → (w_X1_state_29 k0 Q σ)) ∧ (¬ (gI σ (k0 + 1) (ix (2 : Int32))) ≤ 0 → (Q (3 : Int32) σ)))))))
set_option maxRecDepth 100000 in
set_option maxHeartbeats 4000000 in
theorem b_X1_state_0 {p : Program} {l : Launch} {e : Env} {s : State} {m : MethodId} {args : Array Value} {below : List Frame} {meth : Method} {c : Code} {D : va_G} {cA : Nat → ClassId} {A : Nat → Prop} {ad0 : Nat → Nat} {sh : SH} {k0 : Nat} {Q : Int32 → St → Prop} {σ : St} (X : Cx p rmX1_state s m args meth c cX1_state 1 RX1 D cA A) (hr : meth.sig.returnType = some .int) (hk0 : keepSh sh k0) (h : w_X1_state k0 Q  σ) : G p l e rmX1_state s m args below meth c 1 D cA A (MQ below (va_Qi Q (EndW D cA ad0 sh) A) args s 0 0 A) 0 0 (fun ad => ad = ad0) sh σ [(0, .ref k0)] 0 [] := by
  unfold w_X1_state at h
  refine g_aload_n X 0 dX1_state_0 rfl rfl ?_
  refine g_getR X (C := RX1) (T := TX1) (N := 4) 2 dX1_state_1 (keepSh.b0 hk0) (keepSh.k0 hk0) rfl rfl inG1 (Nat.le_of_ble_eq_true rfl) rfl (keepSh.r2 hk0) q87 ?_
  refine g_iconst X (0 : Int32) dX1_state_4 (by decide) ?_
  refine g_iald X dX1_state_5 (keepSh.b1 hk0) (keepSh.k1 hk0) (by unfold vp_in; decide) ?_
  refine g_if_gt X 27 dX1_state_6 (by decide) (fun hc => ?_) (fun hc => ?_)
  · have h := h.1 hc
    refine g_iconst X (3 : Int32) dX1_state_27 (by decide) ?_
    exact g_iret X hr dX1_state_28 rfl h
  · have h := h.2 hc
    refine g_aload_n X 0 dX1_state_9 rfl rfl ?_
    refine g_getR X (C := RX1) (T := TX1) (N := 4) 2 dX1_state_10 (keepSh.b0 hk0) (keepSh.k0 hk0) rfl rfl inG1 (Nat.le_of_ble_eq_true rfl) rfl (keepSh.r2 hk0) q87 ?_
    refine g_iconst X (1 : Int32) dX1_state_13 (by decide) ?_
    refine g_iald X dX1_state_14 (keepSh.b1 hk0) (keepSh.k1 hk0) (by unfold vp_in; decide) ?_
    refine g_if_le X 29 dX1_state_15 (by decide) (fun hc => ?_) (fun hc => ?_)
    · have h := h.1 hc
      exact b_X1_state_29 X hr hk0 h
    · have h := h.2 hc
      refine g_aload_n X 0 dX1_state_18 rfl rfl ?_
      refine g_getR X (C := RX1) (T := TX1) (N := 4) 2 dX1_state_19 (keepSh.b0 hk0) (keepSh.k0 hk0) rfl rfl inG1 (Nat.le_of_ble_eq_true rfl) rfl (keepSh.r2 hk0) q87 ?_
      refine g_iconst X (2 : Int32) dX1_state_22 (by decide) ?_
      refine g_iald X dX1_state_23 (keepSh.b1 hk0) (keepSh.k1 hk0) (by unfold vp_in; decide) ?_
      refine g_if_le X 29 dX1_state_24 (by decide) (fun hc => ?_) (fun hc => ?_)
      · have h := h.1 hc
        exact b_X1_state_29 X hr hk0 h
      · have h := h.2 hc
        refine g_iconst X (3 : Int32) dX1_state_27 (by decide) ?_
        exact g_iret X hr dX1_state_28 rfl h
theorem c_X1_state (l : Launch) (D : va_G) (cA : Nat → ClassId) (sh : SH) {k0 : Nat} {σ : St} {Q : Int32 → St → Prop} (hk0 : keepSh sh k0) (h : w_X1_state k0 Q  σ) : CtI l yX1_state cX1_state 1 (some .int) rmX1_state D cA sh [.ref k0] σ Q := by
  refine CtI.of (own := RX1) rfl (by decide +kernel) [(0, .ref k0)] rfl (Nat.le_of_ble_eq_true rfl) ?_
  intro p e s m args below meth c ad0 A X hr
  exact b_X1_state_0 X hr hk0 h
def rmX1_isBelow : Room := { frames := 0, cells := 0, slots := 0, locals := 0 }
def w_X1_isBelow (k0 : Nat) (Q : Int32 → St → Prop) (σ : St) : Prop := (((0 : Int64) ≤ (gJ σ (k0 + 2) (ix (149 : Int32))) → (Q (0 : Int32) σ)) ∧ (¬ (0 : Int64) ≤ (gJ σ (k0 + 2) (ix (149 : Int32))) → (Q (1 : Int32) σ)))
set_option maxRecDepth 100000 in
set_option maxHeartbeats 4000000 in
theorem b_X1_isBelow_0 {p : Program} {l : Launch} {e : Env} {s : State} {m : MethodId} {args : Array Value} {below : List Frame} {meth : Method} {c : Code} {D : va_G} {cA : Nat → ClassId} {A : Nat → Prop} {ad0 : Nat → Nat} {sh : SH} {k0 : Nat} {Q : Int32 → St → Prop} {σ : St} (X : Cx p rmX1_isBelow s m args meth c cX1_isBelow 1 RX1 D cA A) (hr : meth.sig.returnType = some .boolean) (hk0 : keepSh sh k0) (h : w_X1_isBelow k0 Q  σ) : G p l e rmX1_isBelow s m args below meth c 1 D cA A (MQ below (va_Qi Q (EndW D cA ad0 sh) A) args s 0 0 A) 0 0 (fun ad => ad = ad0) sh σ [(0, .ref k0)] 0 [] := by
  unfold w_X1_isBelow at h
  refine g_aload_n X 0 dX1_isBelow_0 rfl rfl ?_
  refine g_getR X (C := RX1) (T := TX1) (N := 4) 3 dX1_isBelow_1 (keepSh.b0 hk0) (keepSh.k0 hk0) rfl rfl inG1 (Nat.le_of_ble_eq_true rfl) rfl (keepSh.r3 hk0) q89 ?_
  refine g_sipush X (149 : Int32) dX1_isBelow_4 (by decide) ?_
  refine g_lald X dX1_isBelow_7 (keepSh.b2 hk0) (keepSh.k2 hk0) (by unfold vp_in; decide) ?_
  refine g_lconst X (0 : Int64) dX1_isBelow_8 (by decide) ?_
  refine g_lcmp X dX1_isBelow_9 ?_
  refine g_if_ge X 17 dX1_isBelow_10 (by decide) (fun hc => ?_) (fun hc => ?_)
  · have h := h.1 (lgc_ge.mp hc)
    refine g_iconst X (0 : Int32) dX1_isBelow_17 (by decide) ?_
    exact g_iret X hr dX1_isBelow_18 (by decide) h
  · have h := h.2 (fun z => hc (lgc_ge.mpr z))
    refine g_iconst X (1 : Int32) dX1_isBelow_13 (by decide) ?_
    refine g_goto X 18 dX1_isBelow_14 (by decide) ?_
    exact g_iret X hr dX1_isBelow_18 (by decide) h
theorem c_X1_isBelow (l : Launch) (D : va_G) (cA : Nat → ClassId) (sh : SH) {k0 : Nat} {σ : St} {Q : Int32 → St → Prop} (hk0 : keepSh sh k0) (h : w_X1_isBelow k0 Q  σ) : CtI l yX1_isBelow cX1_isBelow 1 (some .boolean) rmX1_isBelow D cA sh [.ref k0] σ Q := by
  refine CtI.of (own := RX1) rfl (by decide +kernel) [(0, .ref k0)] rfl (Nat.le_of_ble_eq_true rfl) ?_
  intro p e s m args below meth c ad0 A X hr
  exact b_X1_isBelow_0 X hr hk0 h
def rmX1_isNought : Room := { frames := 0, cells := 0, slots := 0, locals := 0 }
def w_X1_isNought_10 (k0 : Nat) (Q : Int32 → St → Prop) : Nat → Int32 → Int32 → St → Prop
  | 0, _, _, _ => False
  | n + 1, x2, x3, σ => ((x2 ≤ x3 → (Q (1 : Int32) σ)) ∧ (¬ x2 ≤ x3 → vp_in x3 150 ∧ ∀ y2 : Int64, y2 = (gJ σ (k0 + 2) (ix x3)) → ((y2 = (0 : Int64) → ∀ y3 : Int32, y3 = x3 + (1 : Int32) → (w_X1_isNought_10 k0 Q n x2 y3 σ)) ∧ (¬ y2 = (0 : Int64) → (Q (0 : Int32) σ)))))
set_option maxRecDepth 100000 in
set_option maxHeartbeats 4000000 in
theorem b_X1_isNought_10 {p : Program} {l : Launch} {e : Env} {s : State} {m : MethodId} {args : Array Value} {below : List Frame} {meth : Method} {c : Code} {D : va_G} {cA : Nat → ClassId} {A : Nat → Prop} {ad0 : Nat → Nat} {sh : SH} {k0 : Nat} {Q : Int32 → St → Prop} (X : Cx p rmX1_isNought s m args meth c cX1_isNought 6 RX1 D cA A) (hr : meth.sig.returnType = some .boolean) (hk0 : keepSh sh k0) : ∀ (n : Nat) (x2 : Int32) (x3 : Int32) (σ : St), w_X1_isNought_10 k0 Q n x2 x3 σ → G p l e rmX1_isNought s m args below meth c 6 D cA A (MQ below (va_Qi Q (EndW D cA ad0 sh) A) args s 0 0 A) 0 0 (fun ad => ad = ad0) sh σ [(1, .ref (k0 + 2)), (2, .int x2), (3, .int x3)] 10 [] := by
  intro n
  induction n with
  | zero => intro x2 x3 σ h; exact h.elim
  | succ n ih =>
    intro x2 x3 σ h
    rw [w_X1_isNought_10] at h
    refine g_iload_n X 2 dX1_isNought_10 rfl rfl ?_
    refine g_iload_n X 1 dX1_isNought_11 rfl rfl ?_
    refine g_icmp_ge X 35 dX1_isNought_12 (by decide) (fun hc => ?_) (fun hc => ?_)
    · have h := h.1 hc
      refine g_iconst X (1 : Int32) dX1_isNought_35 (by decide) ?_
      exact g_iret X hr dX1_isNought_36 (by decide) h
    · have h := h.2 hc
      refine g_aload_n X 0 dX1_isNought_15 rfl rfl ?_
      refine g_iload_n X 2 dX1_isNought_16 rfl rfl ?_
      obtain ⟨hi1, h⟩ := h
      refine g_lald X dX1_isNought_17 (keepSh.b2 hk0) (keepSh.k2 hk0) hi1 ?_
      refine g_nameJ (fun y2 ey2 => ?_)
      have h := h y2 ey2
      refine g_lstore X [(4, .long y2), (1, .ref (k0 + 2)), (2, .int x2), (3, .int x3)] dX1_isNought_18 (Nat.le_of_ble_eq_true rfl) rfl ?_
      refine g_lload X 0 dX1_isNought_20 rfl ?_
      refine g_lconst X (0 : Int64) dX1_isNought_22 (by decide) ?_
      refine g_lcmp X dX1_isNought_23 ?_
      refine g_if_eq X 29 dX1_isNought_24 (by decide) (fun hc => ?_) (fun hc => ?_)
      · have h := h.1 (lgc_eq.mp hc)
        obtain ⟨y3, ey3⟩ : ∃ y : Int32, y = x3 + (1 : Int32) := ⟨_, rfl⟩
        have h := h y3 ey3
        refine g_iinc X 3 (1 : Int32) [(3, .int y3), (4, .long y2), (1, .ref (k0 + 2)), (2, .int x2)] dX1_isNought_29 rfl (by decide) (Nat.le_of_ble_eq_true rfl) (by rw [ey3]; rfl) ?_
        refine g_goto X 10 dX1_isNought_32 (by decide) ?_
        refine g_weak [2, 3, 0] rfl ?_
        exact ih _ _ _ h
      · have h := h.2 (fun z => hc (lgc_eq.mpr z))
        refine g_iconst X (0 : Int32) dX1_isNought_27 (by decide) ?_
        exact g_iret X hr dX1_isNought_28 (by decide) h
def w_X1_isNought (k0 : Nat) (Q : Int32 → St → Prop) (σ : St) : Prop := (∃ fu4 : Nat, w_X1_isNought_10 k0 Q fu4 (150 : Int32) (0 : Int32) σ)
set_option maxRecDepth 100000 in
set_option maxHeartbeats 4000000 in
theorem b_X1_isNought_0 {p : Program} {l : Launch} {e : Env} {s : State} {m : MethodId} {args : Array Value} {below : List Frame} {meth : Method} {c : Code} {D : va_G} {cA : Nat → ClassId} {A : Nat → Prop} {ad0 : Nat → Nat} {sh : SH} {k0 : Nat} {Q : Int32 → St → Prop} {σ : St} (X : Cx p rmX1_isNought s m args meth c cX1_isNought 6 RX1 D cA A) (hr : meth.sig.returnType = some .boolean) (hk0 : keepSh sh k0) (h : w_X1_isNought k0 Q  σ) : G p l e rmX1_isNought s m args below meth c 6 D cA A (MQ below (va_Qi Q (EndW D cA ad0 sh) A) args s 0 0 A) 0 0 (fun ad => ad = ad0) sh σ [(0, .ref k0)] 0 [] := by
  unfold w_X1_isNought at h
  refine g_aload_n X 0 dX1_isNought_0 rfl rfl ?_
  refine g_getR X (C := RX1) (T := TX1) (N := 4) 3 dX1_isNought_1 (keepSh.b0 hk0) (keepSh.k0 hk0) rfl rfl inG1 (Nat.le_of_ble_eq_true rfl) rfl (keepSh.r3 hk0) q89 ?_
  refine g_astore_n X [(1, .ref (k0 + 2)), (0, .ref k0)] dX1_isNought_4 rfl (Nat.le_of_ble_eq_true rfl) rfl ?_
  refine g_aload_n X 0 dX1_isNought_5 rfl rfl ?_
  refine g_llen X (150 : Int32) dX1_isNought_6 (keepSh.b2 hk0) (keepSh.k2 hk0) (by decide) ?_
  refine g_istore_n X [(2, .int (150 : Int32)), (1, .ref (k0 + 2)), (0, .ref k0)] dX1_isNought_7 rfl (Nat.le_of_ble_eq_true rfl) rfl ?_
  refine g_iconst X (0 : Int32) dX1_isNought_8 (by decide) ?_
  refine g_istore_n X [(3, .int (0 : Int32)), (2, .int (150 : Int32)), (1, .ref (k0 + 2)), (0, .ref k0)] dX1_isNought_9 rfl (Nat.le_of_ble_eq_true rfl) rfl ?_
  refine g_weak [2, 1, 0] rfl ?_
  obtain ⟨fu4, h⟩ := h
  exact b_X1_isNought_10 X hr hk0 fu4 _ _ _ h
theorem c_X1_isNought (l : Launch) (D : va_G) (cA : Nat → ClassId) (sh : SH) {k0 : Nat} {σ : St} {Q : Int32 → St → Prop} (hk0 : keepSh sh k0) (h : w_X1_isNought k0 Q  σ) : CtI l yX1_isNought cX1_isNought 6 (some .boolean) rmX1_isNought D cA sh [.ref k0] σ Q := by
  refine CtI.of (own := RX1) rfl (by decide +kernel) [(0, .ref k0)] rfl (Nat.le_of_ble_eq_true rfl) ?_
  intro p e s m args below meth c ad0 A X hr
  exact b_X1_isNought_0 X hr hk0 h
def rmX1_comparedWith : Room := { frames := 0, cells := 0, slots := 0, locals := 0 }
def w_X1_comparedWith_4 (k0 : Nat) (Q : Int32 → St → Prop) : Nat → Nat → Int32 → St → Prop
  | 0, _, _, _ => False
  | n + 1, k1, x2, σ => ((x2 < 0 → (Q (0 : Int32) σ)) ∧ (¬ x2 < 0 → vp_in x2 150 ∧ vp_in x2 150 ∧ (((gJ σ (k0 + 2) (ix x2)) = (gJ σ (k1 + 2) (ix x2)) → ∀ y3 : Int32, y3 = x2 + (-1 : Int32) → (w_X1_comparedWith_4 k0 Q n k1 y3 σ)) ∧ (¬ (gJ σ (k0 + 2) (ix x2)) = (gJ σ (k1 + 2) (ix x2)) → vp_in x2 150 ∧ vp_in x2 150 ∧ (((gJ σ (k1 + 2) (ix x2)) ≤ (gJ σ (k0 + 2) (ix x2)) → (Q (1 : Int32) σ)) ∧ (¬ (gJ σ (k1 + 2) (ix x2)) ≤ (gJ σ (k0 + 2) (ix x2)) → (Q (-1 : Int32) σ)))))))
set_option maxRecDepth 100000 in
set_option maxHeartbeats 4000000 in
theorem b_X1_comparedWith_4 {p : Program} {l : Launch} {e : Env} {s : State} {m : MethodId} {args : Array Value} {below : List Frame} {meth : Method} {c : Code} {D : va_G} {cA : Nat → ClassId} {A : Nat → Prop} {ad0 : Nat → Nat} {sh : SH} {k0 : Nat} {Q : Int32 → St → Prop} (X : Cx p rmX1_comparedWith s m args meth c cX1_comparedWith 3 RX1 D cA A) (hr : meth.sig.returnType = some .int) (hk0 : keepSh sh k0) : ∀ (n : Nat) (k1 : Nat) (x2 : Int32) (σ : St), keepSh sh k1 → w_X1_comparedWith_4 k0 Q n k1 x2 σ → G p l e rmX1_comparedWith s m args below meth c 3 D cA A (MQ below (va_Qi Q (EndW D cA ad0 sh) A) args s 0 0 A) 0 0 (fun ad => ad = ad0) sh σ [(0, .ref k0), (1, .ref k1), (2, .int x2)] 4 [] := by
  intro n
  induction n with
  | zero => intro k1 x2 σ hk1 h; exact h.elim
  | succ n ih =>
    intro k1 x2 σ hk1 h
    rw [w_X1_comparedWith_4] at h
    refine g_iload_n X 2 dX1_comparedWith_4 rfl rfl ?_
    refine g_if_lt X 52 dX1_comparedWith_5 (by decide) (fun hc => ?_) (fun hc => ?_)
    · have h := h.1 hc
      refine g_iconst X (0 : Int32) dX1_comparedWith_52 (by decide) ?_
      exact g_iret X hr dX1_comparedWith_53 rfl h
    · have h := h.2 hc
      refine g_aload_n X 0 dX1_comparedWith_8 rfl rfl ?_
      refine g_getR X (C := RX1) (T := TX1) (N := 4) 3 dX1_comparedWith_9 (keepSh.b0 hk0) (keepSh.k0 hk0) rfl rfl inG1 (Nat.le_of_ble_eq_true rfl) rfl (keepSh.r3 hk0) q89 ?_
      refine g_iload_n X 2 dX1_comparedWith_12 rfl rfl ?_
      obtain ⟨hi1, h⟩ := h
      refine g_lald X dX1_comparedWith_13 (keepSh.b2 hk0) (keepSh.k2 hk0) hi1 ?_
      refine g_aload_n X 1 dX1_comparedWith_14 rfl rfl ?_
      refine g_getR X (C := RX1) (T := TX1) (N := 4) 3 dX1_comparedWith_15 (keepSh.b0 hk1) (keepSh.k0 hk1) rfl rfl inG1 (Nat.le_of_ble_eq_true rfl) rfl (keepSh.r3 hk1) q89 ?_
      refine g_iload_n X 2 dX1_comparedWith_18 rfl rfl ?_
      obtain ⟨hi2, h⟩ := h
      refine g_lald X dX1_comparedWith_19 (keepSh.b2 hk1) (keepSh.k2 hk1) hi2 ?_
      refine g_lcmp X dX1_comparedWith_20 ?_
      refine g_if_eq X 46 dX1_comparedWith_21 (by decide) (fun hc => ?_) (fun hc => ?_)
      · have h := h.1 (lgc_eq.mp hc)
        obtain ⟨y3, ey3⟩ : ∃ y : Int32, y = x2 + (-1 : Int32) := ⟨_, rfl⟩
        have h := h y3 ey3
        refine g_iinc X 2 (-1 : Int32) [(2, .int y3), (0, .ref k0), (1, .ref k1)] dX1_comparedWith_46 rfl (by decide) (Nat.le_of_ble_eq_true rfl) (by rw [ey3]; rfl) ?_
        refine g_goto X 4 dX1_comparedWith_49 (by decide) ?_
        refine g_weak [1, 2, 0] rfl ?_
        exact ih _ _ _ hk1 h
      · have h := h.2 (fun z => hc (lgc_eq.mpr z))
        refine g_aload_n X 0 dX1_comparedWith_24 rfl rfl ?_
        refine g_getR X (C := RX1) (T := TX1) (N := 4) 3 dX1_comparedWith_25 (keepSh.b0 hk0) (keepSh.k0 hk0) rfl rfl inG1 (Nat.le_of_ble_eq_true rfl) rfl (keepSh.r3 hk0) q89 ?_
        refine g_iload_n X 2 dX1_comparedWith_28 rfl rfl ?_
        obtain ⟨hi4, h⟩ := h
        refine g_lald X dX1_comparedWith_29 (keepSh.b2 hk0) (keepSh.k2 hk0) hi4 ?_
        refine g_aload_n X 1 dX1_comparedWith_30 rfl rfl ?_
        refine g_getR X (C := RX1) (T := TX1) (N := 4) 3 dX1_comparedWith_31 (keepSh.b0 hk1) (keepSh.k0 hk1) rfl rfl inG1 (Nat.le_of_ble_eq_true rfl) rfl (keepSh.r3 hk1) q89 ?_
        refine g_iload_n X 2 dX1_comparedWith_34 rfl rfl ?_
        obtain ⟨hi5, h⟩ := h
        refine g_lald X dX1_comparedWith_35 (keepSh.b2 hk1) (keepSh.k2 hk1) hi5 ?_
        refine g_lcmp X dX1_comparedWith_36 ?_
        refine g_if_ge X 44 dX1_comparedWith_37 (by decide) (fun hc => ?_) (fun hc => ?_)
        · have h := h.1 (lgc_ge.mp hc)
          refine g_iconst X (1 : Int32) dX1_comparedWith_44 (by decide) ?_
          exact g_iret X hr dX1_comparedWith_45 rfl h
        · have h := h.2 (fun z => hc (lgc_ge.mpr z))
          refine g_iconst X (-1 : Int32) dX1_comparedWith_40 (by decide) ?_
          refine g_goto X 45 dX1_comparedWith_41 (by decide) ?_
          exact g_iret X hr dX1_comparedWith_45 rfl h
def w_X1_comparedWith (k0 : Nat) (Q : Int32 → St → Prop) (k1 : Nat) (σ : St) : Prop := (∃ fu6 : Nat, w_X1_comparedWith_4 k0 Q fu6 k1 (149 : Int32) σ)
set_option maxRecDepth 100000 in
set_option maxHeartbeats 4000000 in
theorem b_X1_comparedWith_0 {p : Program} {l : Launch} {e : Env} {s : State} {m : MethodId} {args : Array Value} {below : List Frame} {meth : Method} {c : Code} {D : va_G} {cA : Nat → ClassId} {A : Nat → Prop} {ad0 : Nat → Nat} {sh : SH} {k0 : Nat} {Q : Int32 → St → Prop} {k1 : Nat} {σ : St} (X : Cx p rmX1_comparedWith s m args meth c cX1_comparedWith 3 RX1 D cA A) (hr : meth.sig.returnType = some .int) (hk0 : keepSh sh k0) (hk1 : keepSh sh k1) (h : w_X1_comparedWith k0 Q k1 σ) : G p l e rmX1_comparedWith s m args below meth c 3 D cA A (MQ below (va_Qi Q (EndW D cA ad0 sh) A) args s 0 0 A) 0 0 (fun ad => ad = ad0) sh σ [(0, .ref k0), (1, .ref k1)] 0 [] := by
  unfold w_X1_comparedWith at h
  refine g_sipush X (149 : Int32) dX1_comparedWith_0 (by decide) ?_
  refine g_istore_n X [(2, .int (149 : Int32)), (0, .ref k0), (1, .ref k1)] dX1_comparedWith_3 rfl (Nat.le_of_ble_eq_true rfl) rfl ?_
  refine g_weak [1, 2, 0] rfl ?_
  obtain ⟨fu6, h⟩ := h
  exact b_X1_comparedWith_4 X hr hk0 fu6 _ _ _ hk1 h
theorem c_X1_comparedWith (l : Launch) (D : va_G) (cA : Nat → ClassId) (sh : SH) {k0 : Nat} {k1 : Nat} {σ : St} {Q : Int32 → St → Prop} (hk0 : keepSh sh k0) (hk1 : keepSh sh k1) (h : w_X1_comparedWith k0 Q k1 σ) : CtI l yX1_comparedWith cX1_comparedWith 3 (some .int) rmX1_comparedWith D cA sh [.ref k0, .ref k1] σ Q := by
  refine CtI.of (own := RX1) rfl (by decide +kernel) [(0, .ref k0), (1, .ref k1)] rfl (Nat.le_of_ble_eq_true rfl) ?_
  intro p e s m args below meth c ad0 A X hr
  exact b_X1_comparedWith_0 X hr hk0 hk1 h
def rmX1_carry : Room := { frames := 0, cells := 0, slots := 0, locals := 0 }
def w_X1_carry_4 (k0 : Nat) (Q : St → Prop) : Nat → Int64 → Int32 → St → Prop
  | 0, _, _, _ => False
  | n + 1, x1, x3, σ => (((149 : Int32) ≤ x3 → ∀ σ1 : St, σ1 = uJ σ (k0 + 2) (ix (149 : Int32)) ((gJ σ (k0 + 2) (ix (149 : Int32))) + x1) → (Q σ1)) ∧ (¬ (149 : Int32) ≤ x3 → vp_in x3 150 ∧ ∀ y3 : Int64, y3 = ((gJ σ (k0 + 2) (ix x3)) + x1) → vp_in x3 150 ∧ ∀ σ5 : St, σ5 = uJ σ (k0 + 2) (ix x3) (y3 &&& (4294967295 : Int64)) → ∀ y6 : Int64, y6 = (lshrF y3 (32 : Int32)) → ∀ y7 : Int32, y7 = x3 + (1 : Int32) → (w_X1_carry_4 k0 Q n y6 y7 σ5)))
set_option maxRecDepth 100000 in
set_option maxHeartbeats 4000000 in
theorem b_X1_carry_4 {p : Program} {l : Launch} {e : Env} {s : State} {m : MethodId} {args : Array Value} {below : List Frame} {meth : Method} {c : Code} {D : va_G} {cA : Nat → ClassId} {A : Nat → Prop} {ad0 : Nat → Nat} {sh : SH} {k0 : Nat} {Q : St → Prop} (X : Cx p rmX1_carry s m args meth c cX1_carry 6 RX1 D cA A) (hr : meth.sig.returnType = none) (hk0 : keepSh sh k0) : ∀ (n : Nat) (x1 : Int64) (x3 : Int32) (σ : St), w_X1_carry_4 k0 Q n x1 x3 σ → G p l e rmX1_carry s m args below meth c 6 D cA A (MQ below (va_Qv Q (EndW D cA ad0 sh) A) args s 0 0 A) 0 0 (fun ad => ad = ad0) sh σ [(0, .ref k0), (1, .long x1), (3, .int x3)] 4 [] := by
  intro n
  induction n with
  | zero => intro x1 x3 σ h; exact h.elim
  | succ n ih =>
    intro x1 x3 σ h
    rw [w_X1_carry_4] at h
    refine g_iload_n X 2 dX1_carry_4 rfl rfl ?_
    refine g_sipush X (149 : Int32) dX1_carry_5 (by decide) ?_
    refine g_icmp_ge X 45 dX1_carry_8 (by decide) (fun hc => ?_) (fun hc => ?_)
    · have h := h.1 hc
      refine g_aload_n X 0 dX1_carry_45 rfl rfl ?_
      refine g_getR X (C := RX1) (T := TX1) (N := 4) 3 dX1_carry_46 (keepSh.b0 hk0) (keepSh.k0 hk0) rfl rfl inG1 (Nat.le_of_ble_eq_true rfl) rfl (keepSh.r3 hk0) q89 ?_
      refine g_sipush X (149 : Int32) dX1_carry_49 (by decide) ?_
      refine g_dup2 X dX1_carry_52 rfl rfl ?_
      refine g_lald X dX1_carry_53 (keepSh.b2 hk0) (keepSh.k2 hk0) (by unfold vp_in; decide) ?_
      refine g_lload_n X 1 dX1_carry_54 rfl rfl ?_
      refine g_ladd X dX1_carry_55 ?_
      refine g_last X dX1_carry_56 (keepSh.b2 hk0) (keepSh.k2 hk0) (by unfold vp_in; decide) ?_
      refine g_nameS (fun σ1 eσ1 => ?_)
      have h := h σ1 eσ1
      exact g_vret X hr dX1_carry_57 h
    · have h := h.2 hc
      refine g_aload_n X 0 dX1_carry_11 rfl rfl ?_
      refine g_getR X (C := RX1) (T := TX1) (N := 4) 3 dX1_carry_12 (keepSh.b0 hk0) (keepSh.k0 hk0) rfl rfl inG1 (Nat.le_of_ble_eq_true rfl) rfl (keepSh.r3 hk0) q89 ?_
      refine g_iload_n X 2 dX1_carry_15 rfl rfl ?_
      obtain ⟨hi2, h⟩ := h
      refine g_lald X dX1_carry_16 (keepSh.b2 hk0) (keepSh.k2 hk0) hi2 ?_
      refine g_lload_n X 1 dX1_carry_17 rfl rfl ?_
      refine g_ladd X dX1_carry_18 ?_
      refine g_nameJ (fun y3 ey3 => ?_)
      have h := h y3 ey3
      refine g_lstore X [(4, .long y3), (0, .ref k0), (1, .long x1), (3, .int x3)] dX1_carry_19 (Nat.le_of_ble_eq_true rfl) rfl ?_
      refine g_aload_n X 1 dX1_carry_21 rfl rfl ?_
      refine g_getR X (C := RX1) (T := TX1) (N := 4) 3 dX1_carry_22 (keepSh.b0 hk0) (keepSh.k0 hk0) rfl rfl inG1 (Nat.le_of_ble_eq_true rfl) rfl (keepSh.r3 hk0) q89 ?_
      refine g_iload_n X 3 dX1_carry_25 rfl rfl ?_
      refine g_lload X 0 dX1_carry_26 rfl ?_
      refine g_ldc2 X q358 dX1_carry_28 ?_
      refine g_land X dX1_carry_31 ?_
      obtain ⟨hi4, h⟩ := h
      refine g_last X dX1_carry_32 (keepSh.b2 hk0) (keepSh.k2 hk0) hi4 ?_
      refine g_nameS (fun σ5 eσ5 => ?_)
      have h := h σ5 eσ5
      refine g_lload X 0 dX1_carry_33 rfl ?_
      refine g_bipush X (32 : Int32) dX1_carry_35 (by decide) ?_
      refine g_lshr X dX1_carry_37 ?_
      refine g_nameJ (fun y6 ey6 => ?_)
      have h := h y6 ey6
      refine g_lstore_n X [(1, .long y6), (4, .long y3), (0, .ref k0), (3, .int x3)] dX1_carry_38 rfl (Nat.le_of_ble_eq_true rfl) rfl ?_
      obtain ⟨y7, ey7⟩ : ∃ y : Int32, y = x3 + (1 : Int32) := ⟨_, rfl⟩
      have h := h y7 ey7
      refine g_iinc X 3 (1 : Int32) [(3, .int y7), (1, .long y6), (4, .long y3), (0, .ref k0)] dX1_carry_39 rfl (by decide) (Nat.le_of_ble_eq_true rfl) (by rw [ey7]; rfl) ?_
      refine g_goto X 4 dX1_carry_42 (by decide) ?_
      refine g_weak [3, 1, 0] rfl ?_
      exact ih _ _ _ h
def w_X1_carry (k0 : Nat) (Q : St → Prop) (σ : St) : Prop := (∃ fu8 : Nat, w_X1_carry_4 k0 Q fu8 (0 : Int64) (0 : Int32) σ)
set_option maxRecDepth 100000 in
set_option maxHeartbeats 4000000 in
theorem b_X1_carry_0 {p : Program} {l : Launch} {e : Env} {s : State} {m : MethodId} {args : Array Value} {below : List Frame} {meth : Method} {c : Code} {D : va_G} {cA : Nat → ClassId} {A : Nat → Prop} {ad0 : Nat → Nat} {sh : SH} {k0 : Nat} {Q : St → Prop} {σ : St} (X : Cx p rmX1_carry s m args meth c cX1_carry 6 RX1 D cA A) (hr : meth.sig.returnType = none) (hk0 : keepSh sh k0) (h : w_X1_carry k0 Q  σ) : G p l e rmX1_carry s m args below meth c 6 D cA A (MQ below (va_Qv Q (EndW D cA ad0 sh) A) args s 0 0 A) 0 0 (fun ad => ad = ad0) sh σ [(0, .ref k0)] 0 [] := by
  unfold w_X1_carry at h
  refine g_lconst X (0 : Int64) dX1_carry_0 (by decide) ?_
  refine g_lstore_n X [(1, .long (0 : Int64)), (0, .ref k0)] dX1_carry_1 rfl (Nat.le_of_ble_eq_true rfl) rfl ?_
  refine g_iconst X (0 : Int32) dX1_carry_2 (by decide) ?_
  refine g_istore_n X [(3, .int (0 : Int32)), (1, .long (0 : Int64)), (0, .ref k0)] dX1_carry_3 rfl (Nat.le_of_ble_eq_true rfl) rfl ?_
  refine g_weak [2, 1, 0] rfl ?_
  obtain ⟨fu8, h⟩ := h
  exact b_X1_carry_4 X hr hk0 fu8 _ _ _ h
theorem c_X1_carry (l : Launch) (D : va_G) (cA : Nat → ClassId) (sh : SH) {k0 : Nat} {σ : St} {Q : St → Prop} (hk0 : keepSh sh k0) (h : w_X1_carry k0 Q  σ) : CtV l yX1_carry cX1_carry 6 (none) rmX1_carry D cA sh [.ref k0] σ Q := by
  refine CtV.of (own := RX1) rfl (by decide +kernel) [(0, .ref k0)] rfl (Nat.le_of_ble_eq_true rfl) ?_
  intro p e s m args below meth c ad0 A X hr
  exact b_X1_carry_0 X hr hk0 h
def rmX1_sortOfProduct : Room := { frames := 1, cells := 0, slots := 0, locals := 21 }
def w_X1_sortOfProduct_115 (Q : Int32 → St → Prop) (x5 : Int32) (s0 : Int32) (σ : St) : Prop := ((¬ x5 = s0 → (Q (2 : Int32) σ)) ∧ (x5 = s0 → (Q (1 : Int32) σ)))
set_option maxRecDepth 100000 in
set_option maxHeartbeats 4000000 in
theorem b_X1_sortOfProduct_115 {p : Program} {l : Launch} {e : Env} {s : State} {m : MethodId} {args : Array Value} {below : List Frame} {meth : Method} {c : Code} {D : va_G} {cA : Nat → ClassId} {A : Nat → Prop} {ad0 : Nat → Nat} {sh : SH} {Q : Int32 → St → Prop} {x5 : Int32} {s0 : Int32} {σ : St} (X : Cx p rmX1_sortOfProduct s m args meth c cX1_sortOfProduct 7 RX1 D cA A) (hr : meth.sig.returnType = some .int) (h : w_X1_sortOfProduct_115 Q x5 s0 σ) : G p l e rmX1_sortOfProduct s m args below meth c 7 D cA A (MQ below (va_Qi Q (EndW D cA ad0 sh) A) args s 0 0 A) 0 0 (fun ad => ad = ad0) sh σ [(5, .int x5)] 115 [.int s0] := by
  unfold w_X1_sortOfProduct_115 at h
  refine g_istore X [(6, .int s0), (5, .int x5)] dX1_sortOfProduct_115 (Nat.le_of_ble_eq_true rfl) rfl ?_
  refine g_iload X 1 dX1_sortOfProduct_117 rfl ?_
  refine g_iload X 0 dX1_sortOfProduct_119 rfl ?_
  refine g_icmp_ne X 128 dX1_sortOfProduct_121 (by decide) (fun hc => ?_) (fun hc => ?_)
  · have h := h.1 hc
    refine g_iconst X (2 : Int32) dX1_sortOfProduct_128 (by decide) ?_
    exact g_iret X hr dX1_sortOfProduct_129 rfl h
  · have h := h.2 hc
    refine g_iconst X (1 : Int32) dX1_sortOfProduct_124 (by decide) ?_
    refine g_goto X 129 dX1_sortOfProduct_125 (by decide) ?_
    exact g_iret X hr dX1_sortOfProduct_129 rfl h
def w_X1_sortOfProduct_110 (Q : Int32 → St → Prop) (x5 : Int32) (σ : St) : Prop := (w_X1_sortOfProduct_115 Q x5 (1 : Int32) σ)
set_option maxRecDepth 100000 in
set_option maxHeartbeats 4000000 in
theorem b_X1_sortOfProduct_110 {p : Program} {l : Launch} {e : Env} {s : State} {m : MethodId} {args : Array Value} {below : List Frame} {meth : Method} {c : Code} {D : va_G} {cA : Nat → ClassId} {A : Nat → Prop} {ad0 : Nat → Nat} {sh : SH} {Q : Int32 → St → Prop} {x5 : Int32} {σ : St} (X : Cx p rmX1_sortOfProduct s m args meth c cX1_sortOfProduct 7 RX1 D cA A) (hr : meth.sig.returnType = some .int) (h : w_X1_sortOfProduct_110 Q x5 σ) : G p l e rmX1_sortOfProduct s m args below meth c 7 D cA A (MQ below (va_Qi Q (EndW D cA ad0 sh) A) args s 0 0 A) 0 0 (fun ad => ad = ad0) sh σ [(5, .int x5)] 110 [] := by
  unfold w_X1_sortOfProduct_110 at h
  refine g_iconst X (1 : Int32) dX1_sortOfProduct_110 (by decide) ?_
  refine g_goto X 115 dX1_sortOfProduct_111 (by decide) ?_
  exact b_X1_sortOfProduct_115 X hr h
def w_X1_sortOfProduct_91 (Q : Int32 → St → Prop) (k1 : Nat) (x2 : Int32) (x4 : Int32) (s0 : Int32) (σ : St) : Prop := ((x4 = (2 : Int32) → (w_X1_sortOfProduct_110 Q s0 σ)) ∧ (¬ x4 = (2 : Int32) → vp_in x2 40 ∧ (((0 : Int64) ≤ (gJ σ (k1 + 1) (ix x2)) → (w_X1_sortOfProduct_115 Q s0 (0 : Int32) σ)) ∧ (¬ (0 : Int64) ≤ (gJ σ (k1 + 1) (ix x2)) → (w_X1_sortOfProduct_110 Q s0 σ)))))
set_option maxRecDepth 100000 in
set_option maxHeartbeats 4000000 in
theorem b_X1_sortOfProduct_91 {p : Program} {l : Launch} {e : Env} {s : State} {m : MethodId} {args : Array Value} {below : List Frame} {meth : Method} {c : Code} {D : va_G} {cA : Nat → ClassId} {A : Nat → Prop} {ad0 : Nat → Nat} {sh : SH} {Q : Int32 → St → Prop} {k1 : Nat} {x2 : Int32} {x4 : Int32} {s0 : Int32} {σ : St} (X : Cx p rmX1_sortOfProduct s m args meth c cX1_sortOfProduct 7 RX1 D cA A) (hr : meth.sig.returnType = some .int) (hk1 : rowSh sh k1) (h : w_X1_sortOfProduct_91 Q k1 x2 x4 s0 σ) : G p l e rmX1_sortOfProduct s m args below meth c 7 D cA A (MQ below (va_Qi Q (EndW D cA ad0 sh) A) args s 0 0 A) 0 0 (fun ad => ad = ad0) sh σ [(1, .ref k1), (2, .int x2), (4, .int x4)] 91 [.int s0] := by
  unfold w_X1_sortOfProduct_91 at h
  refine g_istore X [(5, .int s0), (1, .ref k1), (2, .int x2), (4, .int x4)] dX1_sortOfProduct_91 (Nat.le_of_ble_eq_true rfl) rfl ?_
  refine g_iload X 3 dX1_sortOfProduct_93 rfl ?_
  refine g_iconst X (2 : Int32) dX1_sortOfProduct_95 (by decide) ?_
  refine g_icmp_eq X 110 dX1_sortOfProduct_96 (by decide) (fun hc => ?_) (fun hc => ?_)
  · have h := h.1 hc
    refine g_weak [0] rfl ?_
    exact b_X1_sortOfProduct_110 X hr h
  · have h := h.2 hc
    refine g_aload_n X 1 dX1_sortOfProduct_99 rfl rfl ?_
    refine g_getR X (C := RX2) (T := TX2) (N := 6) 3 dX1_sortOfProduct_100 (rowSh.b0 hk1) (rowSh.k0 hk1) rfl rfl inG2 (Nat.le_of_ble_eq_true rfl) rfl (rowSh.r3 hk1) q139 ?_
    refine g_iload_n X 2 dX1_sortOfProduct_103 rfl rfl ?_
    obtain ⟨hi5, h⟩ := h
    refine g_lald X dX1_sortOfProduct_104 (rowSh.b1 hk1) (rowSh.k1 hk1) hi5 ?_
    refine g_lconst X (0 : Int64) dX1_sortOfProduct_105 (by decide) ?_
    refine g_lcmp X dX1_sortOfProduct_106 ?_
    refine g_if_ge X 114 dX1_sortOfProduct_107 (by decide) (fun hc => ?_) (fun hc => ?_)
    · have h := h.1 (lgc_ge.mp hc)
      refine g_iconst X (0 : Int32) dX1_sortOfProduct_114 (by decide) ?_
      refine g_weak [0] rfl ?_
      exact b_X1_sortOfProduct_115 X hr h
    · have h := h.2 (fun z => hc (lgc_ge.mpr z))
      refine g_weak [0] rfl ?_
      exact b_X1_sortOfProduct_110 X hr h
def w_X1_sortOfProduct_86 (Q : Int32 → St → Prop) (k1 : Nat) (x2 : Int32) (x4 : Int32) (σ : St) : Prop := (w_X1_sortOfProduct_91 Q k1 x2 x4 (1 : Int32) σ)
set_option maxRecDepth 100000 in
set_option maxHeartbeats 4000000 in
theorem b_X1_sortOfProduct_86 {p : Program} {l : Launch} {e : Env} {s : State} {m : MethodId} {args : Array Value} {below : List Frame} {meth : Method} {c : Code} {D : va_G} {cA : Nat → ClassId} {A : Nat → Prop} {ad0 : Nat → Nat} {sh : SH} {Q : Int32 → St → Prop} {k1 : Nat} {x2 : Int32} {x4 : Int32} {σ : St} (X : Cx p rmX1_sortOfProduct s m args meth c cX1_sortOfProduct 7 RX1 D cA A) (hr : meth.sig.returnType = some .int) (hk1 : rowSh sh k1) (h : w_X1_sortOfProduct_86 Q k1 x2 x4 σ) : G p l e rmX1_sortOfProduct s m args below meth c 7 D cA A (MQ below (va_Qi Q (EndW D cA ad0 sh) A) args s 0 0 A) 0 0 (fun ad => ad = ad0) sh σ [(1, .ref k1), (2, .int x2), (4, .int x4)] 86 [] := by
  unfold w_X1_sortOfProduct_86 at h
  refine g_iconst X (1 : Int32) dX1_sortOfProduct_86 (by decide) ?_
  refine g_goto X 91 dX1_sortOfProduct_87 (by decide) ?_
  exact b_X1_sortOfProduct_91 X hr hk1 h
def w_X1_sortOfProduct_70 (Q : Int32 → St → Prop) (k0 : Nat) (k1 : Nat) (x2 : Int32) (x3 : Int32) (x4 : Int32) (σ : St) : Prop := ((x3 = (2 : Int32) → (w_X1_sortOfProduct_86 Q k1 x2 x4 σ)) ∧ (¬ x3 = (2 : Int32) → vp_in x2 40 ∧ (((0 : Int64) ≤ (gJ σ (k0 + 1) (ix x2)) → (w_X1_sortOfProduct_91 Q k1 x2 x4 (0 : Int32) σ)) ∧ (¬ (0 : Int64) ≤ (gJ σ (k0 + 1) (ix x2)) → (w_X1_sortOfProduct_86 Q k1 x2 x4 σ)))))
set_option maxRecDepth 100000 in
set_option maxHeartbeats 4000000 in
theorem b_X1_sortOfProduct_70 {p : Program} {l : Launch} {e : Env} {s : State} {m : MethodId} {args : Array Value} {below : List Frame} {meth : Method} {c : Code} {D : va_G} {cA : Nat → ClassId} {A : Nat → Prop} {ad0 : Nat → Nat} {sh : SH} {Q : Int32 → St → Prop} {k0 : Nat} {k1 : Nat} {x2 : Int32} {x3 : Int32} {x4 : Int32} {σ : St} (X : Cx p rmX1_sortOfProduct s m args meth c cX1_sortOfProduct 7 RX1 D cA A) (hr : meth.sig.returnType = some .int) (hk0 : rowSh sh k0) (hk1 : rowSh sh k1) (h : w_X1_sortOfProduct_70 Q k0 k1 x2 x3 x4 σ) : G p l e rmX1_sortOfProduct s m args below meth c 7 D cA A (MQ below (va_Qi Q (EndW D cA ad0 sh) A) args s 0 0 A) 0 0 (fun ad => ad = ad0) sh σ [(0, .ref k0), (1, .ref k1), (2, .int x2), (3, .int x3), (4, .int x4)] 70 [] := by
  unfold w_X1_sortOfProduct_70 at h
  refine g_iload_n X 3 dX1_sortOfProduct_70 rfl rfl ?_
  refine g_iconst X (2 : Int32) dX1_sortOfProduct_71 (by decide) ?_
  refine g_icmp_eq X 86 dX1_sortOfProduct_72 (by decide) (fun hc => ?_) (fun hc => ?_)
  · have h := h.1 hc
    refine g_weak [1, 2, 4] rfl ?_
    exact b_X1_sortOfProduct_86 X hr hk1 h
  · have h := h.2 hc
    refine g_aload_n X 0 dX1_sortOfProduct_75 rfl rfl ?_
    refine g_getR X (C := RX2) (T := TX2) (N := 6) 3 dX1_sortOfProduct_76 (rowSh.b0 hk0) (rowSh.k0 hk0) rfl rfl inG2 (Nat.le_of_ble_eq_true rfl) rfl (rowSh.r3 hk0) q139 ?_
    refine g_iload_n X 2 dX1_sortOfProduct_79 rfl rfl ?_
    obtain ⟨hi6, h⟩ := h
    refine g_lald X dX1_sortOfProduct_80 (rowSh.b1 hk0) (rowSh.k1 hk0) hi6 ?_
    refine g_lconst X (0 : Int64) dX1_sortOfProduct_81 (by decide) ?_
    refine g_lcmp X dX1_sortOfProduct_82 ?_
    refine g_if_ge X 90 dX1_sortOfProduct_83 (by decide) (fun hc => ?_) (fun hc => ?_)
    · have h := h.1 (lgc_ge.mp hc)
      refine g_iconst X (0 : Int32) dX1_sortOfProduct_90 (by decide) ?_
      refine g_weak [1, 2, 4] rfl ?_
      exact b_X1_sortOfProduct_91 X hr hk1 h
    · have h := h.2 (fun z => hc (lgc_ge.mpr z))
      refine g_weak [1, 2, 4] rfl ?_
      exact b_X1_sortOfProduct_86 X hr hk1 h
def w_X1_sortOfProduct_52 (Q : Int32 → St → Prop) (k0 : Nat) (k1 : Nat) (x2 : Int32) (x3 : Int32) (x4 : Int32) (σ : St) : Prop := ((¬ x4 = 0 → (w_X1_sortOfProduct_70 Q k0 k1 x2 x3 x4 σ)) ∧ (x4 = 0 → vp_in x2 40 ∧ ((¬ (gJ σ (k1 + 1) (ix x2)) = (0 : Int64) → (w_X1_sortOfProduct_70 Q k0 k1 x2 x3 x4 σ)) ∧ ((gJ σ (k1 + 1) (ix x2)) = (0 : Int64) → (Q (3 : Int32) σ)))))
set_option maxRecDepth 100000 in
set_option maxHeartbeats 4000000 in
theorem b_X1_sortOfProduct_52 {p : Program} {l : Launch} {e : Env} {s : State} {m : MethodId} {args : Array Value} {below : List Frame} {meth : Method} {c : Code} {D : va_G} {cA : Nat → ClassId} {A : Nat → Prop} {ad0 : Nat → Nat} {sh : SH} {Q : Int32 → St → Prop} {k0 : Nat} {k1 : Nat} {x2 : Int32} {x3 : Int32} {x4 : Int32} {σ : St} (X : Cx p rmX1_sortOfProduct s m args meth c cX1_sortOfProduct 7 RX1 D cA A) (hr : meth.sig.returnType = some .int) (hk0 : rowSh sh k0) (hk1 : rowSh sh k1) (h : w_X1_sortOfProduct_52 Q k0 k1 x2 x3 x4 σ) : G p l e rmX1_sortOfProduct s m args below meth c 7 D cA A (MQ below (va_Qi Q (EndW D cA ad0 sh) A) args s 0 0 A) 0 0 (fun ad => ad = ad0) sh σ [(0, .ref k0), (1, .ref k1), (2, .int x2), (3, .int x3), (4, .int x4)] 52 [] := by
  unfold w_X1_sortOfProduct_52 at h
  refine g_iload X 4 dX1_sortOfProduct_52 rfl ?_
  refine g_if_ne X 70 dX1_sortOfProduct_54 (by decide) (fun hc => ?_) (fun hc => ?_)
  · have h := h.1 hc
    exact b_X1_sortOfProduct_70 X hr hk0 hk1 h
  · have h := h.2 hc
    refine g_aload_n X 1 dX1_sortOfProduct_57 rfl rfl ?_
    refine g_getR X (C := RX2) (T := TX2) (N := 6) 3 dX1_sortOfProduct_58 (rowSh.b0 hk1) (rowSh.k0 hk1) rfl rfl inG2 (Nat.le_of_ble_eq_true rfl) rfl (rowSh.r3 hk1) q139 ?_
    refine g_iload_n X 2 dX1_sortOfProduct_61 rfl rfl ?_
    obtain ⟨hi7, h⟩ := h
    refine g_lald X dX1_sortOfProduct_62 (rowSh.b1 hk1) (rowSh.k1 hk1) hi7 ?_
    refine g_lconst X (0 : Int64) dX1_sortOfProduct_63 (by decide) ?_
    refine g_lcmp X dX1_sortOfProduct_64 ?_
    refine g_if_ne X 70 dX1_sortOfProduct_65 (by decide) (fun hc => ?_) (fun hc => ?_)
    · have h := h.1 (fun z => hc (lgc_eq.mpr z))
      exact b_X1_sortOfProduct_70 X hr hk0 hk1 h
    · have h := h.2 (lgc_eq.mp hc)
      refine g_iconst X (3 : Int32) dX1_sortOfProduct_68 (by decide) ?_
      exact g_iret X hr dX1_sortOfProduct_69 rfl h
def w_X1_sortOfProduct_37 (Q : Int32 → St → Prop) (k0 : Nat) (k1 : Nat) (x2 : Int32) (x3 : Int32) (x4 : Int32) (σ : St) : Prop := ((¬ x3 = 0 → (w_X1_sortOfProduct_52 Q k0 k1 x2 x3 x4 σ)) ∧ (x3 = 0 → vp_in x2 40 ∧ (((gJ σ (k0 + 1) (ix x2)) = (0 : Int64) → (Q (3 : Int32) σ)) ∧ (¬ (gJ σ (k0 + 1) (ix x2)) = (0 : Int64) → (w_X1_sortOfProduct_52 Q k0 k1 x2 x3 x4 σ)))))
set_option maxRecDepth 100000 in
set_option maxHeartbeats 4000000 in
theorem b_X1_sortOfProduct_37 {p : Program} {l : Launch} {e : Env} {s : State} {m : MethodId} {args : Array Value} {below : List Frame} {meth : Method} {c : Code} {D : va_G} {cA : Nat → ClassId} {A : Nat → Prop} {ad0 : Nat → Nat} {sh : SH} {Q : Int32 → St → Prop} {k0 : Nat} {k1 : Nat} {x2 : Int32} {x3 : Int32} {x4 : Int32} {σ : St} (X : Cx p rmX1_sortOfProduct s m args meth c cX1_sortOfProduct 7 RX1 D cA A) (hr : meth.sig.returnType = some .int) (hk0 : rowSh sh k0) (hk1 : rowSh sh k1) (h : w_X1_sortOfProduct_37 Q k0 k1 x2 x3 x4 σ) : G p l e rmX1_sortOfProduct s m args below meth c 7 D cA A (MQ below (va_Qi Q (EndW D cA ad0 sh) A) args s 0 0 A) 0 0 (fun ad => ad = ad0) sh σ [(0, .ref k0), (1, .ref k1), (2, .int x2), (3, .int x3), (4, .int x4)] 37 [] := by
  unfold w_X1_sortOfProduct_37 at h
  refine g_iload_n X 3 dX1_sortOfProduct_37 rfl rfl ?_
  refine g_if_ne X 52 dX1_sortOfProduct_38 (by decide) (fun hc => ?_) (fun hc => ?_)
  · have h := h.1 hc
    exact b_X1_sortOfProduct_52 X hr hk0 hk1 h
  · have h := h.2 hc
    refine g_aload_n X 0 dX1_sortOfProduct_41 rfl rfl ?_
    refine g_getR X (C := RX2) (T := TX2) (N := 6) 3 dX1_sortOfProduct_42 (rowSh.b0 hk0) (rowSh.k0 hk0) rfl rfl inG2 (Nat.le_of_ble_eq_true rfl) rfl (rowSh.r3 hk0) q139 ?_
    refine g_iload_n X 2 dX1_sortOfProduct_45 rfl rfl ?_
    obtain ⟨hi8, h⟩ := h
    refine g_lald X dX1_sortOfProduct_46 (rowSh.b1 hk0) (rowSh.k1 hk0) hi8 ?_
    refine g_lconst X (0 : Int64) dX1_sortOfProduct_47 (by decide) ?_
    refine g_lcmp X dX1_sortOfProduct_48 ?_
    refine g_if_eq X 68 dX1_sortOfProduct_49 (by decide) (fun hc => ?_) (fun hc => ?_)
    · have h := h.1 (lgc_eq.mp hc)
      refine g_iconst X (3 : Int32) dX1_sortOfProduct_68 (by decide) ?_
      exact g_iret X hr dX1_sortOfProduct_69 rfl h
    · have h := h.2 (fun z => hc (lgc_eq.mpr z))
      exact b_X1_sortOfProduct_52 X hr hk0 hk1 h
def w_X1_sortOfProduct (Q : Int32 → St → Prop) (k0 : Nat) (k1 : Nat) (x2 : Int32) (σ : St) : Prop := w_X2_sortAt k0 (fun r2 σ1 => w_X2_sortAt k1 (fun r4 σ3 => ((r2 = (3 : Int32) → (Q (3 : Int32) σ3)) ∧ (¬ r2 = (3 : Int32) → ((¬ r4 = (3 : Int32) → ((¬ r2 = 0 → (w_X1_sortOfProduct_37 Q k0 k1 x2 r2 r4 σ3)) ∧ (r2 = 0 → ((¬ r4 = 0 → (w_X1_sortOfProduct_37 Q k0 k1 x2 r2 r4 σ3)) ∧ (r4 = 0 → (Q (0 : Int32) σ3)))))) ∧ (r4 = (3 : Int32) → (Q (3 : Int32) σ3)))))) x2 σ1) x2 σ
set_option maxRecDepth 100000 in
set_option maxHeartbeats 4000000 in
theorem b_X1_sortOfProduct_0 {p : Program} {l : Launch} {e : Env} {s : State} {m : MethodId} {args : Array Value} {below : List Frame} {meth : Method} {c : Code} {D : va_G} {cA : Nat → ClassId} {A : Nat → Prop} {ad0 : Nat → Nat} {sh : SH} {Q : Int32 → St → Prop} {k0 : Nat} {k1 : Nat} {x2 : Int32} {σ : St} (X : Cx p rmX1_sortOfProduct s m args meth c cX1_sortOfProduct 7 RX1 D cA A) (hr : meth.sig.returnType = some .int) (hk0 : rowSh sh k0) (hk1 : rowSh sh k1) (h : w_X1_sortOfProduct Q k0 k1 x2 σ) : G p l e rmX1_sortOfProduct s m args below meth c 7 D cA A (MQ below (va_Qi Q (EndW D cA ad0 sh) A) args s 0 0 A) 0 0 (fun ad => ad = ad0) sh σ [(0, .ref k0), (1, .ref k1), (2, .int x2)] 0 [] := by
  unfold w_X1_sortOfProduct at h
  refine g_aload_n X 0 dX1_sortOfProduct_0 rfl rfl ?_
  refine g_iload_n X 2 dX1_sortOfProduct_1 rfl rfl ?_
  refine g_callVI X (C := RX2) (T := TX2) (N := 6) (n := 1) [.int x2] [] dX1_sortOfProduct_2 (c_X2_sortAt l D cA sh hk0 h) q352 q305 q306 q51 q307 (rowSh.b0 hk0) (rowSh.k0 hk0) rfl ⟨rfl, by decide, by decide, by decide +kernel⟩ rfl rfl (Nat.le_of_ble_eq_true rfl) rfl rfl ⟨(Nat.le_of_ble_eq_true rfl), (Nat.le_of_ble_eq_true rfl)⟩ (Nat.le_of_ble_eq_true rfl) (Nat.le_of_ble_eq_true rfl) (fun r2 σ1 h => ?_)
  refine g_istore_n X [(3, .int r2), (0, .ref k0), (1, .ref k1), (2, .int x2)] dX1_sortOfProduct_5 rfl (Nat.le_of_ble_eq_true rfl) rfl ?_
  refine g_aload_n X 2 dX1_sortOfProduct_6 rfl rfl ?_
  refine g_iload_n X 3 dX1_sortOfProduct_7 rfl rfl ?_
  refine g_callVI X (C := RX2) (T := TX2) (N := 6) (n := 1) [.int x2] [] dX1_sortOfProduct_8 (c_X2_sortAt l D cA sh hk1 h) q352 q305 q306 q51 q307 (rowSh.b0 hk1) (rowSh.k0 hk1) rfl ⟨rfl, by decide, by decide, by decide +kernel⟩ rfl rfl (Nat.le_of_ble_eq_true rfl) rfl rfl ⟨(Nat.le_of_ble_eq_true rfl), (Nat.le_of_ble_eq_true rfl)⟩ (Nat.le_of_ble_eq_true rfl) (Nat.le_of_ble_eq_true rfl) (fun r4 σ3 h => ?_)
  refine g_istore X [(4, .int r4), (3, .int r2), (0, .ref k0), (1, .ref k1), (2, .int x2)] dX1_sortOfProduct_11 (Nat.le_of_ble_eq_true rfl) rfl ?_
  refine g_iload_n X 1 dX1_sortOfProduct_13 rfl rfl ?_
  refine g_iconst X (3 : Int32) dX1_sortOfProduct_14 (by decide) ?_
  refine g_icmp_eq X 24 dX1_sortOfProduct_15 (by decide) (fun hc => ?_) (fun hc => ?_)
  · have h := h.1 hc
    refine g_iconst X (3 : Int32) dX1_sortOfProduct_24 (by decide) ?_
    exact g_iret X hr dX1_sortOfProduct_25 rfl h
  · have h := h.2 hc
    refine g_iload X 0 dX1_sortOfProduct_18 rfl ?_
    refine g_iconst X (3 : Int32) dX1_sortOfProduct_20 (by decide) ?_
    refine g_icmp_ne X 26 dX1_sortOfProduct_21 (by decide) (fun hc => ?_) (fun hc => ?_)
    · have h := h.1 hc
      refine g_iload_n X 1 dX1_sortOfProduct_26 rfl rfl ?_
      refine g_if_ne X 37 dX1_sortOfProduct_27 (by decide) (fun hc => ?_) (fun hc => ?_)
      · have h := h.1 hc
        refine g_weak [2, 3, 4, 1, 0] rfl ?_
        exact b_X1_sortOfProduct_37 X hr hk0 hk1 h
      · have h := h.2 hc
        refine g_iload X 0 dX1_sortOfProduct_30 rfl ?_
        refine g_if_ne X 37 dX1_sortOfProduct_32 (by decide) (fun hc => ?_) (fun hc => ?_)
        · have h := h.1 hc
          refine g_weak [2, 3, 4, 1, 0] rfl ?_
          exact b_X1_sortOfProduct_37 X hr hk0 hk1 h
        · have h := h.2 hc
          refine g_iconst X (0 : Int32) dX1_sortOfProduct_35 (by decide) ?_
          exact g_iret X hr dX1_sortOfProduct_36 rfl h
    · have h := h.2 hc
      refine g_iconst X (3 : Int32) dX1_sortOfProduct_24 (by decide) ?_
      exact g_iret X hr dX1_sortOfProduct_25 rfl h
theorem c_X1_sortOfProduct (l : Launch) (D : va_G) (cA : Nat → ClassId) (sh : SH) {k0 : Nat} {k1 : Nat} {x2 : Int32} {σ : St} {Q : Int32 → St → Prop} (hk0 : rowSh sh k0) (hk1 : rowSh sh k1) (h : w_X1_sortOfProduct Q k0 k1 x2 σ) : CtI l yX1_sortOfProduct cX1_sortOfProduct 7 (some .int) rmX1_sortOfProduct D cA sh [.ref k0, .ref k1, .int x2] σ Q := by
  refine CtI.of (own := RX1) rfl (by decide +kernel) [(0, .ref k0), (1, .ref k1), (2, .int x2)] rfl (Nat.le_of_ble_eq_true rfl) ?_
  intro p e s m args below meth c ad0 A X hr
  exact b_X1_sortOfProduct_0 X hr hk0 hk1 h
def rmX1_meet : Room := { frames := 1, cells := 0, slots := 0, locals := 21 }
def w_X1_meet_27 (k0 : Nat) (Q : St → Prop) (x3 : Int32) (σ : St) : Prop := vp_in x3 3 ∧ ∀ y2 : Int32, y2 = (if (1000000000 : Int32) < ((gI σ (k0 + 1) (ix x3)) + (1 : Int32)) then (1000000000 : Int32) else ((gI σ (k0 + 1) (ix x3)) + (1 : Int32))) → vp_in x3 3 ∧ ∀ σ4 : St, σ4 = uI σ (k0 + 1) (ix x3) y2 → (Q σ4)
set_option maxRecDepth 100000 in
set_option maxHeartbeats 4000000 in
theorem b_X1_meet_27 {p : Program} {l : Launch} {e : Env} {s : State} {m : MethodId} {args : Array Value} {below : List Frame} {meth : Method} {c : Code} {D : va_G} {cA : Nat → ClassId} {A : Nat → Prop} {ad0 : Nat → Nat} {sh : SH} {k0 : Nat} {Q : St → Prop} {x3 : Int32} {σ : St} (X : Cx p rmX1_meet s m args meth c cX1_meet 4 RX1 D cA A) (hr : meth.sig.returnType = none) (hk0 : keepSh sh k0) (h : w_X1_meet_27 k0 Q x3 σ) : G p l e rmX1_meet s m args below meth c 4 D cA A (MQ below (va_Qv Q (EndW D cA ad0 sh) A) args s 0 0 A) 0 0 (fun ad => ad = ad0) sh σ [(0, .ref k0), (3, .int x3)] 27 [] := by
  unfold w_X1_meet_27 at h
  refine g_aload_n X 0 dX1_meet_27 rfl rfl ?_
  refine g_getR X (C := RX1) (T := TX1) (N := 4) 2 dX1_meet_28 (keepSh.b0 hk0) (keepSh.k0 hk0) rfl rfl inG1 (Nat.le_of_ble_eq_true rfl) rfl (keepSh.r2 hk0) q87 ?_
  refine g_iload_n X 1 dX1_meet_31 rfl rfl ?_
  refine g_aload_n X 0 dX1_meet_32 rfl rfl ?_
  refine g_getR X (C := RX1) (T := TX1) (N := 4) 2 dX1_meet_33 (keepSh.b0 hk0) (keepSh.k0 hk0) rfl rfl inG1 (Nat.le_of_ble_eq_true rfl) rfl (keepSh.r2 hk0) q87 ?_
  refine g_iload_n X 1 dX1_meet_36 rfl rfl ?_
  obtain ⟨hi1, h⟩ := h
  refine g_iald X dX1_meet_37 (keepSh.b1 hk0) (keepSh.k1 hk0) hi1 ?_
  refine g_iconst X (1 : Int32) dX1_meet_38 (by decide) ?_
  refine g_iadd X dX1_meet_39 ?_
  refine g_ldc X q371 dX1_meet_40 ?_
  refine g_mmin X dX1_meet_42 q372 q329 q53 q330 (Nat.le_of_ble_eq_true rfl) (Nat.le_of_ble_eq_true rfl) (Nat.le_of_ble_eq_true rfl) (Nat.le_of_ble_eq_true rfl) ?_
  refine g_nameI (fun y2 ey2 => ?_)
  have h := h y2 ey2
  obtain ⟨hi3, h⟩ := h
  refine g_iast X dX1_meet_45 (keepSh.b1 hk0) (keepSh.k1 hk0) hi3 ?_
  refine g_nameS (fun σ4 eσ4 => ?_)
  have h := h σ4 eσ4
  exact g_vret X hr dX1_meet_46 h
def w_X1_meet_26 (k0 : Nat) (Q : St → Prop) (s0 : Int32) (σ : St) : Prop := (w_X1_meet_27 k0 Q s0 σ)
set_option maxRecDepth 100000 in
set_option maxHeartbeats 4000000 in
theorem b_X1_meet_26 {p : Program} {l : Launch} {e : Env} {s : State} {m : MethodId} {args : Array Value} {below : List Frame} {meth : Method} {c : Code} {D : va_G} {cA : Nat → ClassId} {A : Nat → Prop} {ad0 : Nat → Nat} {sh : SH} {k0 : Nat} {Q : St → Prop} {s0 : Int32} {σ : St} (X : Cx p rmX1_meet s m args meth c cX1_meet 4 RX1 D cA A) (hr : meth.sig.returnType = none) (hk0 : keepSh sh k0) (h : w_X1_meet_26 k0 Q s0 σ) : G p l e rmX1_meet s m args below meth c 4 D cA A (MQ below (va_Qv Q (EndW D cA ad0 sh) A) args s 0 0 A) 0 0 (fun ad => ad = ad0) sh σ [(0, .ref k0)] 26 [.int s0] := by
  unfold w_X1_meet_26 at h
  refine g_istore_n X [(3, .int s0), (0, .ref k0)] dX1_meet_26 rfl (Nat.le_of_ble_eq_true rfl) rfl ?_
  refine g_weak [1, 0] rfl ?_
  exact b_X1_meet_27 X hr hk0 h
def w_X1_meet_17 (k0 : Nat) (Q : St → Prop) (x2 : Int32) (s0 : Int32) (σ : St) : Prop := ((¬ s0 = x2 → (w_X1_meet_26 k0 Q (1 : Int32) σ)) ∧ (s0 = x2 → (w_X1_meet_26 k0 Q (2 : Int32) σ)))
set_option maxRecDepth 100000 in
set_option maxHeartbeats 4000000 in
theorem b_X1_meet_17 {p : Program} {l : Launch} {e : Env} {s : State} {m : MethodId} {args : Array Value} {below : List Frame} {meth : Method} {c : Code} {D : va_G} {cA : Nat → ClassId} {A : Nat → Prop} {ad0 : Nat → Nat} {sh : SH} {k0 : Nat} {Q : St → Prop} {x2 : Int32} {s0 : Int32} {σ : St} (X : Cx p rmX1_meet s m args meth c cX1_meet 4 RX1 D cA A) (hr : meth.sig.returnType = none) (hk0 : keepSh sh k0) (h : w_X1_meet_17 k0 Q x2 s0 σ) : G p l e rmX1_meet s m args below meth c 4 D cA A (MQ below (va_Qv Q (EndW D cA ad0 sh) A) args s 0 0 A) 0 0 (fun ad => ad = ad0) sh σ [(0, .ref k0), (2, .int x2)] 17 [.int s0] := by
  unfold w_X1_meet_17 at h
  refine g_iload_n X 1 dX1_meet_17 rfl rfl ?_
  refine g_icmp_ne X 25 dX1_meet_18 (by decide) (fun hc => ?_) (fun hc => ?_)
  · have h := h.1 hc
    refine g_iconst X (1 : Int32) dX1_meet_25 (by decide) ?_
    refine g_weak [0] rfl ?_
    exact b_X1_meet_26 X hr hk0 h
  · have h := h.2 hc
    refine g_iconst X (2 : Int32) dX1_meet_21 (by decide) ?_
    refine g_goto X 26 dX1_meet_22 (by decide) ?_
    refine g_weak [0] rfl ?_
    exact b_X1_meet_26 X hr hk0 h
def w_X1_meet (k0 : Nat) (Q : St → Prop) (x1 : Int32) (x2 : Int32) (σ : St) : Prop := ((x1 = (3 : Int32) → (w_X1_meet_27 k0 Q (0 : Int32) σ)) ∧ (¬ x1 = (3 : Int32) → ((¬ x1 = (1 : Int32) → (w_X1_meet_17 k0 Q x2 (0 : Int32) σ)) ∧ (x1 = (1 : Int32) → (w_X1_meet_17 k0 Q x2 (1 : Int32) σ)))))
set_option maxRecDepth 100000 in
set_option maxHeartbeats 4000000 in
theorem b_X1_meet_0 {p : Program} {l : Launch} {e : Env} {s : State} {m : MethodId} {args : Array Value} {below : List Frame} {meth : Method} {c : Code} {D : va_G} {cA : Nat → ClassId} {A : Nat → Prop} {ad0 : Nat → Nat} {sh : SH} {k0 : Nat} {Q : St → Prop} {x1 : Int32} {x2 : Int32} {σ : St} (X : Cx p rmX1_meet s m args meth c cX1_meet 4 RX1 D cA A) (hr : meth.sig.returnType = none) (hk0 : keepSh sh k0) (h : w_X1_meet k0 Q x1 x2 σ) : G p l e rmX1_meet s m args below meth c 4 D cA A (MQ below (va_Qv Q (EndW D cA ad0 sh) A) args s 0 0 A) 0 0 (fun ad => ad = ad0) sh σ [(0, .ref k0), (1, .int x1), (2, .int x2)] 0 [] := by
  unfold w_X1_meet at h
  refine g_iconst X (0 : Int32) dX1_meet_0 (by decide) ?_
  refine g_istore_n X [(3, .int (0 : Int32)), (0, .ref k0), (1, .int x1), (2, .int x2)] dX1_meet_1 rfl (Nat.le_of_ble_eq_true rfl) rfl ?_
  refine g_iload_n X 2 dX1_meet_2 rfl rfl ?_
  refine g_iconst X (3 : Int32) dX1_meet_3 (by decide) ?_
  refine g_icmp_eq X 27 dX1_meet_4 (by decide) (fun hc => ?_) (fun hc => ?_)
  · have h := h.1 hc
    refine g_weak [1, 0] rfl ?_
    exact b_X1_meet_27 X hr hk0 h
  · have h := h.2 hc
    refine g_iload_n X 2 dX1_meet_7 rfl rfl ?_
    refine g_iconst X (1 : Int32) dX1_meet_8 (by decide) ?_
    refine g_icmp_ne X 16 dX1_meet_9 (by decide) (fun hc => ?_) (fun hc => ?_)
    · have h := h.1 hc
      refine g_iconst X (0 : Int32) dX1_meet_16 (by decide) ?_
      refine g_weak [1, 3] rfl ?_
      exact b_X1_meet_17 X hr hk0 h
    · have h := h.2 hc
      refine g_iconst X (1 : Int32) dX1_meet_12 (by decide) ?_
      refine g_goto X 17 dX1_meet_13 (by decide) ?_
      refine g_weak [1, 3] rfl ?_
      exact b_X1_meet_17 X hr hk0 h
theorem c_X1_meet (l : Launch) (D : va_G) (cA : Nat → ClassId) (sh : SH) {k0 : Nat} {x1 : Int32} {x2 : Int32} {σ : St} {Q : St → Prop} (hk0 : keepSh sh k0) (h : w_X1_meet k0 Q x1 x2 σ) : CtV l yX1_meet cX1_meet 4 (none) rmX1_meet D cA sh [.ref k0, .int x1, .int x2] σ Q := by
  refine CtV.of (own := RX1) rfl (by decide +kernel) [(0, .ref k0), (1, .int x1), (2, .int x2)] rfl (Nat.le_of_ble_eq_true rfl) ?_
  intro p e s m args below meth c ad0 A X hr
  exact b_X1_meet_0 X hr hk0 h
def rmX1_gainHalf : Room := { frames := 0, cells := 0, slots := 0, locals := 0 }
def w_X1_gainHalf_94 (k0 : Nat) (Q : St → Prop) (s0 : Int64) (s1 : Int64) (s2 : Int32) (σ : St) : Prop := vp_in s2 150 ∧ ∀ σ10 : St, σ10 = uJ σ (k0 + 2) (ix s2) (s1 + s0) → (Q σ10)
set_option maxRecDepth 100000 in
set_option maxHeartbeats 4000000 in
theorem b_X1_gainHalf_94 {p : Program} {l : Launch} {e : Env} {s : State} {m : MethodId} {args : Array Value} {below : List Frame} {meth : Method} {c : Code} {D : va_G} {cA : Nat → ClassId} {A : Nat → Prop} {ad0 : Nat → Nat} {sh : SH} {k0 : Nat} {Q : St → Prop} {s0 : Int64} {s1 : Int64} {s2 : Int32} {σ : St} (X : Cx p rmX1_gainHalf s m args meth c cX1_gainHalf 12 RX1 D cA A) (hr : meth.sig.returnType = none) (hk0 : keepSh sh k0) (h : w_X1_gainHalf_94 k0 Q s0 s1 s2 σ) : G p l e rmX1_gainHalf s m args below meth c 12 D cA A (MQ below (va_Qv Q (EndW D cA ad0 sh) A) args s 0 0 A) 0 0 (fun ad => ad = ad0) sh σ [] 94 [.long s0, .long s1, .int s2, .ref (k0 + 2)] := by
  unfold w_X1_gainHalf_94 at h
  refine g_ladd X dX1_gainHalf_94 ?_
  obtain ⟨hi9, h⟩ := h
  refine g_last X dX1_gainHalf_95 (keepSh.b2 hk0) (keepSh.k2 hk0) hi9 ?_
  refine g_nameS (fun σ10 eσ10 => ?_)
  have h := h σ10 eσ10
  exact g_vret X hr dX1_gainHalf_96 h
def w_X1_gainHalf_69 (k0 : Nat) (Q : St → Prop) (x4 : Int32) (x5 : Int32) (x10 : Int64) (s0 : Int64) (s1 : Int64) (s2 : Int32) (σ : St) : Prop := vp_in s2 150 ∧ ∀ σ7 : St, σ7 = uJ σ (k0 + 2) (ix s2) (s1 + s0) → vp_in (x5 + (1 : Int32)) 150 ∧ ((x4 = 0 → (w_X1_gainHalf_94 k0 Q x10 (gJ σ7 (k0 + 2) (ix (x5 + (1 : Int32)))) (x5 + (1 : Int32)) σ7)) ∧ (¬ x4 = 0 → (w_X1_gainHalf_94 k0 Q (-x10) (gJ σ7 (k0 + 2) (ix (x5 + (1 : Int32)))) (x5 + (1 : Int32)) σ7)))
set_option maxRecDepth 100000 in
set_option maxHeartbeats 4000000 in
theorem b_X1_gainHalf_69 {p : Program} {l : Launch} {e : Env} {s : State} {m : MethodId} {args : Array Value} {below : List Frame} {meth : Method} {c : Code} {D : va_G} {cA : Nat → ClassId} {A : Nat → Prop} {ad0 : Nat → Nat} {sh : SH} {k0 : Nat} {Q : St → Prop} {x4 : Int32} {x5 : Int32} {x10 : Int64} {s0 : Int64} {s1 : Int64} {s2 : Int32} {σ : St} (X : Cx p rmX1_gainHalf s m args meth c cX1_gainHalf 12 RX1 D cA A) (hr : meth.sig.returnType = none) (hk0 : keepSh sh k0) (h : w_X1_gainHalf_69 k0 Q x4 x5 x10 s0 s1 s2 σ) : G p l e rmX1_gainHalf s m args below meth c 12 D cA A (MQ below (va_Qv Q (EndW D cA ad0 sh) A) args s 0 0 A) 0 0 (fun ad => ad = ad0) sh σ [(0, .ref k0), (4, .int x4), (5, .int x5), (10, .long x10)] 69 [.long s0, .long s1, .int s2, .ref (k0 + 2)] := by
  unfold w_X1_gainHalf_69 at h
  refine g_ladd X dX1_gainHalf_69 ?_
  obtain ⟨hi6, h⟩ := h
  refine g_last X dX1_gainHalf_70 (keepSh.b2 hk0) (keepSh.k2 hk0) hi6 ?_
  refine g_nameS (fun σ7 eσ7 => ?_)
  have h := h σ7 eσ7
  refine g_aload_n X 0 dX1_gainHalf_71 rfl rfl ?_
  refine g_getR X (C := RX1) (T := TX1) (N := 4) 3 dX1_gainHalf_72 (keepSh.b0 hk0) (keepSh.k0 hk0) rfl rfl inG1 (Nat.le_of_ble_eq_true rfl) rfl (keepSh.r3 hk0) q89 ?_
  refine g_iload X 2 dX1_gainHalf_75 rfl ?_
  refine g_iconst X (1 : Int32) dX1_gainHalf_77 (by decide) ?_
  refine g_iadd X dX1_gainHalf_78 ?_
  refine g_dup2 X dX1_gainHalf_79 rfl rfl ?_
  obtain ⟨hi8, h⟩ := h
  refine g_lald X dX1_gainHalf_80 (keepSh.b2 hk0) (keepSh.k2 hk0) hi8 ?_
  refine g_iload X 1 dX1_gainHalf_81 rfl ?_
  refine g_if_eq X 92 dX1_gainHalf_83 (by decide) (fun hc => ?_) (fun hc => ?_)
  · have h := h.1 hc
    refine g_lload X 3 dX1_gainHalf_92 rfl ?_
    refine g_weak [] rfl ?_
    exact b_X1_gainHalf_94 X hr hk0 h
  · have h := h.2 hc
    refine g_lload X 3 dX1_gainHalf_86 rfl ?_
    refine g_lneg X dX1_gainHalf_88 ?_
    refine g_goto X 94 dX1_gainHalf_89 (by decide) ?_
    refine g_weak [] rfl ?_
    exact b_X1_gainHalf_94 X hr hk0 h
def w_X1_gainHalf (k0 : Nat) (Q : St → Prop) (x1 : Int64) (x3 : Int32) (x4 : Int32) (σ : St) : Prop := ∀ y1 : Int32, y1 = (x3 / (32 : Int32)) → ((x1 = (0 : Int64) → (Q σ)) ∧ (¬ x1 = (0 : Int64) → ((x3 < 0 → (Q σ)) ∧ (¬ x3 < 0 → ((y1 < (149 : Int32) → ∀ y2 : Int64, y2 = (lshlF x1 (x3 - x3 / (32 : Int32) * (32 : Int32))) → ∀ y3 : Int64, y3 = (y2 &&& (4294967295 : Int64)) → ∀ y4 : Int64, y4 = (lushrF y2 (32 : Int32)) → vp_in y1 150 ∧ ((x4 = 0 → (w_X1_gainHalf_69 k0 Q x4 y1 y4 y3 (gJ σ (k0 + 2) (ix y1)) y1 σ)) ∧ (¬ x4 = 0 → (w_X1_gainHalf_69 k0 Q x4 y1 y4 (-y3) (gJ σ (k0 + 2) (ix y1)) y1 σ)))) ∧ (¬ y1 < (149 : Int32) → (Q σ)))))))
set_option maxRecDepth 100000 in
set_option maxHeartbeats 4000000 in
theorem b_X1_gainHalf_0 {p : Program} {l : Launch} {e : Env} {s : State} {m : MethodId} {args : Array Value} {below : List Frame} {meth : Method} {c : Code} {D : va_G} {cA : Nat → ClassId} {A : Nat → Prop} {ad0 : Nat → Nat} {sh : SH} {k0 : Nat} {Q : St → Prop} {x1 : Int64} {x3 : Int32} {x4 : Int32} {σ : St} (X : Cx p rmX1_gainHalf s m args meth c cX1_gainHalf 12 RX1 D cA A) (hr : meth.sig.returnType = none) (hk0 : keepSh sh k0) (h : w_X1_gainHalf k0 Q x1 x3 x4 σ) : G p l e rmX1_gainHalf s m args below meth c 12 D cA A (MQ below (va_Qv Q (EndW D cA ad0 sh) A) args s 0 0 A) 0 0 (fun ad => ad = ad0) sh σ [(0, .ref k0), (1, .long x1), (3, .int x3), (4, .int x4)] 0 [] := by
  unfold w_X1_gainHalf at h
  refine g_iload_n X 2 dX1_gainHalf_0 rfl rfl ?_
  refine g_bipush X (32 : Int32) dX1_gainHalf_1 (by decide) ?_
  refine g_idiv X dX1_gainHalf_3 (by decide) ?_
  refine g_nameI (fun y1 ey1 => ?_)
  have h := h y1 ey1
  refine g_istore X [(5, .int y1), (0, .ref k0), (1, .long x1), (3, .int x3), (4, .int x4)] dX1_gainHalf_4 (Nat.le_of_ble_eq_true rfl) rfl ?_
  refine g_lload_n X 2 dX1_gainHalf_6 rfl rfl ?_
  refine g_lconst X (0 : Int64) dX1_gainHalf_7 (by decide) ?_
  refine g_lcmp X dX1_gainHalf_8 ?_
  refine g_if_eq X 24 dX1_gainHalf_9 (by decide) (fun hc => ?_) (fun hc => ?_)
  · have h := h.1 (lgc_eq.mp hc)
    exact g_vret X hr dX1_gainHalf_24 h
  · have h := h.2 (fun z => hc (lgc_eq.mpr z))
    refine g_iload_n X 3 dX1_gainHalf_12 rfl rfl ?_
    refine g_if_lt X 24 dX1_gainHalf_13 (by decide) (fun hc => ?_) (fun hc => ?_)
    · have h := h.1 hc
      exact g_vret X hr dX1_gainHalf_24 h
    · have h := h.2 hc
      refine g_iload X 0 dX1_gainHalf_16 rfl ?_
      refine g_sipush X (149 : Int32) dX1_gainHalf_18 (by decide) ?_
      refine g_icmp_lt X 25 dX1_gainHalf_21 (by decide) (fun hc => ?_) (fun hc => ?_)
      · have h := h.1 hc
        refine g_lload_n X 2 dX1_gainHalf_25 rfl rfl ?_
        refine g_iload_n X 3 dX1_gainHalf_26 rfl rfl ?_
        refine g_bipush X (32 : Int32) dX1_gainHalf_27 (by decide) ?_
        refine g_irem X dX1_gainHalf_29 (by decide) ?_
        refine g_lshl X dX1_gainHalf_30 ?_
        refine g_nameJ (fun y2 ey2 => ?_)
        have h := h y2 ey2
        refine g_lstore X [(6, .long y2), (5, .int y1), (0, .ref k0), (1, .long x1), (3, .int x3), (4, .int x4)] dX1_gainHalf_31 (Nat.le_of_ble_eq_true rfl) rfl ?_
        refine g_lload X 0 dX1_gainHalf_33 rfl ?_
        refine g_ldc2 X q358 dX1_gainHalf_35 ?_
        refine g_land X dX1_gainHalf_38 ?_
        refine g_nameJ (fun y3 ey3 => ?_)
        have h := h y3 ey3
        refine g_lstore X [(8, .long y3), (6, .long y2), (5, .int y1), (0, .ref k0), (1, .long x1), (3, .int x3), (4, .int x4)] dX1_gainHalf_39 (Nat.le_of_ble_eq_true rfl) rfl ?_
        refine g_lload X 1 dX1_gainHalf_41 rfl ?_
        refine g_bipush X (32 : Int32) dX1_gainHalf_43 (by decide) ?_
        refine g_lushr X dX1_gainHalf_45 ?_
        refine g_nameJ (fun y4 ey4 => ?_)
        have h := h y4 ey4
        refine g_lstore X [(10, .long y4), (8, .long y3), (6, .long y2), (5, .int y1), (0, .ref k0), (1, .long x1), (3, .int x3), (4, .int x4)] dX1_gainHalf_46 (Nat.le_of_ble_eq_true rfl) rfl ?_
        refine g_aload_n X 4 dX1_gainHalf_48 rfl rfl ?_
        refine g_getR X (C := RX1) (T := TX1) (N := 4) 3 dX1_gainHalf_49 (keepSh.b0 hk0) (keepSh.k0 hk0) rfl rfl inG1 (Nat.le_of_ble_eq_true rfl) rfl (keepSh.r3 hk0) q89 ?_
        refine g_iload X 3 dX1_gainHalf_52 rfl ?_
        refine g_dup2 X dX1_gainHalf_54 rfl rfl ?_
        obtain ⟨hi5, h⟩ := h
        refine g_lald X dX1_gainHalf_55 (keepSh.b2 hk0) (keepSh.k2 hk0) hi5 ?_
        refine g_iload X 7 dX1_gainHalf_56 rfl ?_
        refine g_if_eq X 67 dX1_gainHalf_58 (by decide) (fun hc => ?_) (fun hc => ?_)
        · have h := h.1 hc
          refine g_lload X 1 dX1_gainHalf_67 rfl ?_
          refine g_weak [4, 7, 3, 0] rfl ?_
          exact b_X1_gainHalf_69 X hr hk0 h
        · have h := h.2 hc
          refine g_lload X 1 dX1_gainHalf_61 rfl ?_
          refine g_lneg X dX1_gainHalf_63 ?_
          refine g_goto X 69 dX1_gainHalf_64 (by decide) ?_
          refine g_weak [4, 7, 3, 0] rfl ?_
          exact b_X1_gainHalf_69 X hr hk0 h
      · have h := h.2 hc
        exact g_vret X hr dX1_gainHalf_24 h
theorem c_X1_gainHalf (l : Launch) (D : va_G) (cA : Nat → ClassId) (sh : SH) {k0 : Nat} {x1 : Int64} {x3 : Int32} {x4 : Int32} {σ : St} {Q : St → Prop} (hk0 : keepSh sh k0) (h : w_X1_gainHalf k0 Q x1 x3 x4 σ) : CtV l yX1_gainHalf cX1_gainHalf 12 (none) rmX1_gainHalf D cA sh [.ref k0, .long x1, .int x3, .int x4] σ Q := by
  refine CtV.of (own := RX1) rfl (by decide +kernel) [(0, .ref k0), (1, .long x1), (3, .int x3), (4, .int x4)] rfl (Nat.le_of_ble_eq_true rfl) ?_
  intro p e s m args below meth c ad0 A X hr
  exact b_X1_gainHalf_0 X hr hk0 h
def rmX1_gainPart : Room := { frames := 1, cells := 0, slots := 0, locals := 31 }
def w_X1_gainPart (k0 : Nat) (Q : St → Prop) (x1 : Int64) (x3 : Int32) (x4 : Int32) (σ : St) : Prop := w_X1_gainHalf k0 (fun σ1 => w_X1_gainHalf k0 (fun σ2 => (Q σ2)) (lushrF x1 (32 : Int32)) (x3 + (32 : Int32)) x4 σ1) (x1 &&& (4294967295 : Int64)) x3 x4 σ
set_option maxRecDepth 100000 in
set_option maxHeartbeats 4000000 in
theorem b_X1_gainPart_0 {p : Program} {l : Launch} {e : Env} {s : State} {m : MethodId} {args : Array Value} {below : List Frame} {meth : Method} {c : Code} {D : va_G} {cA : Nat → ClassId} {A : Nat → Prop} {ad0 : Nat → Nat} {sh : SH} {k0 : Nat} {Q : St → Prop} {x1 : Int64} {x3 : Int32} {x4 : Int32} {σ : St} (X : Cx p rmX1_gainPart s m args meth c cX1_gainPart 5 RX1 D cA A) (hr : meth.sig.returnType = none) (hk0 : keepSh sh k0) (h : w_X1_gainPart k0 Q x1 x3 x4 σ) : G p l e rmX1_gainPart s m args below meth c 5 D cA A (MQ below (va_Qv Q (EndW D cA ad0 sh) A) args s 0 0 A) 0 0 (fun ad => ad = ad0) sh σ [(0, .ref k0), (1, .long x1), (3, .int x3), (4, .int x4)] 0 [] := by
  unfold w_X1_gainPart at h
  refine g_aload_n X 0 dX1_gainPart_0 rfl rfl ?_
  refine g_lload_n X 1 dX1_gainPart_1 rfl rfl ?_
  refine g_ldc2 X q358 dX1_gainPart_2 ?_
  refine g_land X dX1_gainPart_5 ?_
  refine g_iload_n X 2 dX1_gainPart_6 rfl rfl ?_
  refine g_iload X 3 dX1_gainPart_7 rfl ?_
  refine g_callVV X (C := RX1) (T := TX1) (N := 4) (n := 3) [.long (x1 &&& (4294967295 : Int64)), .int x3, .int x4] [] dX1_gainPart_9 (c_X1_gainHalf l D cA sh hk0 h) q363 q365 q7 q49 q366 (keepSh.b0 hk0) (keepSh.k0 hk0) rfl ⟨rfl, by decide, by decide, by decide +kernel⟩ rfl rfl (Nat.le_of_ble_eq_true rfl) rfl rfl ⟨(Nat.le_of_ble_eq_true rfl), (Nat.le_of_ble_eq_true rfl)⟩ (Nat.le_of_ble_eq_true rfl) (Nat.le_of_ble_eq_true rfl) (fun σ1 h => ?_)
  refine g_aload_n X 0 dX1_gainPart_12 rfl rfl ?_
  refine g_lload_n X 1 dX1_gainPart_13 rfl rfl ?_
  refine g_bipush X (32 : Int32) dX1_gainPart_14 (by decide) ?_
  refine g_lushr X dX1_gainPart_16 ?_
  refine g_iload_n X 2 dX1_gainPart_17 rfl rfl ?_
  refine g_bipush X (32 : Int32) dX1_gainPart_18 (by decide) ?_
  refine g_iadd X dX1_gainPart_20 ?_
  refine g_iload X 3 dX1_gainPart_21 rfl ?_
  refine g_callVV X (C := RX1) (T := TX1) (N := 4) (n := 3) [.long (lushrF x1 (32 : Int32)), .int (x3 + (32 : Int32)), .int x4] [] dX1_gainPart_23 (c_X1_gainHalf l D cA sh hk0 h) q363 q365 q7 q49 q366 (keepSh.b0 hk0) (keepSh.k0 hk0) rfl ⟨rfl, by decide, by decide, by decide +kernel⟩ rfl rfl (Nat.le_of_ble_eq_true rfl) rfl rfl ⟨(Nat.le_of_ble_eq_true rfl), (Nat.le_of_ble_eq_true rfl)⟩ (Nat.le_of_ble_eq_true rfl) (Nat.le_of_ble_eq_true rfl) (fun σ2 h => ?_)
  exact g_vret X hr dX1_gainPart_26 h
theorem c_X1_gainPart (l : Launch) (D : va_G) (cA : Nat → ClassId) (sh : SH) {k0 : Nat} {x1 : Int64} {x3 : Int32} {x4 : Int32} {σ : St} {Q : St → Prop} (hk0 : keepSh sh k0) (h : w_X1_gainPart k0 Q x1 x3 x4 σ) : CtV l yX1_gainPart cX1_gainPart 5 (none) rmX1_gainPart D cA sh [.ref k0, .long x1, .int x3, .int x4] σ Q := by
  refine CtV.of (own := RX1) rfl (by decide +kernel) [(0, .ref k0), (1, .long x1), (3, .int x3), (4, .int x4)] rfl (Nat.le_of_ble_eq_true rfl) ?_
  intro p e s m args below meth c ad0 A X hr
  exact b_X1_gainPart_0 X hr hk0 h
def rmX1_gain : Room := { frames := 2, cells := 0, slots := 0, locals := 55 }
def w_X1_gain_52 (k0 : Nat) (Q : St → Prop) (x5 : Int32) (x7 : Int64) (x9 : Int64) (s0 : Int32) (σ : St) : Prop := ∀ y3 : Int32, y3 = (x5 - (-2148 : Int32)) → w_X1_gainPart k0 (fun σ4 => w_X1_gainPart k0 (fun σ5 => w_X1_gainPart k0 (fun σ6 => w_X1_gainPart k0 (fun σ7 => (Q σ7)) ((lushrF x7 (32 : Int32)) * (lushrF x9 (32 : Int32))) (y3 + (64 : Int32)) s0 σ6) ((lushrF x7 (32 : Int32)) * (x9 &&& (4294967295 : Int64))) (y3 + (32 : Int32)) s0 σ5) ((x7 &&& (4294967295 : Int64)) * (lushrF x9 (32 : Int32))) (y3 + (32 : Int32)) s0 σ4) ((x7 &&& (4294967295 : Int64)) * (x9 &&& (4294967295 : Int64))) y3 s0 σ
set_option maxRecDepth 100000 in
set_option maxHeartbeats 4000000 in
theorem b_X1_gain_52 {p : Program} {l : Launch} {e : Env} {s : State} {m : MethodId} {args : Array Value} {below : List Frame} {meth : Method} {c : Code} {D : va_G} {cA : Nat → ClassId} {A : Nat → Prop} {ad0 : Nat → Nat} {sh : SH} {k0 : Nat} {Q : St → Prop} {x5 : Int32} {x7 : Int64} {x9 : Int64} {s0 : Int32} {σ : St} (X : Cx p rmX1_gain s m args meth c cX1_gain 13 RX1 D cA A) (hr : meth.sig.returnType = none) (hk0 : keepSh sh k0) (h : w_X1_gain_52 k0 Q x5 x7 x9 s0 σ) : G p l e rmX1_gain s m args below meth c 13 D cA A (MQ below (va_Qv Q (EndW D cA ad0 sh) A) args s 0 0 A) 0 0 (fun ad => ad = ad0) sh σ [(0, .ref k0), (5, .int x5), (7, .long x7), (9, .long x9)] 52 [.int s0] := by
  unfold w_X1_gain_52 at h
  refine g_istore X [(11, .int s0), (0, .ref k0), (5, .int x5), (7, .long x7), (9, .long x9)] dX1_gain_52 (Nat.le_of_ble_eq_true rfl) rfl ?_
  refine g_iload X 2 dX1_gain_54 rfl ?_
  refine g_sipush X (-2148 : Int32) dX1_gain_56 (by decide) ?_
  refine g_isub X dX1_gain_59 ?_
  refine g_nameI (fun y3 ey3 => ?_)
  have h := h y3 ey3
  refine g_istore X [(12, .int y3), (11, .int s0), (0, .ref k0), (5, .int x5), (7, .long x7), (9, .long x9)] dX1_gain_60 (Nat.le_of_ble_eq_true rfl) rfl ?_
  refine g_aload_n X 2 dX1_gain_62 rfl rfl ?_
  refine g_lload X 4 dX1_gain_63 rfl ?_
  refine g_ldc2 X q358 dX1_gain_65 ?_
  refine g_land X dX1_gain_68 ?_
  refine g_lload X 5 dX1_gain_69 rfl ?_
  refine g_ldc2 X q358 dX1_gain_71 ?_
  refine g_land X dX1_gain_74 ?_
  refine g_lmul X dX1_gain_75 ?_
  refine g_iload X 0 dX1_gain_76 rfl ?_
  refine g_iload X 1 dX1_gain_78 rfl ?_
  refine g_callVV X (C := RX1) (T := TX1) (N := 4) (n := 3) [.long ((x7 &&& (4294967295 : Int64)) * (x9 &&& (4294967295 : Int64))), .int y3, .int s0] [] dX1_gain_80 (c_X1_gainPart l D cA sh hk0 h) q359 q361 q6 q49 q362 (keepSh.b0 hk0) (keepSh.k0 hk0) rfl ⟨rfl, by decide, by decide, by decide +kernel⟩ rfl rfl (Nat.le_of_ble_eq_true rfl) rfl rfl ⟨(Nat.le_of_ble_eq_true rfl), (Nat.le_of_ble_eq_true rfl)⟩ (Nat.le_of_ble_eq_true rfl) (Nat.le_of_ble_eq_true rfl) (fun σ4 h => ?_)
  refine g_aload_n X 2 dX1_gain_83 rfl rfl ?_
  refine g_lload X 4 dX1_gain_84 rfl ?_
  refine g_ldc2 X q358 dX1_gain_86 ?_
  refine g_land X dX1_gain_89 ?_
  refine g_lload X 5 dX1_gain_90 rfl ?_
  refine g_bipush X (32 : Int32) dX1_gain_92 (by decide) ?_
  refine g_lushr X dX1_gain_94 ?_
  refine g_lmul X dX1_gain_95 ?_
  refine g_iload X 0 dX1_gain_96 rfl ?_
  refine g_bipush X (32 : Int32) dX1_gain_98 (by decide) ?_
  refine g_iadd X dX1_gain_100 ?_
  refine g_iload X 1 dX1_gain_101 rfl ?_
  refine g_callVV X (C := RX1) (T := TX1) (N := 4) (n := 3) [.long ((x7 &&& (4294967295 : Int64)) * (lushrF x9 (32 : Int32))), .int (y3 + (32 : Int32)), .int s0] [] dX1_gain_103 (c_X1_gainPart l D cA sh hk0 h) q359 q361 q6 q49 q362 (keepSh.b0 hk0) (keepSh.k0 hk0) rfl ⟨rfl, by decide, by decide, by decide +kernel⟩ rfl rfl (Nat.le_of_ble_eq_true rfl) rfl rfl ⟨(Nat.le_of_ble_eq_true rfl), (Nat.le_of_ble_eq_true rfl)⟩ (Nat.le_of_ble_eq_true rfl) (Nat.le_of_ble_eq_true rfl) (fun σ5 h => ?_)
  refine g_aload_n X 2 dX1_gain_106 rfl rfl ?_
  refine g_lload X 4 dX1_gain_107 rfl ?_
  refine g_bipush X (32 : Int32) dX1_gain_109 (by decide) ?_
  refine g_lushr X dX1_gain_111 ?_
  refine g_lload X 5 dX1_gain_112 rfl ?_
  refine g_ldc2 X q358 dX1_gain_114 ?_
  refine g_land X dX1_gain_117 ?_
  refine g_lmul X dX1_gain_118 ?_
  refine g_iload X 0 dX1_gain_119 rfl ?_
  refine g_bipush X (32 : Int32) dX1_gain_121 (by decide) ?_
  refine g_iadd X dX1_gain_123 ?_
  refine g_iload X 1 dX1_gain_124 rfl ?_
  refine g_callVV X (C := RX1) (T := TX1) (N := 4) (n := 3) [.long ((lushrF x7 (32 : Int32)) * (x9 &&& (4294967295 : Int64))), .int (y3 + (32 : Int32)), .int s0] [] dX1_gain_126 (c_X1_gainPart l D cA sh hk0 h) q359 q361 q6 q49 q362 (keepSh.b0 hk0) (keepSh.k0 hk0) rfl ⟨rfl, by decide, by decide, by decide +kernel⟩ rfl rfl (Nat.le_of_ble_eq_true rfl) rfl rfl ⟨(Nat.le_of_ble_eq_true rfl), (Nat.le_of_ble_eq_true rfl)⟩ (Nat.le_of_ble_eq_true rfl) (Nat.le_of_ble_eq_true rfl) (fun σ6 h => ?_)
  refine g_aload_n X 2 dX1_gain_129 rfl rfl ?_
  refine g_lload X 4 dX1_gain_130 rfl ?_
  refine g_bipush X (32 : Int32) dX1_gain_132 (by decide) ?_
  refine g_lushr X dX1_gain_134 ?_
  refine g_lload X 5 dX1_gain_135 rfl ?_
  refine g_bipush X (32 : Int32) dX1_gain_137 (by decide) ?_
  refine g_lushr X dX1_gain_139 ?_
  refine g_lmul X dX1_gain_140 ?_
  refine g_iload X 0 dX1_gain_141 rfl ?_
  refine g_bipush X (64 : Int32) dX1_gain_143 (by decide) ?_
  refine g_iadd X dX1_gain_145 ?_
  refine g_iload X 1 dX1_gain_146 rfl ?_
  refine g_callVV X (C := RX1) (T := TX1) (N := 4) (n := 3) [.long ((lushrF x7 (32 : Int32)) * (lushrF x9 (32 : Int32))), .int (y3 + (64 : Int32)), .int s0] [] dX1_gain_148 (c_X1_gainPart l D cA sh hk0 h) q359 q361 q6 q49 q362 (keepSh.b0 hk0) (keepSh.k0 hk0) rfl ⟨rfl, by decide, by decide, by decide +kernel⟩ rfl rfl (Nat.le_of_ble_eq_true rfl) rfl rfl ⟨(Nat.le_of_ble_eq_true rfl), (Nat.le_of_ble_eq_true rfl)⟩ (Nat.le_of_ble_eq_true rfl) (Nat.le_of_ble_eq_true rfl) (fun σ7 h => ?_)
  exact g_vret X hr dX1_gain_151 h
def w_X1_gain_42 (k0 : Nat) (Q : St → Prop) (x5 : Int32) (x6 : Int32) (x7 : Int64) (x9 : Int64) (s0 : Int32) (σ : St) : Prop := ((s0 = x6 → (w_X1_gain_52 k0 Q x5 x7 x9 (0 : Int32) σ)) ∧ (¬ s0 = x6 → (w_X1_gain_52 k0 Q x5 x7 x9 (1 : Int32) σ)))
set_option maxRecDepth 100000 in
set_option maxHeartbeats 4000000 in
theorem b_X1_gain_42 {p : Program} {l : Launch} {e : Env} {s : State} {m : MethodId} {args : Array Value} {below : List Frame} {meth : Method} {c : Code} {D : va_G} {cA : Nat → ClassId} {A : Nat → Prop} {ad0 : Nat → Nat} {sh : SH} {k0 : Nat} {Q : St → Prop} {x5 : Int32} {x6 : Int32} {x7 : Int64} {x9 : Int64} {s0 : Int32} {σ : St} (X : Cx p rmX1_gain s m args meth c cX1_gain 13 RX1 D cA A) (hr : meth.sig.returnType = none) (hk0 : keepSh sh k0) (h : w_X1_gain_42 k0 Q x5 x6 x7 x9 s0 σ) : G p l e rmX1_gain s m args below meth c 13 D cA A (MQ below (va_Qv Q (EndW D cA ad0 sh) A) args s 0 0 A) 0 0 (fun ad => ad = ad0) sh σ [(0, .ref k0), (5, .int x5), (6, .int x6), (7, .long x7), (9, .long x9)] 42 [.int s0] := by
  unfold w_X1_gain_42 at h
  refine g_iload X 2 dX1_gain_42 rfl ?_
  refine g_icmp_eq X 51 dX1_gain_44 (by decide) (fun hc => ?_) (fun hc => ?_)
  · have h := h.1 hc
    refine g_iconst X (0 : Int32) dX1_gain_51 (by decide) ?_
    refine g_weak [0, 1, 3, 4] rfl ?_
    exact b_X1_gain_52 X hr hk0 h
  · have h := h.2 hc
    refine g_iconst X (1 : Int32) dX1_gain_47 (by decide) ?_
    refine g_goto X 52 dX1_gain_48 (by decide) ?_
    refine g_weak [0, 1, 3, 4] rfl ?_
    exact b_X1_gain_52 X hr hk0 h
def w_X1_gain_34 (k0 : Nat) (Q : St → Prop) (x5 : Int32) (x6 : Int32) (x7 : Int64) (x9 : Int64) (s0 : Int32) (s1 : Int32) (σ : St) : Prop := ((s1 = s0 → (w_X1_gain_42 k0 Q x5 x6 x7 x9 (0 : Int32) σ)) ∧ (¬ s1 = s0 → (w_X1_gain_42 k0 Q x5 x6 x7 x9 (1 : Int32) σ)))
set_option maxRecDepth 100000 in
set_option maxHeartbeats 4000000 in
theorem b_X1_gain_34 {p : Program} {l : Launch} {e : Env} {s : State} {m : MethodId} {args : Array Value} {below : List Frame} {meth : Method} {c : Code} {D : va_G} {cA : Nat → ClassId} {A : Nat → Prop} {ad0 : Nat → Nat} {sh : SH} {k0 : Nat} {Q : St → Prop} {x5 : Int32} {x6 : Int32} {x7 : Int64} {x9 : Int64} {s0 : Int32} {s1 : Int32} {σ : St} (X : Cx p rmX1_gain s m args meth c cX1_gain 13 RX1 D cA A) (hr : meth.sig.returnType = none) (hk0 : keepSh sh k0) (h : w_X1_gain_34 k0 Q x5 x6 x7 x9 s0 s1 σ) : G p l e rmX1_gain s m args below meth c 13 D cA A (MQ below (va_Qv Q (EndW D cA ad0 sh) A) args s 0 0 A) 0 0 (fun ad => ad = ad0) sh σ [(0, .ref k0), (5, .int x5), (6, .int x6), (7, .long x7), (9, .long x9)] 34 [.int s0, .int s1] := by
  unfold w_X1_gain_34 at h
  refine g_icmp_eq X 41 dX1_gain_34 (by decide) (fun hc => ?_) (fun hc => ?_)
  · have h := h.1 hc
    refine g_iconst X (0 : Int32) dX1_gain_41 (by decide) ?_
    exact b_X1_gain_42 X hr hk0 h
  · have h := h.2 hc
    refine g_iconst X (1 : Int32) dX1_gain_37 (by decide) ?_
    refine g_goto X 42 dX1_gain_38 (by decide) ?_
    exact b_X1_gain_42 X hr hk0 h
def w_X1_gain_23 (k0 : Nat) (Q : St → Prop) (x3 : Int64) (x5 : Int32) (x6 : Int32) (x7 : Int64) (x9 : Int64) (s0 : Int32) (σ : St) : Prop := (((0 : Int64) ≤ x3 → (w_X1_gain_34 k0 Q x5 x6 x7 x9 (0 : Int32) s0 σ)) ∧ (¬ (0 : Int64) ≤ x3 → (w_X1_gain_34 k0 Q x5 x6 x7 x9 (1 : Int32) s0 σ)))
set_option maxRecDepth 100000 in
set_option maxHeartbeats 4000000 in
theorem b_X1_gain_23 {p : Program} {l : Launch} {e : Env} {s : State} {m : MethodId} {args : Array Value} {below : List Frame} {meth : Method} {c : Code} {D : va_G} {cA : Nat → ClassId} {A : Nat → Prop} {ad0 : Nat → Nat} {sh : SH} {k0 : Nat} {Q : St → Prop} {x3 : Int64} {x5 : Int32} {x6 : Int32} {x7 : Int64} {x9 : Int64} {s0 : Int32} {σ : St} (X : Cx p rmX1_gain s m args meth c cX1_gain 13 RX1 D cA A) (hr : meth.sig.returnType = none) (hk0 : keepSh sh k0) (h : w_X1_gain_23 k0 Q x3 x5 x6 x7 x9 s0 σ) : G p l e rmX1_gain s m args below meth c 13 D cA A (MQ below (va_Qv Q (EndW D cA ad0 sh) A) args s 0 0 A) 0 0 (fun ad => ad = ad0) sh σ [(0, .ref k0), (3, .long x3), (5, .int x5), (6, .int x6), (7, .long x7), (9, .long x9)] 23 [.int s0] := by
  unfold w_X1_gain_23 at h
  refine g_lload_n X 1 dX1_gain_23 rfl rfl ?_
  refine g_lconst X (0 : Int64) dX1_gain_24 (by decide) ?_
  refine g_lcmp X dX1_gain_25 ?_
  refine g_if_ge X 33 dX1_gain_26 (by decide) (fun hc => ?_) (fun hc => ?_)
  · have h := h.1 (lgc_ge.mp hc)
    refine g_iconst X (0 : Int32) dX1_gain_33 (by decide) ?_
    refine g_weak [0, 2, 3, 4, 5] rfl ?_
    exact b_X1_gain_34 X hr hk0 h
  · have h := h.2 (fun z => hc (lgc_ge.mpr z))
    refine g_iconst X (1 : Int32) dX1_gain_29 (by decide) ?_
    refine g_goto X 34 dX1_gain_30 (by decide) ?_
    refine g_weak [0, 2, 3, 4, 5] rfl ?_
    exact b_X1_gain_34 X hr hk0 h
def w_X1_gain (k0 : Nat) (Q : St → Prop) (x1 : Int64) (x3 : Int64) (x5 : Int32) (x6 : Int32) (σ : St) : Prop := ∀ y1 : Int64, y1 = (if 0 < x1 then x1 else -x1) → ∀ y2 : Int64, y2 = (if 0 < x3 then x3 else -x3) → (((0 : Int64) ≤ x1 → (w_X1_gain_23 k0 Q x3 x5 x6 y1 y2 (0 : Int32) σ)) ∧ (¬ (0 : Int64) ≤ x1 → (w_X1_gain_23 k0 Q x3 x5 x6 y1 y2 (1 : Int32) σ)))
set_option maxRecDepth 100000 in
set_option maxHeartbeats 4000000 in
theorem b_X1_gain_0 {p : Program} {l : Launch} {e : Env} {s : State} {m : MethodId} {args : Array Value} {below : List Frame} {meth : Method} {c : Code} {D : va_G} {cA : Nat → ClassId} {A : Nat → Prop} {ad0 : Nat → Nat} {sh : SH} {k0 : Nat} {Q : St → Prop} {x1 : Int64} {x3 : Int64} {x5 : Int32} {x6 : Int32} {σ : St} (X : Cx p rmX1_gain s m args meth c cX1_gain 13 RX1 D cA A) (hr : meth.sig.returnType = none) (hk0 : keepSh sh k0) (h : w_X1_gain k0 Q x1 x3 x5 x6 σ) : G p l e rmX1_gain s m args below meth c 13 D cA A (MQ below (va_Qv Q (EndW D cA ad0 sh) A) args s 0 0 A) 0 0 (fun ad => ad = ad0) sh σ [(0, .ref k0), (1, .long x1), (3, .long x3), (5, .int x5), (6, .int x6)] 0 [] := by
  unfold w_X1_gain at h
  refine g_lload_n X 1 dX1_gain_0 rfl rfl ?_
  refine g_mabsl X dX1_gain_1 q357 q180 q53 q181 (Nat.le_of_ble_eq_true rfl) (Nat.le_of_ble_eq_true rfl) (Nat.le_of_ble_eq_true rfl) (Nat.le_of_ble_eq_true rfl) ?_
  refine g_nameJ (fun y1 ey1 => ?_)
  have h := h y1 ey1
  refine g_lstore X [(7, .long y1), (0, .ref k0), (1, .long x1), (3, .long x3), (5, .int x5), (6, .int x6)] dX1_gain_4 (Nat.le_of_ble_eq_true rfl) rfl ?_
  refine g_lload_n X 3 dX1_gain_6 rfl rfl ?_
  refine g_mabsl X dX1_gain_7 q357 q180 q53 q181 (Nat.le_of_ble_eq_true rfl) (Nat.le_of_ble_eq_true rfl) (Nat.le_of_ble_eq_true rfl) (Nat.le_of_ble_eq_true rfl) ?_
  refine g_nameJ (fun y2 ey2 => ?_)
  have h := h y2 ey2
  refine g_lstore X [(9, .long y2), (7, .long y1), (0, .ref k0), (1, .long x1), (3, .long x3), (5, .int x5), (6, .int x6)] dX1_gain_10 (Nat.le_of_ble_eq_true rfl) rfl ?_
  refine g_lload_n X 3 dX1_gain_12 rfl rfl ?_
  refine g_lconst X (0 : Int64) dX1_gain_13 (by decide) ?_
  refine g_lcmp X dX1_gain_14 ?_
  refine g_if_ge X 22 dX1_gain_15 (by decide) (fun hc => ?_) (fun hc => ?_)
  · have h := h.1 (lgc_ge.mp hc)
    refine g_iconst X (0 : Int32) dX1_gain_22 (by decide) ?_
    refine g_weak [2, 4, 5, 6, 1, 0] rfl ?_
    exact b_X1_gain_23 X hr hk0 h
  · have h := h.2 (fun z => hc (lgc_ge.mpr z))
    refine g_iconst X (1 : Int32) dX1_gain_18 (by decide) ?_
    refine g_goto X 23 dX1_gain_19 (by decide) ?_
    refine g_weak [2, 4, 5, 6, 1, 0] rfl ?_
    exact b_X1_gain_23 X hr hk0 h
theorem c_X1_gain (l : Launch) (D : va_G) (cA : Nat → ClassId) (sh : SH) {k0 : Nat} {x1 : Int64} {x3 : Int64} {x5 : Int32} {x6 : Int32} {σ : St} {Q : St → Prop} (hk0 : keepSh sh k0) (h : w_X1_gain k0 Q x1 x3 x5 x6 σ) : CtV l yX1_gain cX1_gain 13 (none) rmX1_gain D cA sh [.ref k0, .long x1, .long x3, .int x5, .int x6] σ Q := by
  refine CtV.of (own := RX1) rfl (by decide +kernel) [(0, .ref k0), (1, .long x1), (3, .long x3), (5, .int x5), (6, .int x6)] rfl (Nat.le_of_ble_eq_true rfl) ?_
  intro p e s m args below meth c ad0 A X hr
  exact b_X1_gain_0 X hr hk0 h
def rmX1_gather : Room := { frames := 3, cells := 0, slots := 0, locals := 87 }
def w_X1_gather_3 (k0 : Nat) (Q : St → Prop) : Nat → Nat → Nat → Int32 → Int32 → Int32 → Int32 → St → Prop
  | 0, _, _, _, _, _, _, _ => False
  | n + 1, k1, k2, x3, x4, x5, x6, σ => (((x3 + x4) ≤ x6 → w_X1_carry k0 (fun σ1 => (Q σ1)) σ) ∧ (¬ (x3 + x4) ≤ x6 → w_X1_sortOfProduct (fun r3 σ2 => ((¬ r3 = 0 → w_X1_meet k0 (fun σ4 => ∀ y5 : Int32, y5 = x6 + (1 : Int32) → (w_X1_gather_3 k0 Q n k1 k2 x3 x4 x5 y5 σ4)) r3 x5 σ2) ∧ (r3 = 0 → vp_in x6 40 ∧ vp_in x6 40 ∧ vp_in x6 40 ∧ vp_in x6 40 ∧ w_X1_gain k0 (fun σ10 => ∀ y11 : Int32, y11 = x6 + (1 : Int32) → (w_X1_gather_3 k0 Q n k1 k2 x3 x4 x5 y11 σ10)) (gJ σ2 (k1 + 1) (ix x6)) (gJ σ2 (k2 + 1) (ix x6)) ((gI σ2 (k1 + 2) (ix x6)) + (gI σ2 (k2 + 2) (ix x6))) x5 σ2))) k1 k2 x6 σ))
set_option maxRecDepth 100000 in
set_option maxHeartbeats 4000000 in
theorem b_X1_gather_3 {p : Program} {l : Launch} {e : Env} {s : State} {m : MethodId} {args : Array Value} {below : List Frame} {meth : Method} {c : Code} {D : va_G} {cA : Nat → ClassId} {A : Nat → Prop} {ad0 : Nat → Nat} {sh : SH} {k0 : Nat} {Q : St → Prop} (X : Cx p rmX1_gather s m args meth c cX1_gather 8 RX1 D cA A) (hr : meth.sig.returnType = none) (hk0 : keepSh sh k0) : ∀ (n : Nat) (k1 : Nat) (k2 : Nat) (x3 : Int32) (x4 : Int32) (x5 : Int32) (x6 : Int32) (σ : St), rowSh sh k1 → rowSh sh k2 → w_X1_gather_3 k0 Q n k1 k2 x3 x4 x5 x6 σ → G p l e rmX1_gather s m args below meth c 8 D cA A (MQ below (va_Qv Q (EndW D cA ad0 sh) A) args s 0 0 A) 0 0 (fun ad => ad = ad0) sh σ [(0, .ref k0), (1, .ref k1), (2, .ref k2), (3, .int x3), (4, .int x4), (5, .int x5), (6, .int x6)] 3 [] := by
  intro n
  induction n with
  | zero => intro k1 k2 x3 x4 x5 x6 σ hk1 hk2 h; exact h.elim
  | succ n ih =>
    intro k1 k2 x3 x4 x5 x6 σ hk1 hk2 h
    rw [w_X1_gather_3] at h
    refine g_iload X 6 dX1_gather_3 rfl ?_
    refine g_iload_n X 3 dX1_gather_5 rfl rfl ?_
    refine g_iload X 4 dX1_gather_6 rfl ?_
    refine g_iadd X dX1_gather_8 ?_
    refine g_icmp_ge X 78 dX1_gather_9 (by decide) (fun hc => ?_) (fun hc => ?_)
    · have h := h.1 hc
      refine g_aload_n X 0 dX1_gather_78 rfl rfl ?_
      refine g_callVV X (C := RX1) (T := TX1) (N := 4) (n := 0) [] [] dX1_gather_79 (c_X1_carry l D cA sh hk0 h) q373 q375 q9 q49 q376 (keepSh.b0 hk0) (keepSh.k0 hk0) rfl ⟨rfl, by decide, by decide, by decide +kernel⟩ rfl rfl (Nat.le_of_ble_eq_true rfl) rfl rfl ⟨(Nat.le_of_ble_eq_true rfl), (Nat.le_of_ble_eq_true rfl)⟩ (Nat.le_of_ble_eq_true rfl) (Nat.le_of_ble_eq_true rfl) (fun σ1 h => ?_)
      exact g_vret X hr dX1_gather_82 h
    · have h := h.2 hc
      refine g_aload_n X 1 dX1_gather_12 rfl rfl ?_
      refine g_aload_n X 2 dX1_gather_13 rfl rfl ?_
      refine g_iload X 6 dX1_gather_14 rfl ?_
      refine g_callSI X (n := 3) [.ref k1, .ref k2, .int x6] [] dX1_gather_16 (c_X1_sortOfProduct l D cA sh hk1 hk2 h) q349 q350 q49 q351 ⟨by decide, by decide, by decide +kernel⟩ rfl rfl (Nat.le_of_ble_eq_true rfl) rfl rfl ⟨(Nat.le_of_ble_eq_true rfl), (Nat.le_of_ble_eq_true rfl)⟩ (Nat.le_of_ble_eq_true rfl) (Nat.le_of_ble_eq_true rfl) (fun r3 σ2 h => ?_)
      refine g_istore X [(7, .int r3), (0, .ref k0), (1, .ref k1), (2, .ref k2), (3, .int x3), (4, .int x4), (5, .int x5), (6, .int x6)] dX1_gather_19 (Nat.le_of_ble_eq_true rfl) rfl ?_
      refine g_iload X 0 dX1_gather_21 rfl ?_
      refine g_if_ne X 64 dX1_gather_23 (by decide) (fun hc => ?_) (fun hc => ?_)
      · have h := h.1 hc
        refine g_aload_n X 1 dX1_gather_64 rfl rfl ?_
        refine g_iload X 0 dX1_gather_65 rfl ?_
        refine g_iload X 6 dX1_gather_67 rfl ?_
        refine g_callVV X (C := RX1) (T := TX1) (N := 4) (n := 2) [.int r3, .int x5] [] dX1_gather_69 (c_X1_meet l D cA sh hk0 h) q367 q369 q8 q49 q370 (keepSh.b0 hk0) (keepSh.k0 hk0) rfl ⟨rfl, by decide, by decide, by decide +kernel⟩ rfl rfl (Nat.le_of_ble_eq_true rfl) rfl rfl ⟨(Nat.le_of_ble_eq_true rfl), (Nat.le_of_ble_eq_true rfl)⟩ (Nat.le_of_ble_eq_true rfl) (Nat.le_of_ble_eq_true rfl) (fun σ4 h => ?_)
        obtain ⟨y5, ey5⟩ : ∃ y : Int32, y = x6 + (1 : Int32) := ⟨_, rfl⟩
        have h := h y5 ey5
        refine g_iinc X 7 (1 : Int32) [(6, .int y5), (7, .int r3), (0, .ref k0), (1, .ref k1), (2, .ref k2), (3, .int x3), (4, .int x4), (5, .int x5)] dX1_gather_72 rfl (by decide) (Nat.le_of_ble_eq_true rfl) (by rw [ey5]; rfl) ?_
        refine g_goto X 3 dX1_gather_75 (by decide) ?_
        refine g_weak [2, 3, 4, 5, 6, 7, 0] rfl ?_
        exact ih _ _ _ _ _ _ _ hk1 hk2 h
      · have h := h.2 hc
        refine g_aload_n X 1 dX1_gather_26 rfl rfl ?_
        refine g_aload_n X 2 dX1_gather_27 rfl rfl ?_
        refine g_getR X (C := RX2) (T := TX2) (N := 6) 3 dX1_gather_28 (rowSh.b0 hk1) (rowSh.k0 hk1) rfl rfl inG2 (Nat.le_of_ble_eq_true rfl) rfl (rowSh.r3 hk1) q139 ?_
        refine g_iload X 7 dX1_gather_31 rfl ?_
        obtain ⟨hi6, h⟩ := h
        refine g_lald X dX1_gather_33 (rowSh.b1 hk1) (rowSh.k1 hk1) hi6 ?_
        refine g_aload_n X 3 dX1_gather_34 rfl rfl ?_
        refine g_getR X (C := RX2) (T := TX2) (N := 6) 3 dX1_gather_35 (rowSh.b0 hk2) (rowSh.k0 hk2) rfl rfl inG2 (Nat.le_of_ble_eq_true rfl) rfl (rowSh.r3 hk2) q139 ?_
        refine g_iload X 7 dX1_gather_38 rfl ?_
        obtain ⟨hi7, h⟩ := h
        refine g_lald X dX1_gather_40 (rowSh.b1 hk2) (rowSh.k1 hk2) hi7 ?_
        refine g_aload_n X 2 dX1_gather_41 rfl rfl ?_
        refine g_getR X (C := RX2) (T := TX2) (N := 6) 4 dX1_gather_42 (rowSh.b0 hk1) (rowSh.k0 hk1) rfl rfl inG2 (Nat.le_of_ble_eq_true rfl) rfl (rowSh.r4 hk1) q141 ?_
        refine g_iload X 7 dX1_gather_45 rfl ?_
        obtain ⟨hi8, h⟩ := h
        refine g_iald X dX1_gather_47 (rowSh.b2 hk1) (rowSh.k2 hk1) hi8 ?_
        refine g_aload_n X 3 dX1_gather_48 rfl rfl ?_
        refine g_getR X (C := RX2) (T := TX2) (N := 6) 4 dX1_gather_49 (rowSh.b0 hk2) (rowSh.k0 hk2) rfl rfl inG2 (Nat.le_of_ble_eq_true rfl) rfl (rowSh.r4 hk2) q141 ?_
        refine g_iload X 7 dX1_gather_52 rfl ?_
        obtain ⟨hi9, h⟩ := h
        refine g_iald X dX1_gather_54 (rowSh.b2 hk2) (rowSh.k2 hk2) hi9 ?_
        refine g_iadd X dX1_gather_55 ?_
        refine g_iload X 6 dX1_gather_56 rfl ?_
        refine g_callVV X (C := RX1) (T := TX1) (N := 4) (n := 4) [.long (gJ σ2 (k1 + 1) (ix x6)), .long (gJ σ2 (k2 + 1) (ix x6)), .int ((gI σ2 (k1 + 2) (ix x6)) + (gI σ2 (k2 + 2) (ix x6))), .int x5] [] dX1_gather_58 (c_X1_gain l D cA sh hk0 h) q353 q355 q5 q49 q356 (keepSh.b0 hk0) (keepSh.k0 hk0) rfl ⟨rfl, by decide, by decide, by decide +kernel⟩ rfl rfl (Nat.le_of_ble_eq_true rfl) rfl rfl ⟨(Nat.le_of_ble_eq_true rfl), (Nat.le_of_ble_eq_true rfl)⟩ (Nat.le_of_ble_eq_true rfl) (Nat.le_of_ble_eq_true rfl) (fun σ10 h => ?_)
        refine g_goto X 72 dX1_gather_61 (by decide) ?_
        obtain ⟨y11, ey11⟩ : ∃ y : Int32, y = x6 + (1 : Int32) := ⟨_, rfl⟩
        have h := h y11 ey11
        refine g_iinc X 7 (1 : Int32) [(6, .int y11), (7, .int r3), (0, .ref k0), (1, .ref k1), (2, .ref k2), (3, .int x3), (4, .int x4), (5, .int x5)] dX1_gather_72 rfl (by decide) (Nat.le_of_ble_eq_true rfl) (by rw [ey11]; rfl) ?_
        refine g_goto X 3 dX1_gather_75 (by decide) ?_
        refine g_weak [2, 3, 4, 5, 6, 7, 0] rfl ?_
        exact ih _ _ _ _ _ _ _ hk1 hk2 h
def w_X1_gather (k0 : Nat) (Q : St → Prop) (k1 : Nat) (k2 : Nat) (x3 : Int32) (x4 : Int32) (x5 : Int32) (σ : St) : Prop := (∃ fu12 : Nat, w_X1_gather_3 k0 Q fu12 k1 k2 x3 x4 x5 x3 σ)
set_option maxRecDepth 100000 in
set_option maxHeartbeats 4000000 in
theorem b_X1_gather_0 {p : Program} {l : Launch} {e : Env} {s : State} {m : MethodId} {args : Array Value} {below : List Frame} {meth : Method} {c : Code} {D : va_G} {cA : Nat → ClassId} {A : Nat → Prop} {ad0 : Nat → Nat} {sh : SH} {k0 : Nat} {Q : St → Prop} {k1 : Nat} {k2 : Nat} {x3 : Int32} {x4 : Int32} {x5 : Int32} {σ : St} (X : Cx p rmX1_gather s m args meth c cX1_gather 8 RX1 D cA A) (hr : meth.sig.returnType = none) (hk0 : keepSh sh k0) (hk1 : rowSh sh k1) (hk2 : rowSh sh k2) (h : w_X1_gather k0 Q k1 k2 x3 x4 x5 σ) : G p l e rmX1_gather s m args below meth c 8 D cA A (MQ below (va_Qv Q (EndW D cA ad0 sh) A) args s 0 0 A) 0 0 (fun ad => ad = ad0) sh σ [(0, .ref k0), (1, .ref k1), (2, .ref k2), (3, .int x3), (4, .int x4), (5, .int x5)] 0 [] := by
  unfold w_X1_gather at h
  refine g_iload_n X 3 dX1_gather_0 rfl rfl ?_
  refine g_istore X [(6, .int x3), (0, .ref k0), (1, .ref k1), (2, .ref k2), (3, .int x3), (4, .int x4), (5, .int x5)] dX1_gather_1 (Nat.le_of_ble_eq_true rfl) rfl ?_
  refine g_weak [1, 2, 3, 4, 5, 6, 0] rfl ?_
  obtain ⟨fu12, h⟩ := h
  exact b_X1_gather_3 X hr hk0 fu12 _ _ _ _ _ _ _ hk1 hk2 h
theorem c_X1_gather (l : Launch) (D : va_G) (cA : Nat → ClassId) (sh : SH) {k0 : Nat} {k1 : Nat} {k2 : Nat} {x3 : Int32} {x4 : Int32} {x5 : Int32} {σ : St} {Q : St → Prop} (hk0 : keepSh sh k0) (hk1 : rowSh sh k1) (hk2 : rowSh sh k2) (h : w_X1_gather k0 Q k1 k2 x3 x4 x5 σ) : CtV l yX1_gather cX1_gather 8 (none) rmX1_gather D cA sh [.ref k0, .ref k1, .ref k2, .int x3, .int x4, .int x5] σ Q := by
  refine CtV.of (own := RX1) rfl (by decide +kernel) [(0, .ref k0), (1, .ref k1), (2, .ref k2), (3, .int x3), (4, .int x4), (5, .int x5)] rfl (Nat.le_of_ble_eq_true rfl) ?_
  intro p e s m args below meth c ad0 A X hr
  exact b_X1_gather_0 X hr hk0 hk1 hk2 h
def rmX1_gainAll : Room := { frames := 1, cells := 0, slots := 0, locals := 25 }
def w_X1_gainAll_36 (k0 : Nat) (Q : St → Prop) : Nat → Nat → Int32 → St → Prop
  | 0, _, _, _ => False
  | n + 1, k1, x2, σ => (((3 : Int32) ≤ x2 → (Q σ)) ∧ (¬ (3 : Int32) ≤ x2 → vp_in x2 3 ∧ vp_in x2 3 ∧ ∀ y4 : Int32, y4 = (if (1000000000 : Int32) < ((gI σ (k0 + 1) (ix x2)) + (gI σ (k1 + 1) (ix x2))) then (1000000000 : Int32) else ((gI σ (k0 + 1) (ix x2)) + (gI σ (k1 + 1) (ix x2)))) → vp_in x2 3 ∧ ∀ σ6 : St, σ6 = uI σ (k0 + 1) (ix x2) y4 → ∀ y7 : Int32, y7 = x2 + (1 : Int32) → (w_X1_gainAll_36 k0 Q n k1 y7 σ6)))
set_option maxRecDepth 100000 in
set_option maxHeartbeats 4000000 in
theorem b_X1_gainAll_36 {p : Program} {l : Launch} {e : Env} {s : State} {m : MethodId} {args : Array Value} {below : List Frame} {meth : Method} {c : Code} {D : va_G} {cA : Nat → ClassId} {A : Nat → Prop} {ad0 : Nat → Nat} {sh : SH} {k0 : Nat} {Q : St → Prop} (X : Cx p rmX1_gainAll s m args meth c cX1_gainAll 3 RX1 D cA A) (hr : meth.sig.returnType = none) (hk0 : keepSh sh k0) : ∀ (n : Nat) (k1 : Nat) (x2 : Int32) (σ : St), keepSh sh k1 → w_X1_gainAll_36 k0 Q n k1 x2 σ → G p l e rmX1_gainAll s m args below meth c 3 D cA A (MQ below (va_Qv Q (EndW D cA ad0 sh) A) args s 0 0 A) 0 0 (fun ad => ad = ad0) sh σ [(0, .ref k0), (1, .ref k1), (2, .int x2)] 36 [] := by
  intro n
  induction n with
  | zero => intro k1 x2 σ hk1 h; exact h.elim
  | succ n ih =>
    intro k1 x2 σ hk1 h
    rw [w_X1_gainAll_36] at h
    refine g_iload_n X 2 dX1_gainAll_36 rfl rfl ?_
    refine g_aload_n X 0 dX1_gainAll_37 rfl rfl ?_
    refine g_getR X (C := RX1) (T := TX1) (N := 4) 2 dX1_gainAll_38 (keepSh.b0 hk0) (keepSh.k0 hk0) rfl rfl inG1 (Nat.le_of_ble_eq_true rfl) rfl (keepSh.r2 hk0) q87 ?_
    refine g_ilen X (3 : Int32) dX1_gainAll_41 (keepSh.b1 hk0) (keepSh.k1 hk0) (by decide) ?_
    refine g_icmp_ge X 75 dX1_gainAll_42 (by decide) (fun hc => ?_) (fun hc => ?_)
    · have h := h.1 hc
      exact g_vret X hr dX1_gainAll_75 h
    · have h := h.2 hc
      refine g_aload_n X 0 dX1_gainAll_45 rfl rfl ?_
      refine g_getR X (C := RX1) (T := TX1) (N := 4) 2 dX1_gainAll_46 (keepSh.b0 hk0) (keepSh.k0 hk0) rfl rfl inG1 (Nat.le_of_ble_eq_true rfl) rfl (keepSh.r2 hk0) q87 ?_
      refine g_iload_n X 2 dX1_gainAll_49 rfl rfl ?_
      refine g_aload_n X 0 dX1_gainAll_50 rfl rfl ?_
      refine g_getR X (C := RX1) (T := TX1) (N := 4) 2 dX1_gainAll_51 (keepSh.b0 hk0) (keepSh.k0 hk0) rfl rfl inG1 (Nat.le_of_ble_eq_true rfl) rfl (keepSh.r2 hk0) q87 ?_
      refine g_iload_n X 2 dX1_gainAll_54 rfl rfl ?_
      obtain ⟨hi2, h⟩ := h
      refine g_iald X dX1_gainAll_55 (keepSh.b1 hk0) (keepSh.k1 hk0) hi2 ?_
      refine g_aload_n X 1 dX1_gainAll_56 rfl rfl ?_
      refine g_getR X (C := RX1) (T := TX1) (N := 4) 2 dX1_gainAll_57 (keepSh.b0 hk1) (keepSh.k0 hk1) rfl rfl inG1 (Nat.le_of_ble_eq_true rfl) rfl (keepSh.r2 hk1) q87 ?_
      refine g_iload_n X 2 dX1_gainAll_60 rfl rfl ?_
      obtain ⟨hi3, h⟩ := h
      refine g_iald X dX1_gainAll_61 (keepSh.b1 hk1) (keepSh.k1 hk1) hi3 ?_
      refine g_iadd X dX1_gainAll_62 ?_
      refine g_ldc X q371 dX1_gainAll_63 ?_
      refine g_mmin X dX1_gainAll_65 q372 q329 q53 q330 (Nat.le_of_ble_eq_true rfl) (Nat.le_of_ble_eq_true rfl) (Nat.le_of_ble_eq_true rfl) (Nat.le_of_ble_eq_true rfl) ?_
      refine g_nameI (fun y4 ey4 => ?_)
      have h := h y4 ey4
      obtain ⟨hi5, h⟩ := h
      refine g_iast X dX1_gainAll_68 (keepSh.b1 hk0) (keepSh.k1 hk0) hi5 ?_
      refine g_nameS (fun σ6 eσ6 => ?_)
      have h := h σ6 eσ6
      obtain ⟨y7, ey7⟩ : ∃ y : Int32, y = x2 + (1 : Int32) := ⟨_, rfl⟩
      have h := h y7 ey7
      refine g_iinc X 2 (1 : Int32) [(2, .int y7), (0, .ref k0), (1, .ref k1)] dX1_gainAll_69 rfl (by decide) (Nat.le_of_ble_eq_true rfl) (by rw [ey7]; rfl) ?_
      refine g_goto X 36 dX1_gainAll_72 (by decide) ?_
      refine g_weak [1, 2, 0] rfl ?_
      exact ih _ _ _ hk1 h
def w_X1_gainAll_2 (k0 : Nat) (Q : St → Prop) : Nat → Nat → Int32 → St → Prop
  | 0, _, _, _ => False
  | n + 1, k1, x2, σ => (((150 : Int32) ≤ x2 → w_X1_carry k0 (fun σ1 => (∃ fu8 : Nat, w_X1_gainAll_36 k0 Q fu8 k1 (0 : Int32) σ1)) σ) ∧ (¬ (150 : Int32) ≤ x2 → vp_in x2 150 ∧ vp_in x2 150 ∧ vp_in x2 150 ∧ ∀ σ12 : St, σ12 = uJ σ (k0 + 2) (ix x2) ((gJ σ (k0 + 2) (ix x2)) + (gJ σ (k1 + 2) (ix x2))) → ∀ y13 : Int32, y13 = x2 + (1 : Int32) → (w_X1_gainAll_2 k0 Q n k1 y13 σ12)))
set_option maxRecDepth 100000 in
set_option maxHeartbeats 4000000 in
theorem b_X1_gainAll_2 {p : Program} {l : Launch} {e : Env} {s : State} {m : MethodId} {args : Array Value} {below : List Frame} {meth : Method} {c : Code} {D : va_G} {cA : Nat → ClassId} {A : Nat → Prop} {ad0 : Nat → Nat} {sh : SH} {k0 : Nat} {Q : St → Prop} (X : Cx p rmX1_gainAll s m args meth c cX1_gainAll 3 RX1 D cA A) (hr : meth.sig.returnType = none) (hk0 : keepSh sh k0) : ∀ (n : Nat) (k1 : Nat) (x2 : Int32) (σ : St), keepSh sh k1 → w_X1_gainAll_2 k0 Q n k1 x2 σ → G p l e rmX1_gainAll s m args below meth c 3 D cA A (MQ below (va_Qv Q (EndW D cA ad0 sh) A) args s 0 0 A) 0 0 (fun ad => ad = ad0) sh σ [(0, .ref k0), (1, .ref k1), (2, .int x2)] 2 [] := by
  intro n
  induction n with
  | zero => intro k1 x2 σ hk1 h; exact h.elim
  | succ n ih =>
    intro k1 x2 σ hk1 h
    rw [w_X1_gainAll_2] at h
    refine g_iload_n X 2 dX1_gainAll_2 rfl rfl ?_
    refine g_sipush X (150 : Int32) dX1_gainAll_3 (by decide) ?_
    refine g_icmp_ge X 30 dX1_gainAll_6 (by decide) (fun hc => ?_) (fun hc => ?_)
    · have h := h.1 hc
      refine g_aload_n X 0 dX1_gainAll_30 rfl rfl ?_
      refine g_callVV X (C := RX1) (T := TX1) (N := 4) (n := 0) [] [] dX1_gainAll_31 (c_X1_carry l D cA sh hk0 h) q373 q375 q9 q49 q376 (keepSh.b0 hk0) (keepSh.k0 hk0) rfl ⟨rfl, by decide, by decide, by decide +kernel⟩ rfl rfl (Nat.le_of_ble_eq_true rfl) rfl rfl ⟨(Nat.le_of_ble_eq_true rfl), (Nat.le_of_ble_eq_true rfl)⟩ (Nat.le_of_ble_eq_true rfl) (Nat.le_of_ble_eq_true rfl) (fun σ1 h => ?_)
      refine g_iconst X (0 : Int32) dX1_gainAll_34 (by decide) ?_
      refine g_istore_n X [(2, .int (0 : Int32)), (0, .ref k0), (1, .ref k1)] dX1_gainAll_35 rfl (Nat.le_of_ble_eq_true rfl) rfl ?_
      refine g_weak [1, 2, 0] rfl ?_
      obtain ⟨fu8, h⟩ := h
      exact b_X1_gainAll_36 X hr hk0 fu8 _ _ _ hk1 h
    · have h := h.2 hc
      refine g_aload_n X 0 dX1_gainAll_9 rfl rfl ?_
      refine g_getR X (C := RX1) (T := TX1) (N := 4) 3 dX1_gainAll_10 (keepSh.b0 hk0) (keepSh.k0 hk0) rfl rfl inG1 (Nat.le_of_ble_eq_true rfl) rfl (keepSh.r3 hk0) q89 ?_
      refine g_iload_n X 2 dX1_gainAll_13 rfl rfl ?_
      refine g_dup2 X dX1_gainAll_14 rfl rfl ?_
      obtain ⟨hi9, h⟩ := h
      refine g_lald X dX1_gainAll_15 (keepSh.b2 hk0) (keepSh.k2 hk0) hi9 ?_
      refine g_aload_n X 1 dX1_gainAll_16 rfl rfl ?_
      refine g_getR X (C := RX1) (T := TX1) (N := 4) 3 dX1_gainAll_17 (keepSh.b0 hk1) (keepSh.k0 hk1) rfl rfl inG1 (Nat.le_of_ble_eq_true rfl) rfl (keepSh.r3 hk1) q89 ?_
      refine g_iload_n X 2 dX1_gainAll_20 rfl rfl ?_
      obtain ⟨hi10, h⟩ := h
      refine g_lald X dX1_gainAll_21 (keepSh.b2 hk1) (keepSh.k2 hk1) hi10 ?_
      refine g_ladd X dX1_gainAll_22 ?_
      obtain ⟨hi11, h⟩ := h
      refine g_last X dX1_gainAll_23 (keepSh.b2 hk0) (keepSh.k2 hk0) hi11 ?_
      refine g_nameS (fun σ12 eσ12 => ?_)
      have h := h σ12 eσ12
      obtain ⟨y13, ey13⟩ : ∃ y : Int32, y = x2 + (1 : Int32) := ⟨_, rfl⟩
      have h := h y13 ey13
      refine g_iinc X 2 (1 : Int32) [(2, .int y13), (0, .ref k0), (1, .ref k1)] dX1_gainAll_24 rfl (by decide) (Nat.le_of_ble_eq_true rfl) (by rw [ey13]; rfl) ?_
      refine g_goto X 2 dX1_gainAll_27 (by decide) ?_
      refine g_weak [1, 2, 0] rfl ?_
      exact ih _ _ _ hk1 h
def w_X1_gainAll (k0 : Nat) (Q : St → Prop) (k1 : Nat) (σ : St) : Prop := (∃ fu14 : Nat, w_X1_gainAll_2 k0 Q fu14 k1 (0 : Int32) σ)
set_option maxRecDepth 100000 in
set_option maxHeartbeats 4000000 in
theorem b_X1_gainAll_0 {p : Program} {l : Launch} {e : Env} {s : State} {m : MethodId} {args : Array Value} {below : List Frame} {meth : Method} {c : Code} {D : va_G} {cA : Nat → ClassId} {A : Nat → Prop} {ad0 : Nat → Nat} {sh : SH} {k0 : Nat} {Q : St → Prop} {k1 : Nat} {σ : St} (X : Cx p rmX1_gainAll s m args meth c cX1_gainAll 3 RX1 D cA A) (hr : meth.sig.returnType = none) (hk0 : keepSh sh k0) (hk1 : keepSh sh k1) (h : w_X1_gainAll k0 Q k1 σ) : G p l e rmX1_gainAll s m args below meth c 3 D cA A (MQ below (va_Qv Q (EndW D cA ad0 sh) A) args s 0 0 A) 0 0 (fun ad => ad = ad0) sh σ [(0, .ref k0), (1, .ref k1)] 0 [] := by
  unfold w_X1_gainAll at h
  refine g_iconst X (0 : Int32) dX1_gainAll_0 (by decide) ?_
  refine g_istore_n X [(2, .int (0 : Int32)), (0, .ref k0), (1, .ref k1)] dX1_gainAll_1 rfl (Nat.le_of_ble_eq_true rfl) rfl ?_
  refine g_weak [1, 2, 0] rfl ?_
  obtain ⟨fu14, h⟩ := h
  exact b_X1_gainAll_2 X hr hk0 fu14 _ _ _ hk1 h
theorem c_X1_gainAll (l : Launch) (D : va_G) (cA : Nat → ClassId) (sh : SH) {k0 : Nat} {k1 : Nat} {σ : St} {Q : St → Prop} (hk0 : keepSh sh k0) (hk1 : keepSh sh k1) (h : w_X1_gainAll k0 Q k1 σ) : CtV l yX1_gainAll cX1_gainAll 3 (none) rmX1_gainAll D cA sh [.ref k0, .ref k1] σ Q := by
  refine CtV.of (own := RX1) rfl (by decide +kernel) [(0, .ref k0), (1, .ref k1)] rfl (Nat.le_of_ble_eq_true rfl) ?_
  intro p e s m args below meth c ad0 A X hr
  exact b_X1_gainAll_0 X hr hk0 hk1 h
