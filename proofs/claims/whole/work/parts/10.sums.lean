def rmX4_isRow : Room := { frames := 0, cells := 0, slots := 0, locals := 0 }
def w_X4_isRow (Q : Int32 → St → Prop) (x0 : Int32) (σ : St) : Prop := ((x0 < 0 → (Q (0 : Int32) σ)) ∧ (¬ x0 < 0 → (((12 : Int32) ≤ x0 → (Q (0 : Int32) σ)) ∧ (¬ (12 : Int32) ≤ x0 → (Q (1 : Int32) σ)))))
set_option maxRecDepth 100000 in
set_option maxHeartbeats 4000000 in
theorem b_X4_isRow_0 {p : Program} {l : Launch} {e : Env} {s : State} {m : MethodId} {args : Array Value} {below : List Frame} {meth : Method} {c : Code} {D : va_G} {cA : Nat → ClassId} {A : Nat → Prop} {ad0 : Nat → Nat} {sh : SH} {Q : Int32 → St → Prop} {x0 : Int32} {σ : St} (X : Cx p rmX4_isRow s m args meth c cX4_isRow 1 RX4 D cA A) (hr : meth.sig.returnType = some .boolean) (h : w_X4_isRow Q x0 σ) : G p l e rmX4_isRow s m args below meth c 1 D cA A (MQ below (va_Qi Q (EndW D cA ad0 sh) A) args s 0 0 A) 0 0 (fun ad => ad = ad0) sh σ [(0, .int x0)] 0 [] := by
  unfold w_X4_isRow at h
  refine g_iload_n X 0 dX4_isRow_0 rfl rfl ?_
  refine g_if_lt X 14 dX4_isRow_1 (by decide) (fun hc => ?_) (fun hc => ?_)
  · have h := h.1 hc
    refine g_iconst X (0 : Int32) dX4_isRow_14 (by decide) ?_
    exact g_iret X hr dX4_isRow_15 (by decide) h
  · have h := h.2 hc
    refine g_iload_n X 0 dX4_isRow_4 rfl rfl ?_
    refine g_bipush X (12 : Int32) dX4_isRow_5 (by decide) ?_
    refine g_icmp_ge X 14 dX4_isRow_7 (by decide) (fun hc => ?_) (fun hc => ?_)
    · have h := h.1 hc
      refine g_iconst X (0 : Int32) dX4_isRow_14 (by decide) ?_
      exact g_iret X hr dX4_isRow_15 (by decide) h
    · have h := h.2 hc
      refine g_iconst X (1 : Int32) dX4_isRow_10 (by decide) ?_
      refine g_goto X 15 dX4_isRow_11 (by decide) ?_
      exact g_iret X hr dX4_isRow_15 (by decide) h
theorem c_X4_isRow (l : Launch) (D : va_G) (cA : Nat → ClassId) (sh : SH) {x0 : Int32} {σ : St} {Q : Int32 → St → Prop} (h : w_X4_isRow Q x0 σ) : CtI l yX4_isRow cX4_isRow 1 (some .boolean) rmX4_isRow D cA sh [.int x0] σ Q := by
  refine CtI.of (own := RX4) rfl (by decide +kernel) [(0, .int x0)] rfl (Nat.le_of_ble_eq_true rfl) ?_
  intro p e s m args below meth c ad0 A X hr
  exact b_X4_isRow_0 X hr  h
def rmX4_row : Room := { frames := 2, cells := 0, slots := 0, locals := 46 }
def w_X4_row (Q : Int32 → St → Prop) (x1 : Int32) (x2 : Int32) (x3 : Int32) (σ : St) : Prop := w_X4_isRow (fun r2 σ1 => ((r2 = 0 → (Q (-3 : Int32) σ1)) ∧ (¬ r2 = 0 → ((x2 < 0 → (Q (-3 : Int32) σ1)) ∧ (¬ x2 < 0 → (((5 : Int32) < x2 → (Q (-3 : Int32) σ1)) ∧ (¬ (5 : Int32) < x2 → ((x3 ≤ (40 : Int32) → ((0 ≤ x3 → vp_in x1 12 ∧ w_X2_renew (rowC (ix x1)) (fun σ4 => (Q x3 σ4)) x2 x3 σ1) ∧ (¬ 0 ≤ x3 → (Q (-14 : Int32) σ1)))) ∧ (¬ x3 ≤ (40 : Int32) → (Q (-3 : Int32) σ1)))))))))) x1 σ
set_option maxRecDepth 100000 in
set_option maxHeartbeats 4000000 in
theorem b_X4_row_0 {p : Program} {l : Launch} {e : Env} {s : State} {m : MethodId} {args : Array Value} {below : List Frame} {meth : Method} {c : Code} {D : va_G} {cA : Nat → ClassId} {A : Nat → Prop} {ad0 : Nat → Nat} {Q : Int32 → St → Prop} {x1 : Int32} {x2 : Int32} {x3 : Int32} {σ : St} (X : Cx p rmX4_row s m args meth c cX4_row 4 RX4 D cA A) (hr : meth.sig.returnType = some .int) (h : w_X4_row Q x1 x2 x3 σ) : G p l e rmX4_row s m args below meth c 4 D cA A (MQ below (va_Qi Q (EndW D cA ad0 shC) A) args s 0 0 A) 0 0 (fun ad => ad = ad0) shC σ [(0, .ref 0), (1, .int x1), (2, .int x2), (3, .int x3)] 0 [] := by
  unfold w_X4_row at h
  refine g_iload_n X 1 dX4_row_0 rfl rfl ?_
  refine g_callSI X (n := 1) [.int x1] [] dX4_row_1 (c_X4_isRow l D cA shC h) q231 q232 q47 q233 ⟨by decide, by decide, by decide +kernel⟩ rfl rfl (Nat.le_of_ble_eq_true rfl) rfl rfl ⟨(Nat.le_of_ble_eq_true rfl), (Nat.le_of_ble_eq_true rfl)⟩ (Nat.le_of_ble_eq_true rfl) (Nat.le_of_ble_eq_true rfl) (fun r2 σ1 h => ?_)
  refine g_if_eq X 22 dX4_row_4 (by decide) (fun hc => ?_) (fun hc => ?_)
  · have h := h.1 hc
    refine g_bipush X (-3 : Int32) dX4_row_22 (by decide) ?_
    exact g_iret X hr dX4_row_24 rfl h
  · have h := h.2 hc
    refine g_iload_n X 2 dX4_row_7 rfl rfl ?_
    refine g_if_lt X 22 dX4_row_8 (by decide) (fun hc => ?_) (fun hc => ?_)
    · have h := h.1 hc
      refine g_bipush X (-3 : Int32) dX4_row_22 (by decide) ?_
      exact g_iret X hr dX4_row_24 rfl h
    · have h := h.2 hc
      refine g_iload_n X 2 dX4_row_11 rfl rfl ?_
      refine g_iconst X (5 : Int32) dX4_row_12 (by decide) ?_
      refine g_icmp_gt X 22 dX4_row_13 (by decide) (fun hc => ?_) (fun hc => ?_)
      · have h := h.1 hc
        refine g_bipush X (-3 : Int32) dX4_row_22 (by decide) ?_
        exact g_iret X hr dX4_row_24 rfl h
      · have h := h.2 hc
        refine g_iload_n X 3 dX4_row_16 rfl rfl ?_
        refine g_bipush X (40 : Int32) dX4_row_17 (by decide) ?_
        refine g_icmp_le X 25 dX4_row_19 (by decide) (fun hc => ?_) (fun hc => ?_)
        · have h := h.1 hc
          refine g_iload_n X 3 dX4_row_25 rfl rfl ?_
          refine g_if_ge X 32 dX4_row_26 (by decide) (fun hc => ?_) (fun hc => ?_)
          · have h := h.1 hc
            refine g_aload_n X 0 dX4_row_32 rfl rfl ?_
            refine g_getR X (C := RX4) (T := TX4) (N := 7) 0 dX4_row_33 (Nat.le_of_ble_eq_true rfl) rfl rfl rfl inG4 (Nat.le_of_ble_eq_true rfl) rfl rfl q205 ?_
            refine g_iload_n X 1 dX4_row_36 rfl rfl ?_
            obtain ⟨hi3, h⟩ := h
            refine g_aald X (C := RX2) (t := 0) dX4_row_37 (Nat.le_of_ble_eq_true rfl) rfl rfl hi3 (rowC_r (vp_in_lt hi3)) ?_
            refine g_iload_n X 2 dX4_row_38 rfl rfl ?_
            refine g_iload_n X 3 dX4_row_39 rfl rfl ?_
            refine g_callVV X (C := RX2) (T := TX2) (N := 6) (n := 2) [.int x2, .int x3] [] dX4_row_40 (c_X2_renew l D cA shC (rowC_sh (vp_in_lt hi3)) h) q157 q158 q159 q51 q160 (rowSh.b0 (rowC_sh (vp_in_lt hi3))) (rowSh.k0 (rowC_sh (vp_in_lt hi3))) rfl ⟨rfl, by decide, by decide, by decide +kernel⟩ rfl rfl (Nat.le_of_ble_eq_true rfl) rfl rfl ⟨(Nat.le_of_ble_eq_true rfl), (Nat.le_of_ble_eq_true rfl)⟩ (Nat.le_of_ble_eq_true rfl) (Nat.le_of_ble_eq_true rfl) (fun σ4 h => ?_)
            refine g_iload_n X 3 dX4_row_43 rfl rfl ?_
            exact g_iret X hr dX4_row_44 rfl h
          · have h := h.2 hc
            refine g_bipush X (-14 : Int32) dX4_row_29 (by decide) ?_
            exact g_iret X hr dX4_row_31 rfl h
        · have h := h.2 hc
          refine g_bipush X (-3 : Int32) dX4_row_22 (by decide) ?_
          exact g_iret X hr dX4_row_24 rfl h
theorem c_X4_row (l : Launch) (D : va_G) (cA : Nat → ClassId) {x1 : Int32} {x2 : Int32} {x3 : Int32} {σ : St} {Q : Int32 → St → Prop} (h : w_X4_row Q x1 x2 x3 σ) : CtI l yX4_row cX4_row 4 (some .int) rmX4_row D cA shC [.ref 0, .int x1, .int x2, .int x3] σ Q := by
  refine CtI.of (own := RX4) rfl (by decide +kernel) [(0, .ref 0), (1, .int x1), (2, .int x2), (3, .int x3)] rfl (Nat.le_of_ble_eq_true rfl) ?_
  intro p e s m args below meth c ad0 A X hr
  exact b_X4_row_0 X hr  h
def rmX4_lose : Room := { frames := 1, cells := 0, slots := 0, locals := 20 }
def w_X4_lose (Q : Int32 → St → Prop) (x1 : Int32) (σ : St) : Prop := w_X4_isRow (fun r2 σ1 => ((¬ r2 = 0 → vp_in x1 12 ∧ ((¬ (gI σ1 (rowC (ix x1)) 0) = 0 → ∀ σ4 : St, σ4 = uI σ1 (rowC (ix x1)) 0 (0 : Int32) → (Q (gI σ4 (rowC (ix x1)) 2) σ4)) ∧ ((gI σ1 (rowC (ix x1)) 0) = 0 → (Q (-11 : Int32) σ1)))) ∧ (r2 = 0 → (Q (-3 : Int32) σ1)))) x1 σ
set_option maxRecDepth 100000 in
set_option maxHeartbeats 4000000 in
theorem b_X4_lose_0 {p : Program} {l : Launch} {e : Env} {s : State} {m : MethodId} {args : Array Value} {below : List Frame} {meth : Method} {c : Code} {D : va_G} {cA : Nat → ClassId} {A : Nat → Prop} {ad0 : Nat → Nat} {Q : Int32 → St → Prop} {x1 : Int32} {σ : St} (X : Cx p rmX4_lose s m args meth c cX4_lose 3 RX4 D cA A) (hr : meth.sig.returnType = some .int) (h : w_X4_lose Q x1 σ) : G p l e rmX4_lose s m args below meth c 3 D cA A (MQ below (va_Qi Q (EndW D cA ad0 shC) A) args s 0 0 A) 0 0 (fun ad => ad = ad0) shC σ [(0, .ref 0), (1, .int x1)] 0 [] := by
  unfold w_X4_lose at h
  refine g_iload_n X 1 dX4_lose_0 rfl rfl ?_
  refine g_callSI X (n := 1) [.int x1] [] dX4_lose_1 (c_X4_isRow l D cA shC h) q231 q232 q47 q233 ⟨by decide, by decide, by decide +kernel⟩ rfl rfl (Nat.le_of_ble_eq_true rfl) rfl rfl ⟨(Nat.le_of_ble_eq_true rfl), (Nat.le_of_ble_eq_true rfl)⟩ (Nat.le_of_ble_eq_true rfl) (Nat.le_of_ble_eq_true rfl) (fun r2 σ1 h => ?_)
  refine g_if_ne X 10 dX4_lose_4 (by decide) (fun hc => ?_) (fun hc => ?_)
  · have h := h.1 hc
    refine g_aload_n X 0 dX4_lose_10 rfl rfl ?_
    refine g_getR X (C := RX4) (T := TX4) (N := 7) 0 dX4_lose_11 (Nat.le_of_ble_eq_true rfl) rfl rfl rfl inG4 (Nat.le_of_ble_eq_true rfl) rfl rfl q205 ?_
    refine g_iload_n X 1 dX4_lose_14 rfl rfl ?_
    obtain ⟨hi3, h⟩ := h
    refine g_aald X (C := RX2) (t := 0) dX4_lose_15 (Nat.le_of_ble_eq_true rfl) rfl rfl hi3 (rowC_r (vp_in_lt hi3)) ?_
    refine g_astore_n X [(2, .ref (rowC (ix x1))), (0, .ref 0), (1, .int x1)] dX4_lose_16 rfl (Nat.le_of_ble_eq_true rfl) rfl ?_
    refine g_aload_n X 0 dX4_lose_17 rfl rfl ?_
    refine g_getI X (C := RX2) (T := TX2) (N := 6) 0 dX4_lose_18 (rowSh.b0 (rowC_sh (vp_in_lt hi3))) (rowSh.k0 (rowC_sh (vp_in_lt hi3))) rfl rfl inG2 (Nat.le_of_ble_eq_true rfl) rfl q132 ?_
    refine g_if_ne X 27 dX4_lose_21 (by decide) (fun hc => ?_) (fun hc => ?_)
    · have h := h.1 hc
      refine g_aload_n X 0 dX4_lose_27 rfl rfl ?_
      refine g_iconst X (0 : Int32) dX4_lose_28 (by decide) ?_
      refine g_putI X (C := RX2) (T := TX2) (N := 6) (ty0 := tyX2) 0 dX4_lose_29 (rowSh.b0 (rowC_sh (vp_in_lt hi3))) (rowSh.k0 (rowC_sh (vp_in_lt hi3))) rfl rfl inG2 tyX2_ok nmX2 (Nat.le_of_ble_eq_true rfl) rfl rfl q132 rfl rfl ?_
      refine g_nameS (fun σ4 eσ4 => ?_)
      have h := h σ4 eσ4
      refine g_aload_n X 0 dX4_lose_32 rfl rfl ?_
      refine g_getI X (C := RX2) (T := TX2) (N := 6) 2 dX4_lose_33 (rowSh.b0 (rowC_sh (vp_in_lt hi3))) (rowSh.k0 (rowC_sh (vp_in_lt hi3))) rfl rfl inG2 (Nat.le_of_ble_eq_true rfl) rfl q136 ?_
      exact g_iret X hr dX4_lose_36 rfl h
    · have h := h.2 hc
      refine g_bipush X (-11 : Int32) dX4_lose_24 (by decide) ?_
      exact g_iret X hr dX4_lose_26 rfl h
  · have h := h.2 hc
    refine g_bipush X (-3 : Int32) dX4_lose_7 (by decide) ?_
    exact g_iret X hr dX4_lose_9 rfl h
theorem c_X4_lose (l : Launch) (D : va_G) (cA : Nat → ClassId) {x1 : Int32} {σ : St} {Q : Int32 → St → Prop} (h : w_X4_lose Q x1 σ) : CtI l yX4_lose cX4_lose 3 (some .int) rmX4_lose D cA shC [.ref 0, .int x1] σ Q := by
  refine CtI.of (own := RX4) rfl (by decide +kernel) [(0, .ref 0), (1, .int x1)] rfl (Nat.le_of_ble_eq_true rfl) ?_
  intro p e s m args below meth c ad0 A X hr
  exact b_X4_lose_0 X hr  h
def rmX4_put : Room := { frames := 5, cells := 0, slots := 0, locals := 117 }
def w_X4_put (Q : Int32 → St → Prop) (x1 : Int32) (x2 : Int32) (x3 : Int64) (x5 : Int32) (σ : St) : Prop := w_X4_isRow (fun r2 σ1 => ((r2 = 0 → (Q (-3 : Int32) σ1)) ∧ (¬ r2 = 0 → ((x3 ≤ (-9007199254740992 : Int64) → (Q (-3 : Int32) σ1)) ∧ (¬ x3 ≤ (-9007199254740992 : Int64) → (((9007199254740992 : Int64) ≤ x3 → (Q (-3 : Int32) σ1)) ∧ (¬ (9007199254740992 : Int64) ≤ x3 → ((x5 < (-1074 : Int32) → (Q (-3 : Int32) σ1)) ∧ (¬ x5 < (-1074 : Int32) → ((x5 ≤ (971 : Int32) → vp_in x1 12 ∧ ((¬ (gI σ1 (rowC (ix x1)) 0) = 0 → w_X2_has (rowC (ix x1)) (fun r5 σ4 => ((¬ r5 = 0 → w_X2_write (rowC (ix x1)) (fun σ6 => (Q (0 : Int32) σ6)) x2 x3 x5 σ4) ∧ (r5 = 0 → (Q (-13 : Int32) σ4)))) x2 (1 : Int32) σ1) ∧ ((gI σ1 (rowC (ix x1)) 0) = 0 → (Q (-11 : Int32) σ1)))) ∧ (¬ x5 ≤ (971 : Int32) → (Q (-3 : Int32) σ1)))))))))))) x1 σ
set_option maxRecDepth 100000 in
set_option maxHeartbeats 4000000 in
theorem b_X4_put_0 {p : Program} {l : Launch} {e : Env} {s : State} {m : MethodId} {args : Array Value} {below : List Frame} {meth : Method} {c : Code} {D : va_G} {cA : Nat → ClassId} {A : Nat → Prop} {ad0 : Nat → Nat} {Q : Int32 → St → Prop} {x1 : Int32} {x2 : Int32} {x3 : Int64} {x5 : Int32} {σ : St} (X : Cx p rmX4_put s m args meth c cX4_put 7 RX4 D cA A) (hr : meth.sig.returnType = some .int) (h : w_X4_put Q x1 x2 x3 x5 σ) : G p l e rmX4_put s m args below meth c 7 D cA A (MQ below (va_Qi Q (EndW D cA ad0 shC) A) args s 0 0 A) 0 0 (fun ad => ad = ad0) shC σ [(0, .ref 0), (1, .int x1), (2, .int x2), (3, .long x3), (5, .int x5)] 0 [] := by
  unfold w_X4_put at h
  refine g_iload_n X 1 dX4_put_0 rfl rfl ?_
  refine g_callSI X (n := 1) [.int x1] [] dX4_put_1 (c_X4_isRow l D cA shC h) q231 q232 q47 q233 ⟨by decide, by decide, by decide +kernel⟩ rfl rfl (Nat.le_of_ble_eq_true rfl) rfl rfl ⟨(Nat.le_of_ble_eq_true rfl), (Nat.le_of_ble_eq_true rfl)⟩ (Nat.le_of_ble_eq_true rfl) (Nat.le_of_ble_eq_true rfl) (fun r2 σ1 h => ?_)
  refine g_if_eq X 39 dX4_put_4 (by decide) (fun hc => ?_) (fun hc => ?_)
  · have h := h.1 hc
    refine g_bipush X (-3 : Int32) dX4_put_39 (by decide) ?_
    exact g_iret X hr dX4_put_41 rfl h
  · have h := h.2 hc
    refine g_lload_n X 3 dX4_put_7 rfl rfl ?_
    refine g_ldc2 X q242 dX4_put_8 ?_
    refine g_lcmp X dX4_put_11 ?_
    refine g_if_le X 39 dX4_put_12 (by decide) (fun hc => ?_) (fun hc => ?_)
    · have h := h.1 (lgc_le.mp hc)
      refine g_bipush X (-3 : Int32) dX4_put_39 (by decide) ?_
      exact g_iret X hr dX4_put_41 rfl h
    · have h := h.2 (fun z => hc (lgc_le.mpr z))
      refine g_lload_n X 3 dX4_put_15 rfl rfl ?_
      refine g_ldc2 X q243 dX4_put_16 ?_
      refine g_lcmp X dX4_put_19 ?_
      refine g_if_ge X 39 dX4_put_20 (by decide) (fun hc => ?_) (fun hc => ?_)
      · have h := h.1 (lgc_ge.mp hc)
        refine g_bipush X (-3 : Int32) dX4_put_39 (by decide) ?_
        exact g_iret X hr dX4_put_41 rfl h
      · have h := h.2 (fun z => hc (lgc_ge.mpr z))
        refine g_iload X 4 dX4_put_23 rfl ?_
        refine g_sipush X (-1074 : Int32) dX4_put_25 (by decide) ?_
        refine g_icmp_lt X 39 dX4_put_28 (by decide) (fun hc => ?_) (fun hc => ?_)
        · have h := h.1 hc
          refine g_bipush X (-3 : Int32) dX4_put_39 (by decide) ?_
          exact g_iret X hr dX4_put_41 rfl h
        · have h := h.2 hc
          refine g_iload X 4 dX4_put_31 rfl ?_
          refine g_sipush X (971 : Int32) dX4_put_33 (by decide) ?_
          refine g_icmp_le X 42 dX4_put_36 (by decide) (fun hc => ?_) (fun hc => ?_)
          · have h := h.1 hc
            refine g_aload_n X 0 dX4_put_42 rfl rfl ?_
            refine g_getR X (C := RX4) (T := TX4) (N := 7) 0 dX4_put_43 (Nat.le_of_ble_eq_true rfl) rfl rfl rfl inG4 (Nat.le_of_ble_eq_true rfl) rfl rfl q205 ?_
            refine g_iload_n X 1 dX4_put_46 rfl rfl ?_
            obtain ⟨hi3, h⟩ := h
            refine g_aald X (C := RX2) (t := 0) dX4_put_47 (Nat.le_of_ble_eq_true rfl) rfl rfl hi3 (rowC_r (vp_in_lt hi3)) ?_
            refine g_astore X [(6, .ref (rowC (ix x1))), (0, .ref 0), (1, .int x1), (2, .int x2), (3, .long x3), (5, .int x5)] dX4_put_48 (Nat.le_of_ble_eq_true rfl) rfl ?_
            refine g_aload X 0 dX4_put_50 rfl ?_
            refine g_getI X (C := RX2) (T := TX2) (N := 6) 0 dX4_put_52 (rowSh.b0 (rowC_sh (vp_in_lt hi3))) (rowSh.k0 (rowC_sh (vp_in_lt hi3))) rfl rfl inG2 (Nat.le_of_ble_eq_true rfl) rfl q132 ?_
            refine g_if_ne X 61 dX4_put_55 (by decide) (fun hc => ?_) (fun hc => ?_)
            · have h := h.1 hc
              refine g_aload X 0 dX4_put_61 rfl ?_
              refine g_iload_n X 3 dX4_put_63 rfl rfl ?_
              refine g_iconst X (1 : Int32) dX4_put_64 (by decide) ?_
              refine g_callVI X (C := RX2) (T := TX2) (N := 6) (n := 2) [.int x2, .int (1 : Int32)] [] dX4_put_65 (c_X2_has l D cA shC (rowC_sh (vp_in_lt hi3)) h) q244 q245 q246 q51 q247 (rowSh.b0 (rowC_sh (vp_in_lt hi3))) (rowSh.k0 (rowC_sh (vp_in_lt hi3))) rfl ⟨rfl, by decide, by decide, by decide +kernel⟩ rfl rfl (Nat.le_of_ble_eq_true rfl) rfl rfl ⟨(Nat.le_of_ble_eq_true rfl), (Nat.le_of_ble_eq_true rfl)⟩ (Nat.le_of_ble_eq_true rfl) (Nat.le_of_ble_eq_true rfl) (fun r5 σ4 h => ?_)
              refine g_if_ne X 74 dX4_put_68 (by decide) (fun hc => ?_) (fun hc => ?_)
              · have h := h.1 hc
                refine g_aload X 0 dX4_put_74 rfl ?_
                refine g_iload_n X 3 dX4_put_76 rfl rfl ?_
                refine g_lload_n X 4 dX4_put_77 rfl rfl ?_
                refine g_iload X 5 dX4_put_78 rfl ?_
                refine g_callVV X (C := RX2) (T := TX2) (N := 6) (n := 3) [.int x2, .long x3, .int x5] [] dX4_put_80 (c_X2_write l D cA shC (rowC_sh (vp_in_lt hi3)) h) q167 q168 q169 q51 q170 (rowSh.b0 (rowC_sh (vp_in_lt hi3))) (rowSh.k0 (rowC_sh (vp_in_lt hi3))) rfl ⟨rfl, by decide, by decide, by decide +kernel⟩ rfl rfl (Nat.le_of_ble_eq_true rfl) rfl rfl ⟨(Nat.le_of_ble_eq_true rfl), (Nat.le_of_ble_eq_true rfl)⟩ (Nat.le_of_ble_eq_true rfl) (Nat.le_of_ble_eq_true rfl) (fun σ6 h => ?_)
                refine g_iconst X (0 : Int32) dX4_put_83 (by decide) ?_
                exact g_iret X hr dX4_put_84 rfl h
              · have h := h.2 hc
                refine g_bipush X (-13 : Int32) dX4_put_71 (by decide) ?_
                exact g_iret X hr dX4_put_73 rfl h
            · have h := h.2 hc
              refine g_bipush X (-11 : Int32) dX4_put_58 (by decide) ?_
              exact g_iret X hr dX4_put_60 rfl h
          · have h := h.2 hc
            refine g_bipush X (-3 : Int32) dX4_put_39 (by decide) ?_
            exact g_iret X hr dX4_put_41 rfl h
theorem c_X4_put (l : Launch) (D : va_G) (cA : Nat → ClassId) {x1 : Int32} {x2 : Int32} {x3 : Int64} {x5 : Int32} {σ : St} {Q : Int32 → St → Prop} (h : w_X4_put Q x1 x2 x3 x5 σ) : CtI l yX4_put cX4_put 7 (some .int) rmX4_put D cA shC [.ref 0, .int x1, .int x2, .long x3, .int x5] σ Q := by
  refine CtI.of (own := RX4) rfl (by decide +kernel) [(0, .ref 0), (1, .int x1), (2, .int x2), (3, .long x3), (5, .int x5)] rfl (Nat.le_of_ble_eq_true rfl) ?_
  intro p e s m args below meth c ad0 A X hr
  exact b_X4_put_0 X hr  h
def rmX4_mark : Room := { frames := 2, cells := 0, slots := 0, locals := 49 }
def w_X4_mark (Q : Int32 → St → Prop) (x1 : Int32) (x2 : Int32) (x3 : Int32) (σ : St) : Prop := w_X4_isRow (fun r2 σ1 => ((r2 = 0 → (Q (-3 : Int32) σ1)) ∧ (¬ r2 = 0 → ((x3 < 0 → (Q (-3 : Int32) σ1)) ∧ (¬ x3 < 0 → ((x3 ≤ (5 : Int32) → vp_in x1 12 ∧ ((¬ (gI σ1 (rowC (ix x1)) 0) = 0 → w_X2_isFloating (rowC (ix x1)) (fun r5 σ4 => ((¬ r5 = 0 → w_X2_has (rowC (ix x1)) (fun r7 σ6 => ((¬ r7 = 0 → w_X2_writeMark (rowC (ix x1)) (fun σ8 => (Q (0 : Int32) σ8)) x2 x3 σ6) ∧ (r7 = 0 → (Q (-13 : Int32) σ6)))) x2 (1 : Int32) σ4) ∧ (r5 = 0 → (Q (-12 : Int32) σ4)))) σ1) ∧ ((gI σ1 (rowC (ix x1)) 0) = 0 → (Q (-11 : Int32) σ1)))) ∧ (¬ x3 ≤ (5 : Int32) → (Q (-3 : Int32) σ1)))))))) x1 σ
set_option maxRecDepth 100000 in
set_option maxHeartbeats 4000000 in
theorem b_X4_mark_0 {p : Program} {l : Launch} {e : Env} {s : State} {m : MethodId} {args : Array Value} {below : List Frame} {meth : Method} {c : Code} {D : va_G} {cA : Nat → ClassId} {A : Nat → Prop} {ad0 : Nat → Nat} {Q : Int32 → St → Prop} {x1 : Int32} {x2 : Int32} {x3 : Int32} {σ : St} (X : Cx p rmX4_mark s m args meth c cX4_mark 5 RX4 D cA A) (hr : meth.sig.returnType = some .int) (h : w_X4_mark Q x1 x2 x3 σ) : G p l e rmX4_mark s m args below meth c 5 D cA A (MQ below (va_Qi Q (EndW D cA ad0 shC) A) args s 0 0 A) 0 0 (fun ad => ad = ad0) shC σ [(0, .ref 0), (1, .int x1), (2, .int x2), (3, .int x3)] 0 [] := by
  unfold w_X4_mark at h
  refine g_iload_n X 1 dX4_mark_0 rfl rfl ?_
  refine g_callSI X (n := 1) [.int x1] [] dX4_mark_1 (c_X4_isRow l D cA shC h) q231 q232 q47 q233 ⟨by decide, by decide, by decide +kernel⟩ rfl rfl (Nat.le_of_ble_eq_true rfl) rfl rfl ⟨(Nat.le_of_ble_eq_true rfl), (Nat.le_of_ble_eq_true rfl)⟩ (Nat.le_of_ble_eq_true rfl) (Nat.le_of_ble_eq_true rfl) (fun r2 σ1 h => ?_)
  refine g_if_eq X 16 dX4_mark_4 (by decide) (fun hc => ?_) (fun hc => ?_)
  · have h := h.1 hc
    refine g_bipush X (-3 : Int32) dX4_mark_16 (by decide) ?_
    exact g_iret X hr dX4_mark_18 rfl h
  · have h := h.2 hc
    refine g_iload_n X 3 dX4_mark_7 rfl rfl ?_
    refine g_if_lt X 16 dX4_mark_8 (by decide) (fun hc => ?_) (fun hc => ?_)
    · have h := h.1 hc
      refine g_bipush X (-3 : Int32) dX4_mark_16 (by decide) ?_
      exact g_iret X hr dX4_mark_18 rfl h
    · have h := h.2 hc
      refine g_iload_n X 3 dX4_mark_11 rfl rfl ?_
      refine g_iconst X (5 : Int32) dX4_mark_12 (by decide) ?_
      refine g_icmp_le X 19 dX4_mark_13 (by decide) (fun hc => ?_) (fun hc => ?_)
      · have h := h.1 hc
        refine g_aload_n X 0 dX4_mark_19 rfl rfl ?_
        refine g_getR X (C := RX4) (T := TX4) (N := 7) 0 dX4_mark_20 (Nat.le_of_ble_eq_true rfl) rfl rfl rfl inG4 (Nat.le_of_ble_eq_true rfl) rfl rfl q205 ?_
        refine g_iload_n X 1 dX4_mark_23 rfl rfl ?_
        obtain ⟨hi3, h⟩ := h
        refine g_aald X (C := RX2) (t := 0) dX4_mark_24 (Nat.le_of_ble_eq_true rfl) rfl rfl hi3 (rowC_r (vp_in_lt hi3)) ?_
        refine g_astore X [(4, .ref (rowC (ix x1))), (0, .ref 0), (1, .int x1), (2, .int x2), (3, .int x3)] dX4_mark_25 (Nat.le_of_ble_eq_true rfl) rfl ?_
        refine g_aload X 0 dX4_mark_27 rfl ?_
        refine g_getI X (C := RX2) (T := TX2) (N := 6) 0 dX4_mark_29 (rowSh.b0 (rowC_sh (vp_in_lt hi3))) (rowSh.k0 (rowC_sh (vp_in_lt hi3))) rfl rfl inG2 (Nat.le_of_ble_eq_true rfl) rfl q132 ?_
        refine g_if_ne X 38 dX4_mark_32 (by decide) (fun hc => ?_) (fun hc => ?_)
        · have h := h.1 hc
          refine g_aload X 0 dX4_mark_38 rfl ?_
          refine g_callVI X (C := RX2) (T := TX2) (N := 6) (n := 0) [] [] dX4_mark_40 (c_X2_isFloating l D cA shC (rowC_sh (vp_in_lt hi3)) h) q252 q253 q254 q51 q255 (rowSh.b0 (rowC_sh (vp_in_lt hi3))) (rowSh.k0 (rowC_sh (vp_in_lt hi3))) rfl ⟨rfl, by decide, by decide, by decide +kernel⟩ rfl rfl (Nat.le_of_ble_eq_true rfl) rfl rfl ⟨(Nat.le_of_ble_eq_true rfl), (Nat.le_of_ble_eq_true rfl)⟩ (Nat.le_of_ble_eq_true rfl) (Nat.le_of_ble_eq_true rfl) (fun r5 σ4 h => ?_)
          refine g_if_ne X 49 dX4_mark_43 (by decide) (fun hc => ?_) (fun hc => ?_)
          · have h := h.1 hc
            refine g_aload X 0 dX4_mark_49 rfl ?_
            refine g_iload_n X 3 dX4_mark_51 rfl rfl ?_
            refine g_iconst X (1 : Int32) dX4_mark_52 (by decide) ?_
            refine g_callVI X (C := RX2) (T := TX2) (N := 6) (n := 2) [.int x2, .int (1 : Int32)] [] dX4_mark_53 (c_X2_has l D cA shC (rowC_sh (vp_in_lt hi3)) h) q244 q245 q246 q51 q247 (rowSh.b0 (rowC_sh (vp_in_lt hi3))) (rowSh.k0 (rowC_sh (vp_in_lt hi3))) rfl ⟨rfl, by decide, by decide, by decide +kernel⟩ rfl rfl (Nat.le_of_ble_eq_true rfl) rfl rfl ⟨(Nat.le_of_ble_eq_true rfl), (Nat.le_of_ble_eq_true rfl)⟩ (Nat.le_of_ble_eq_true rfl) (Nat.le_of_ble_eq_true rfl) (fun r7 σ6 h => ?_)
            refine g_if_ne X 62 dX4_mark_56 (by decide) (fun hc => ?_) (fun hc => ?_)
            · have h := h.1 hc
              refine g_aload X 0 dX4_mark_62 rfl ?_
              refine g_iload_n X 3 dX4_mark_64 rfl rfl ?_
              refine g_iload_n X 4 dX4_mark_65 rfl rfl ?_
              refine g_callVV X (C := RX2) (T := TX2) (N := 6) (n := 2) [.int x2, .int x3] [] dX4_mark_66 (c_X2_writeMark l D cA shC (rowC_sh (vp_in_lt hi3)) h) q256 q257 q258 q51 q259 (rowSh.b0 (rowC_sh (vp_in_lt hi3))) (rowSh.k0 (rowC_sh (vp_in_lt hi3))) rfl ⟨rfl, by decide, by decide, by decide +kernel⟩ rfl rfl (Nat.le_of_ble_eq_true rfl) rfl rfl ⟨(Nat.le_of_ble_eq_true rfl), (Nat.le_of_ble_eq_true rfl)⟩ (Nat.le_of_ble_eq_true rfl) (Nat.le_of_ble_eq_true rfl) (fun σ8 h => ?_)
              refine g_iconst X (0 : Int32) dX4_mark_69 (by decide) ?_
              exact g_iret X hr dX4_mark_70 rfl h
            · have h := h.2 hc
              refine g_bipush X (-13 : Int32) dX4_mark_59 (by decide) ?_
              exact g_iret X hr dX4_mark_61 rfl h
          · have h := h.2 hc
            refine g_bipush X (-12 : Int32) dX4_mark_46 (by decide) ?_
            exact g_iret X hr dX4_mark_48 rfl h
        · have h := h.2 hc
          refine g_bipush X (-11 : Int32) dX4_mark_35 (by decide) ?_
          exact g_iret X hr dX4_mark_37 rfl h
      · have h := h.2 hc
        refine g_bipush X (-3 : Int32) dX4_mark_16 (by decide) ?_
        exact g_iret X hr dX4_mark_18 rfl h
theorem c_X4_mark (l : Launch) (D : va_G) (cA : Nat → ClassId) {x1 : Int32} {x2 : Int32} {x3 : Int32} {σ : St} {Q : Int32 → St → Prop} (h : w_X4_mark Q x1 x2 x3 σ) : CtI l yX4_mark cX4_mark 5 (some .int) rmX4_mark D cA shC [.ref 0, .int x1, .int x2, .int x3] σ Q := by
  refine CtI.of (own := RX4) rfl (by decide +kernel) [(0, .ref 0), (1, .int x1), (2, .int x2), (3, .int x3)] rfl (Nat.le_of_ble_eq_true rfl) ?_
  intro p e s m args below meth c ad0 A X hr
  exact b_X4_mark_0 X hr  h
def rmX4_copy : Room := { frames := 2, cells := 0, slots := 0, locals := 64 }
def w_X4_copy (Q : Int32 → St → Prop) (x1 : Int32) (x2 : Int32) (x3 : Int32) (x4 : Int32) (x5 : Int32) (σ : St) : Prop := w_X4_isRow (fun r2 σ1 => ((r2 = 0 → (Q (-3 : Int32) σ1)) ∧ (¬ r2 = 0 → w_X4_isRow (fun r4 σ3 => ((¬ r4 = 0 → vp_in x1 12 ∧ vp_in x3 12 ∧ (((gI σ3 (rowC (ix x1)) 0) = 0 → (Q (-11 : Int32) σ3)) ∧ (¬ (gI σ3 (rowC (ix x1)) 0) = 0 → ((¬ (gI σ3 (rowC (ix x3)) 0) = 0 → (((gI σ3 (rowC (ix x1)) 1) = (gI σ3 (rowC (ix x3)) 1) → ((x5 < 0 → (Q (-13 : Int32) σ3)) ∧ (¬ x5 < 0 → w_X2_has (rowC (ix x1)) (fun r8 σ7 => ((r8 = 0 → (Q (-13 : Int32) σ7)) ∧ (¬ r8 = 0 → w_X2_has (rowC (ix x3)) (fun r10 σ9 => ((¬ r10 = 0 → w_X2_writeAll (rowC (ix x3)) (fun σ11 => (Q x5 σ11)) (rowC (ix x1)) x2 x4 x5 σ9) ∧ (r10 = 0 → (Q (-13 : Int32) σ9)))) x4 x5 σ7))) x2 x5 σ3))) ∧ (¬ (gI σ3 (rowC (ix x1)) 1) = (gI σ3 (rowC (ix x3)) 1) → (Q (-12 : Int32) σ3)))) ∧ ((gI σ3 (rowC (ix x3)) 0) = 0 → (Q (-11 : Int32) σ3)))))) ∧ (r4 = 0 → (Q (-3 : Int32) σ3)))) x3 σ1))) x1 σ
set_option maxRecDepth 100000 in
set_option maxHeartbeats 4000000 in
theorem b_X4_copy_0 {p : Program} {l : Launch} {e : Env} {s : State} {m : MethodId} {args : Array Value} {below : List Frame} {meth : Method} {c : Code} {D : va_G} {cA : Nat → ClassId} {A : Nat → Prop} {ad0 : Nat → Nat} {Q : Int32 → St → Prop} {x1 : Int32} {x2 : Int32} {x3 : Int32} {x4 : Int32} {x5 : Int32} {σ : St} (X : Cx p rmX4_copy s m args meth c cX4_copy 8 RX4 D cA A) (hr : meth.sig.returnType = some .int) (h : w_X4_copy Q x1 x2 x3 x4 x5 σ) : G p l e rmX4_copy s m args below meth c 8 D cA A (MQ below (va_Qi Q (EndW D cA ad0 shC) A) args s 0 0 A) 0 0 (fun ad => ad = ad0) shC σ [(0, .ref 0), (1, .int x1), (2, .int x2), (3, .int x3), (4, .int x4), (5, .int x5)] 0 [] := by
  unfold w_X4_copy at h
  refine g_iload_n X 1 dX4_copy_0 rfl rfl ?_
  refine g_callSI X (n := 1) [.int x1] [] dX4_copy_1 (c_X4_isRow l D cA shC h) q231 q232 q47 q233 ⟨by decide, by decide, by decide +kernel⟩ rfl rfl (Nat.le_of_ble_eq_true rfl) rfl rfl ⟨(Nat.le_of_ble_eq_true rfl), (Nat.le_of_ble_eq_true rfl)⟩ (Nat.le_of_ble_eq_true rfl) (Nat.le_of_ble_eq_true rfl) (fun r2 σ1 h => ?_)
  refine g_if_eq X 14 dX4_copy_4 (by decide) (fun hc => ?_) (fun hc => ?_)
  · have h := h.1 hc
    refine g_bipush X (-3 : Int32) dX4_copy_14 (by decide) ?_
    exact g_iret X hr dX4_copy_16 rfl h
  · have h := h.2 hc
    refine g_iload_n X 3 dX4_copy_7 rfl rfl ?_
    refine g_callSI X (n := 1) [.int x3] [] dX4_copy_8 (c_X4_isRow l D cA shC h) q231 q232 q47 q233 ⟨by decide, by decide, by decide +kernel⟩ rfl rfl (Nat.le_of_ble_eq_true rfl) rfl rfl ⟨(Nat.le_of_ble_eq_true rfl), (Nat.le_of_ble_eq_true rfl)⟩ (Nat.le_of_ble_eq_true rfl) (Nat.le_of_ble_eq_true rfl) (fun r4 σ3 h => ?_)
    refine g_if_ne X 17 dX4_copy_11 (by decide) (fun hc => ?_) (fun hc => ?_)
    · have h := h.1 hc
      refine g_aload_n X 0 dX4_copy_17 rfl rfl ?_
      refine g_getR X (C := RX4) (T := TX4) (N := 7) 0 dX4_copy_18 (Nat.le_of_ble_eq_true rfl) rfl rfl rfl inG4 (Nat.le_of_ble_eq_true rfl) rfl rfl q205 ?_
      refine g_iload_n X 1 dX4_copy_21 rfl rfl ?_
      obtain ⟨hi5, h⟩ := h
      refine g_aald X (C := RX2) (t := 0) dX4_copy_22 (Nat.le_of_ble_eq_true rfl) rfl rfl hi5 (rowC_r (vp_in_lt hi5)) ?_
      refine g_astore X [(6, .ref (rowC (ix x1))), (0, .ref 0), (1, .int x1), (2, .int x2), (3, .int x3), (4, .int x4), (5, .int x5)] dX4_copy_23 (Nat.le_of_ble_eq_true rfl) rfl ?_
      refine g_aload_n X 1 dX4_copy_25 rfl rfl ?_
      refine g_getR X (C := RX4) (T := TX4) (N := 7) 0 dX4_copy_26 (Nat.le_of_ble_eq_true rfl) rfl rfl rfl inG4 (Nat.le_of_ble_eq_true rfl) rfl rfl q205 ?_
      refine g_iload_n X 4 dX4_copy_29 rfl rfl ?_
      obtain ⟨hi6, h⟩ := h
      refine g_aald X (C := RX2) (t := 0) dX4_copy_30 (Nat.le_of_ble_eq_true rfl) rfl rfl hi6 (rowC_r (vp_in_lt hi6)) ?_
      refine g_astore X [(7, .ref (rowC (ix x3))), (6, .ref (rowC (ix x1))), (0, .ref 0), (1, .int x1), (2, .int x2), (3, .int x3), (4, .int x4), (5, .int x5)] dX4_copy_31 (Nat.le_of_ble_eq_true rfl) rfl ?_
      refine g_aload X 1 dX4_copy_33 rfl ?_
      refine g_getI X (C := RX2) (T := TX2) (N := 6) 0 dX4_copy_35 (rowSh.b0 (rowC_sh (vp_in_lt hi5))) (rowSh.k0 (rowC_sh (vp_in_lt hi5))) rfl rfl inG2 (Nat.le_of_ble_eq_true rfl) rfl q132 ?_
      refine g_if_eq X 49 dX4_copy_38 (by decide) (fun hc => ?_) (fun hc => ?_)
      · have h := h.1 hc
        refine g_bipush X (-11 : Int32) dX4_copy_49 (by decide) ?_
        exact g_iret X hr dX4_copy_51 rfl h
      · have h := h.2 hc
        refine g_aload X 0 dX4_copy_41 rfl ?_
        refine g_getI X (C := RX2) (T := TX2) (N := 6) 0 dX4_copy_43 (rowSh.b0 (rowC_sh (vp_in_lt hi6))) (rowSh.k0 (rowC_sh (vp_in_lt hi6))) rfl rfl inG2 (Nat.le_of_ble_eq_true rfl) rfl q132 ?_
        refine g_if_ne X 52 dX4_copy_46 (by decide) (fun hc => ?_) (fun hc => ?_)
        · have h := h.1 hc
          refine g_aload X 1 dX4_copy_52 rfl ?_
          refine g_getI X (C := RX2) (T := TX2) (N := 6) 1 dX4_copy_54 (rowSh.b0 (rowC_sh (vp_in_lt hi5))) (rowSh.k0 (rowC_sh (vp_in_lt hi5))) rfl rfl inG2 (Nat.le_of_ble_eq_true rfl) rfl q134 ?_
          refine g_aload X 0 dX4_copy_57 rfl ?_
          refine g_getI X (C := RX2) (T := TX2) (N := 6) 1 dX4_copy_59 (rowSh.b0 (rowC_sh (vp_in_lt hi6))) (rowSh.k0 (rowC_sh (vp_in_lt hi6))) rfl rfl inG2 (Nat.le_of_ble_eq_true rfl) rfl q134 ?_
          refine g_icmp_eq X 68 dX4_copy_62 (by decide) (fun hc => ?_) (fun hc => ?_)
          · have h := h.1 hc
            refine g_iload X 7 dX4_copy_68 rfl ?_
            refine g_if_lt X 96 dX4_copy_70 (by decide) (fun hc => ?_) (fun hc => ?_)
            · have h := h.1 hc
              refine g_bipush X (-13 : Int32) dX4_copy_96 (by decide) ?_
              exact g_iret X hr dX4_copy_98 rfl h
            · have h := h.2 hc
              refine g_aload X 1 dX4_copy_73 rfl ?_
              refine g_iload_n X 4 dX4_copy_75 rfl rfl ?_
              refine g_iload X 7 dX4_copy_76 rfl ?_
              refine g_callVI X (C := RX2) (T := TX2) (N := 6) (n := 2) [.int x2, .int x5] [] dX4_copy_78 (c_X2_has l D cA shC (rowC_sh (vp_in_lt hi5)) h) q244 q245 q246 q51 q247 (rowSh.b0 (rowC_sh (vp_in_lt hi5))) (rowSh.k0 (rowC_sh (vp_in_lt hi5))) rfl ⟨rfl, by decide, by decide, by decide +kernel⟩ rfl rfl (Nat.le_of_ble_eq_true rfl) rfl rfl ⟨(Nat.le_of_ble_eq_true rfl), (Nat.le_of_ble_eq_true rfl)⟩ (Nat.le_of_ble_eq_true rfl) (Nat.le_of_ble_eq_true rfl) (fun r8 σ7 h => ?_)
              refine g_if_eq X 96 dX4_copy_81 (by decide) (fun hc => ?_) (fun hc => ?_)
              · have h := h.1 hc
                refine g_bipush X (-13 : Int32) dX4_copy_96 (by decide) ?_
                exact g_iret X hr dX4_copy_98 rfl h
              · have h := h.2 hc
                refine g_aload X 0 dX4_copy_84 rfl ?_
                refine g_iload X 6 dX4_copy_86 rfl ?_
                refine g_iload X 7 dX4_copy_88 rfl ?_
                refine g_callVI X (C := RX2) (T := TX2) (N := 6) (n := 2) [.int x4, .int x5] [] dX4_copy_90 (c_X2_has l D cA shC (rowC_sh (vp_in_lt hi6)) h) q244 q245 q246 q51 q247 (rowSh.b0 (rowC_sh (vp_in_lt hi6))) (rowSh.k0 (rowC_sh (vp_in_lt hi6))) rfl ⟨rfl, by decide, by decide, by decide +kernel⟩ rfl rfl (Nat.le_of_ble_eq_true rfl) rfl rfl ⟨(Nat.le_of_ble_eq_true rfl), (Nat.le_of_ble_eq_true rfl)⟩ (Nat.le_of_ble_eq_true rfl) (Nat.le_of_ble_eq_true rfl) (fun r10 σ9 h => ?_)
                refine g_if_ne X 99 dX4_copy_93 (by decide) (fun hc => ?_) (fun hc => ?_)
                · have h := h.1 hc
                  refine g_aload X 0 dX4_copy_99 rfl ?_
                  refine g_aload X 1 dX4_copy_101 rfl ?_
                  refine g_iload_n X 4 dX4_copy_103 rfl rfl ?_
                  refine g_iload X 6 dX4_copy_104 rfl ?_
                  refine g_iload X 7 dX4_copy_106 rfl ?_
                  refine g_callVV X (C := RX2) (T := TX2) (N := 6) (n := 4) [.ref (rowC (ix x1)), .int x2, .int x4, .int x5] [] dX4_copy_108 (c_X2_writeAll l D cA shC (rowC_sh (vp_in_lt hi6)) (rowC_sh (vp_in_lt hi5)) h) q264 q265 q266 q51 q267 (rowSh.b0 (rowC_sh (vp_in_lt hi6))) (rowSh.k0 (rowC_sh (vp_in_lt hi6))) rfl ⟨rfl, by decide, by decide, by decide +kernel⟩ rfl rfl (Nat.le_of_ble_eq_true rfl) rfl rfl ⟨(Nat.le_of_ble_eq_true rfl), (Nat.le_of_ble_eq_true rfl)⟩ (Nat.le_of_ble_eq_true rfl) (Nat.le_of_ble_eq_true rfl) (fun σ11 h => ?_)
                  refine g_iload X 7 dX4_copy_111 rfl ?_
                  exact g_iret X hr dX4_copy_113 rfl h
                · have h := h.2 hc
                  refine g_bipush X (-13 : Int32) dX4_copy_96 (by decide) ?_
                  exact g_iret X hr dX4_copy_98 rfl h
          · have h := h.2 hc
            refine g_bipush X (-12 : Int32) dX4_copy_65 (by decide) ?_
            exact g_iret X hr dX4_copy_67 rfl h
        · have h := h.2 hc
          refine g_bipush X (-11 : Int32) dX4_copy_49 (by decide) ?_
          exact g_iret X hr dX4_copy_51 rfl h
    · have h := h.2 hc
      refine g_bipush X (-3 : Int32) dX4_copy_14 (by decide) ?_
      exact g_iret X hr dX4_copy_16 rfl h
theorem c_X4_copy (l : Launch) (D : va_G) (cA : Nat → ClassId) {x1 : Int32} {x2 : Int32} {x3 : Int32} {x4 : Int32} {x5 : Int32} {σ : St} {Q : Int32 → St → Prop} (h : w_X4_copy Q x1 x2 x3 x4 x5 σ) : CtI l yX4_copy cX4_copy 8 (some .int) rmX4_copy D cA shC [.ref 0, .int x1, .int x2, .int x3, .int x4, .int x5] σ Q := by
  refine CtI.of (own := RX4) rfl (by decide +kernel) [(0, .ref 0), (1, .int x1), (2, .int x2), (3, .int x3), (4, .int x4), (5, .int x5)] rfl (Nat.le_of_ble_eq_true rfl) ?_
  intro p e s m args below meth c ad0 A X hr
  exact b_X4_copy_0 X hr  h
def rmX4_look : Room := { frames := 1, cells := 0, slots := 0, locals := 22 }
def w_X4_look (Q : Int64 → St → Prop) (x1 : Int32) (x2 : Int32) (x3 : Int32) (σ : St) : Prop := w_X4_isRow (fun r2 σ1 => ((r2 = 0 → (Q (-3 : Int64) σ1)) ∧ (¬ r2 = 0 → ((x2 < 0 → (Q (-3 : Int64) σ1)) ∧ (¬ x2 < 0 → ((x2 ≤ (3 : Int32) → vp_in x1 12 ∧ ((¬ (gI σ1 (rowC (ix x1)) 0) = 0 → (((gI σ1 (rowC (ix x1)) 1) = x2 → w_X2_has (rowC (ix x1)) (fun r5 σ4 => ((¬ r5 = 0 → vp_in x3 40 ∧ (Q (gJ σ4 ((rowC (ix x1)) + 1) (ix x3)) σ4)) ∧ (r5 = 0 → (Q (-13 : Int64) σ4)))) x3 (1 : Int32) σ1) ∧ (¬ (gI σ1 (rowC (ix x1)) 1) = x2 → (Q (-12 : Int64) σ1)))) ∧ ((gI σ1 (rowC (ix x1)) 0) = 0 → (Q (-11 : Int64) σ1)))) ∧ (¬ x2 ≤ (3 : Int32) → (Q (-3 : Int64) σ1)))))))) x1 σ
set_option maxRecDepth 100000 in
set_option maxHeartbeats 4000000 in
theorem b_X4_look_0 {p : Program} {l : Launch} {e : Env} {s : State} {m : MethodId} {args : Array Value} {below : List Frame} {meth : Method} {c : Code} {D : va_G} {cA : Nat → ClassId} {A : Nat → Prop} {ad0 : Nat → Nat} {Q : Int64 → St → Prop} {x1 : Int32} {x2 : Int32} {x3 : Int32} {σ : St} (X : Cx p rmX4_look s m args meth c cX4_look 5 RX4 D cA A) (hr : meth.sig.returnType = some .long) (h : w_X4_look Q x1 x2 x3 σ) : G p l e rmX4_look s m args below meth c 5 D cA A (MQ below (va_Ql Q (EndW D cA ad0 shC) A) args s 0 0 A) 0 0 (fun ad => ad = ad0) shC σ [(0, .ref 0), (1, .int x1), (2, .int x2), (3, .int x3)] 0 [] := by
  unfold w_X4_look at h
  refine g_iload_n X 1 dX4_look_0 rfl rfl ?_
  refine g_callSI X (n := 1) [.int x1] [] dX4_look_1 (c_X4_isRow l D cA shC h) q231 q232 q47 q233 ⟨by decide, by decide, by decide +kernel⟩ rfl rfl (Nat.le_of_ble_eq_true rfl) rfl rfl ⟨(Nat.le_of_ble_eq_true rfl), (Nat.le_of_ble_eq_true rfl)⟩ (Nat.le_of_ble_eq_true rfl) (Nat.le_of_ble_eq_true rfl) (fun r2 σ1 h => ?_)
  refine g_if_eq X 16 dX4_look_4 (by decide) (fun hc => ?_) (fun hc => ?_)
  · have h := h.1 hc
    refine g_ldc2 X q275 dX4_look_16 ?_
    exact g_lret X hr dX4_look_19 h
  · have h := h.2 hc
    refine g_iload_n X 2 dX4_look_7 rfl rfl ?_
    refine g_if_lt X 16 dX4_look_8 (by decide) (fun hc => ?_) (fun hc => ?_)
    · have h := h.1 hc
      refine g_ldc2 X q275 dX4_look_16 ?_
      exact g_lret X hr dX4_look_19 h
    · have h := h.2 hc
      refine g_iload_n X 2 dX4_look_11 rfl rfl ?_
      refine g_iconst X (3 : Int32) dX4_look_12 (by decide) ?_
      refine g_icmp_le X 20 dX4_look_13 (by decide) (fun hc => ?_) (fun hc => ?_)
      · have h := h.1 hc
        refine g_aload_n X 0 dX4_look_20 rfl rfl ?_
        refine g_getR X (C := RX4) (T := TX4) (N := 7) 0 dX4_look_21 (Nat.le_of_ble_eq_true rfl) rfl rfl rfl inG4 (Nat.le_of_ble_eq_true rfl) rfl rfl q205 ?_
        refine g_iload_n X 1 dX4_look_24 rfl rfl ?_
        obtain ⟨hi3, h⟩ := h
        refine g_aald X (C := RX2) (t := 0) dX4_look_25 (Nat.le_of_ble_eq_true rfl) rfl rfl hi3 (rowC_r (vp_in_lt hi3)) ?_
        refine g_astore X [(4, .ref (rowC (ix x1))), (0, .ref 0), (1, .int x1), (2, .int x2), (3, .int x3)] dX4_look_26 (Nat.le_of_ble_eq_true rfl) rfl ?_
        refine g_aload X 0 dX4_look_28 rfl ?_
        refine g_getI X (C := RX2) (T := TX2) (N := 6) 0 dX4_look_30 (rowSh.b0 (rowC_sh (vp_in_lt hi3))) (rowSh.k0 (rowC_sh (vp_in_lt hi3))) rfl rfl inG2 (Nat.le_of_ble_eq_true rfl) rfl q132 ?_
        refine g_if_ne X 40 dX4_look_33 (by decide) (fun hc => ?_) (fun hc => ?_)
        · have h := h.1 hc
          refine g_aload X 0 dX4_look_40 rfl ?_
          refine g_getI X (C := RX2) (T := TX2) (N := 6) 1 dX4_look_42 (rowSh.b0 (rowC_sh (vp_in_lt hi3))) (rowSh.k0 (rowC_sh (vp_in_lt hi3))) rfl rfl inG2 (Nat.le_of_ble_eq_true rfl) rfl q134 ?_
          refine g_iload_n X 3 dX4_look_45 rfl rfl ?_
          refine g_icmp_eq X 53 dX4_look_46 (by decide) (fun hc => ?_) (fun hc => ?_)
          · have h := h.1 hc
            refine g_aload X 0 dX4_look_53 rfl ?_
            refine g_iload_n X 4 dX4_look_55 rfl rfl ?_
            refine g_iconst X (1 : Int32) dX4_look_56 (by decide) ?_
            refine g_callVI X (C := RX2) (T := TX2) (N := 6) (n := 2) [.int x3, .int (1 : Int32)] [] dX4_look_57 (c_X2_has l D cA shC (rowC_sh (vp_in_lt hi3)) h) q244 q245 q246 q51 q247 (rowSh.b0 (rowC_sh (vp_in_lt hi3))) (rowSh.k0 (rowC_sh (vp_in_lt hi3))) rfl ⟨rfl, by decide, by decide, by decide +kernel⟩ rfl rfl (Nat.le_of_ble_eq_true rfl) rfl rfl ⟨(Nat.le_of_ble_eq_true rfl), (Nat.le_of_ble_eq_true rfl)⟩ (Nat.le_of_ble_eq_true rfl) (Nat.le_of_ble_eq_true rfl) (fun r5 σ4 h => ?_)
            refine g_if_ne X 67 dX4_look_60 (by decide) (fun hc => ?_) (fun hc => ?_)
            · have h := h.1 hc
              refine g_aload X 0 dX4_look_67 rfl ?_
              refine g_getR X (C := RX2) (T := TX2) (N := 6) 3 dX4_look_69 (rowSh.b0 (rowC_sh (vp_in_lt hi3))) (rowSh.k0 (rowC_sh (vp_in_lt hi3))) rfl rfl inG2 (Nat.le_of_ble_eq_true rfl) rfl (rowSh.r3 (rowC_sh (vp_in_lt hi3))) q138 ?_
              refine g_iload_n X 4 dX4_look_72 rfl rfl ?_
              obtain ⟨hi6, h⟩ := h
              refine g_lald X dX4_look_73 (rowSh.b1 (rowC_sh (vp_in_lt hi3))) (rowSh.k1 (rowC_sh (vp_in_lt hi3))) hi6 ?_
              exact g_lret X hr dX4_look_74 h
            · have h := h.2 hc
              refine g_ldc2 X q278 dX4_look_63 ?_
              exact g_lret X hr dX4_look_66 h
          · have h := h.2 hc
            refine g_ldc2 X q277 dX4_look_49 ?_
            exact g_lret X hr dX4_look_52 h
        · have h := h.2 hc
          refine g_ldc2 X q276 dX4_look_36 ?_
          exact g_lret X hr dX4_look_39 h
      · have h := h.2 hc
        refine g_ldc2 X q275 dX4_look_16 ?_
        exact g_lret X hr dX4_look_19 h
theorem c_X4_look (l : Launch) (D : va_G) (cA : Nat → ClassId) {x1 : Int32} {x2 : Int32} {x3 : Int32} {σ : St} {Q : Int64 → St → Prop} (h : w_X4_look Q x1 x2 x3 σ) : CtL l yX4_look cX4_look 5 (some .long) rmX4_look D cA shC [.ref 0, .int x1, .int x2, .int x3] σ Q := by
  refine CtL.of (own := RX4) rfl (by decide +kernel) [(0, .ref 0), (1, .int x1), (2, .int x2), (3, .int x3)] rfl (Nat.le_of_ble_eq_true rfl) ?_
  intro p e s m args below meth c ad0 A X hr
  exact b_X4_look_0 X hr  h
def rmX4_see : Room := { frames := 3, cells := 0, slots := 0, locals := 67 }
def w_X4_see (Q : UInt64 → St → Prop) (x1 : Int32) (x2 : Int32) (σ : St) : Prop := w_X4_isRow (fun r2 σ1 => ((¬ r2 = 0 → vp_in x1 12 ∧ (((gI σ1 (rowC (ix x1)) 0) = 0 → (Q FP.dconst0 σ1)) ∧ (¬ (gI σ1 (rowC (ix x1)) 0) = 0 → w_X2_isFloating (rowC (ix x1)) (fun r5 σ4 => ((r5 = 0 → (Q FP.dconst0 σ4)) ∧ (¬ r5 = 0 → w_X2_has (rowC (ix x1)) (fun r7 σ6 => ((¬ r7 = 0 → w_X2_asDouble (rowC (ix x1)) (fun r9 σ8 => (Q r9 σ8)) x2 σ6) ∧ (r7 = 0 → (Q FP.dconst0 σ6)))) x2 (1 : Int32) σ4))) σ1))) ∧ (r2 = 0 → (Q FP.dconst0 σ1)))) x1 σ
set_option maxRecDepth 100000 in
set_option maxHeartbeats 4000000 in
theorem b_X4_see_0 {p : Program} {l : Launch} {e : Env} {s : State} {m : MethodId} {args : Array Value} {below : List Frame} {meth : Method} {c : Code} {D : va_G} {cA : Nat → ClassId} {A : Nat → Prop} {ad0 : Nat → Nat} {Q : UInt64 → St → Prop} {x1 : Int32} {x2 : Int32} {σ : St} (X : Cx p rmX4_see s m args meth c cX4_see 4 RX4 D cA A) (hr : meth.sig.returnType = some .double) (h : w_X4_see Q x1 x2 σ) : G p l e rmX4_see s m args below meth c 4 D cA A (MQ below (va_Qd Q (EndW D cA ad0 shC) A) args s 0 0 A) 0 0 (fun ad => ad = ad0) shC σ [(0, .ref 0), (1, .int x1), (2, .int x2)] 0 [] := by
  unfold w_X4_see at h
  refine g_iload_n X 1 dX4_see_0 rfl rfl ?_
  refine g_callSI X (n := 1) [.int x1] [] dX4_see_1 (c_X4_isRow l D cA shC h) q231 q232 q47 q233 ⟨by decide, by decide, by decide +kernel⟩ rfl rfl (Nat.le_of_ble_eq_true rfl) rfl rfl ⟨(Nat.le_of_ble_eq_true rfl), (Nat.le_of_ble_eq_true rfl)⟩ (Nat.le_of_ble_eq_true rfl) (Nat.le_of_ble_eq_true rfl) (fun r2 σ1 h => ?_)
  refine g_if_ne X 9 dX4_see_4 (by decide) (fun hc => ?_) (fun hc => ?_)
  · have h := h.1 hc
    refine g_aload_n X 0 dX4_see_9 rfl rfl ?_
    refine g_getR X (C := RX4) (T := TX4) (N := 7) 0 dX4_see_10 (Nat.le_of_ble_eq_true rfl) rfl rfl rfl inG4 (Nat.le_of_ble_eq_true rfl) rfl rfl q205 ?_
    refine g_iload_n X 1 dX4_see_13 rfl rfl ?_
    obtain ⟨hi3, h⟩ := h
    refine g_aald X (C := RX2) (t := 0) dX4_see_14 (Nat.le_of_ble_eq_true rfl) rfl rfl hi3 (rowC_r (vp_in_lt hi3)) ?_
    refine g_astore_n X [(3, .ref (rowC (ix x1))), (0, .ref 0), (1, .int x1), (2, .int x2)] dX4_see_15 rfl (Nat.le_of_ble_eq_true rfl) rfl ?_
    refine g_aload_n X 0 dX4_see_16 rfl rfl ?_
    refine g_getI X (C := RX2) (T := TX2) (N := 6) 0 dX4_see_17 (rowSh.b0 (rowC_sh (vp_in_lt hi3))) (rowSh.k0 (rowC_sh (vp_in_lt hi3))) rfl rfl inG2 (Nat.le_of_ble_eq_true rfl) rfl q132 ?_
    refine g_if_eq X 39 dX4_see_20 (by decide) (fun hc => ?_) (fun hc => ?_)
    · have h := h.1 hc
      refine g_dconst0 X dX4_see_39 ?_
      exact g_dret X hr dX4_see_40 h
    · have h := h.2 hc
      refine g_aload_n X 0 dX4_see_23 rfl rfl ?_
      refine g_callVI X (C := RX2) (T := TX2) (N := 6) (n := 0) [] [] dX4_see_24 (c_X2_isFloating l D cA shC (rowC_sh (vp_in_lt hi3)) h) q252 q253 q254 q51 q255 (rowSh.b0 (rowC_sh (vp_in_lt hi3))) (rowSh.k0 (rowC_sh (vp_in_lt hi3))) rfl ⟨rfl, by decide, by decide, by decide +kernel⟩ rfl rfl (Nat.le_of_ble_eq_true rfl) rfl rfl ⟨(Nat.le_of_ble_eq_true rfl), (Nat.le_of_ble_eq_true rfl)⟩ (Nat.le_of_ble_eq_true rfl) (Nat.le_of_ble_eq_true rfl) (fun r5 σ4 h => ?_)
      refine g_if_eq X 39 dX4_see_27 (by decide) (fun hc => ?_) (fun hc => ?_)
      · have h := h.1 hc
        refine g_dconst0 X dX4_see_39 ?_
        exact g_dret X hr dX4_see_40 h
      · have h := h.2 hc
        refine g_aload_n X 0 dX4_see_30 rfl rfl ?_
        refine g_iload_n X 3 dX4_see_31 rfl rfl ?_
        refine g_iconst X (1 : Int32) dX4_see_32 (by decide) ?_
        refine g_callVI X (C := RX2) (T := TX2) (N := 6) (n := 2) [.int x2, .int (1 : Int32)] [] dX4_see_33 (c_X2_has l D cA shC (rowC_sh (vp_in_lt hi3)) h) q244 q245 q246 q51 q247 (rowSh.b0 (rowC_sh (vp_in_lt hi3))) (rowSh.k0 (rowC_sh (vp_in_lt hi3))) rfl ⟨rfl, by decide, by decide, by decide +kernel⟩ rfl rfl (Nat.le_of_ble_eq_true rfl) rfl rfl ⟨(Nat.le_of_ble_eq_true rfl), (Nat.le_of_ble_eq_true rfl)⟩ (Nat.le_of_ble_eq_true rfl) (Nat.le_of_ble_eq_true rfl) (fun r7 σ6 h => ?_)
        refine g_if_ne X 41 dX4_see_36 (by decide) (fun hc => ?_) (fun hc => ?_)
        · have h := h.1 hc
          refine g_aload_n X 0 dX4_see_41 rfl rfl ?_
          refine g_iload_n X 3 dX4_see_42 rfl rfl ?_
          refine g_callVD X (C := RX2) (T := TX2) (N := 6) (n := 1) [.int x2] [] dX4_see_43 (c_X2_asDouble l D cA shC (rowC_sh (vp_in_lt hi3)) h) q283 q284 q285 q51 q286 (rowSh.b0 (rowC_sh (vp_in_lt hi3))) (rowSh.k0 (rowC_sh (vp_in_lt hi3))) rfl ⟨rfl, by decide, by decide, by decide +kernel⟩ rfl rfl (Nat.le_of_ble_eq_true rfl) rfl rfl ⟨(Nat.le_of_ble_eq_true rfl), (Nat.le_of_ble_eq_true rfl)⟩ (Nat.le_of_ble_eq_true rfl) (Nat.le_of_ble_eq_true rfl) (fun r9 σ8 h => ?_)
          exact g_dret X hr dX4_see_46 h
        · have h := h.2 hc
          refine g_dconst0 X dX4_see_39 ?_
          exact g_dret X hr dX4_see_40 h
  · have h := h.2 hc
    refine g_dconst0 X dX4_see_7 ?_
    exact g_dret X hr dX4_see_8 h
theorem c_X4_see (l : Launch) (D : va_G) (cA : Nat → ClassId) {x1 : Int32} {x2 : Int32} {σ : St} {Q : UInt64 → St → Prop} (h : w_X4_see Q x1 x2 σ) : CtD l yX4_see cX4_see 4 (some .double) rmX4_see D cA shC [.ref 0, .int x1, .int x2] σ Q := by
  refine CtD.of (own := RX4) rfl (by decide +kernel) [(0, .ref 0), (1, .int x1), (2, .int x2)] rfl (Nat.le_of_ble_eq_true rfl) ?_
  intro p e s m args below meth c ad0 A X hr
  exact b_X4_see_0 X hr  h
def rmX4_compare : Room := { frames := 3, cells := 0, slots := 0, locals := 67 }
def w_X4_compare (Q : Int32 → St → Prop) (x1 : Int32) (x2 : Int32) (x3 : UInt64) (σ : St) : Prop := w_X4_isRow (fun r2 σ1 => ((¬ r2 = 0 → vp_in x1 12 ∧ ((¬ (gI σ1 (rowC (ix x1)) 0) = 0 → w_X2_has (rowC (ix x1)) (fun r5 σ4 => ((¬ r5 = 0 → w_X2_sortAt (rowC (ix x1)) (fun r7 σ6 => ((¬ r7 = (3 : Int32) → w_X2_asDouble (rowC (ix x1)) (fun r9 σ8 => ((0 ≤ (dcmpF r9 x3 .g) → ((¬ (dcmpF r9 x3 .l) = 0 → (((dcmpF r9 x3 .l) ≤ 0 → (Q (0 : Int32) σ8)) ∧ (¬ (dcmpF r9 x3 .l) ≤ 0 → (Q (3 : Int32) σ8)))) ∧ ((dcmpF r9 x3 .l) = 0 → (Q (2 : Int32) σ8)))) ∧ (¬ 0 ≤ (dcmpF r9 x3 .g) → (Q (1 : Int32) σ8)))) x2 σ6) ∧ (r7 = (3 : Int32) → (Q (0 : Int32) σ6)))) x2 σ4) ∧ (r5 = 0 → (Q (-13 : Int32) σ4)))) x2 (1 : Int32) σ1) ∧ ((gI σ1 (rowC (ix x1)) 0) = 0 → (Q (-11 : Int32) σ1)))) ∧ (r2 = 0 → (Q (-3 : Int32) σ1)))) x1 σ
set_option maxRecDepth 100000 in
set_option maxHeartbeats 4000000 in
theorem b_X4_compare_0 {p : Program} {l : Launch} {e : Env} {s : State} {m : MethodId} {args : Array Value} {below : List Frame} {meth : Method} {c : Code} {D : va_G} {cA : Nat → ClassId} {A : Nat → Prop} {ad0 : Nat → Nat} {Q : Int32 → St → Prop} {x1 : Int32} {x2 : Int32} {x3 : UInt64} {σ : St} (X : Cx p rmX4_compare s m args meth c cX4_compare 8 RX4 D cA A) (hr : meth.sig.returnType = some .int) (h : w_X4_compare Q x1 x2 x3 σ) : G p l e rmX4_compare s m args below meth c 8 D cA A (MQ below (va_Qi Q (EndW D cA ad0 shC) A) args s 0 0 A) 0 0 (fun ad => ad = ad0) shC σ [(0, .ref 0), (1, .int x1), (2, .int x2), (3, .double x3)] 0 [] := by
  unfold w_X4_compare at h
  refine g_iload_n X 1 dX4_compare_0 rfl rfl ?_
  refine g_callSI X (n := 1) [.int x1] [] dX4_compare_1 (c_X4_isRow l D cA shC h) q231 q232 q47 q233 ⟨by decide, by decide, by decide +kernel⟩ rfl rfl (Nat.le_of_ble_eq_true rfl) rfl rfl ⟨(Nat.le_of_ble_eq_true rfl), (Nat.le_of_ble_eq_true rfl)⟩ (Nat.le_of_ble_eq_true rfl) (Nat.le_of_ble_eq_true rfl) (fun r2 σ1 h => ?_)
  refine g_if_ne X 10 dX4_compare_4 (by decide) (fun hc => ?_) (fun hc => ?_)
  · have h := h.1 hc
    refine g_aload_n X 0 dX4_compare_10 rfl rfl ?_
    refine g_getR X (C := RX4) (T := TX4) (N := 7) 0 dX4_compare_11 (Nat.le_of_ble_eq_true rfl) rfl rfl rfl inG4 (Nat.le_of_ble_eq_true rfl) rfl rfl q205 ?_
    refine g_iload_n X 1 dX4_compare_14 rfl rfl ?_
    obtain ⟨hi3, h⟩ := h
    refine g_aald X (C := RX2) (t := 0) dX4_compare_15 (Nat.le_of_ble_eq_true rfl) rfl rfl hi3 (rowC_r (vp_in_lt hi3)) ?_
    refine g_astore X [(5, .ref (rowC (ix x1))), (0, .ref 0), (1, .int x1), (2, .int x2), (3, .double x3)] dX4_compare_16 (Nat.le_of_ble_eq_true rfl) rfl ?_
    refine g_aload X 0 dX4_compare_18 rfl ?_
    refine g_getI X (C := RX2) (T := TX2) (N := 6) 0 dX4_compare_20 (rowSh.b0 (rowC_sh (vp_in_lt hi3))) (rowSh.k0 (rowC_sh (vp_in_lt hi3))) rfl rfl inG2 (Nat.le_of_ble_eq_true rfl) rfl q132 ?_
    refine g_if_ne X 29 dX4_compare_23 (by decide) (fun hc => ?_) (fun hc => ?_)
    · have h := h.1 hc
      refine g_aload X 0 dX4_compare_29 rfl ?_
      refine g_iload_n X 3 dX4_compare_31 rfl rfl ?_
      refine g_iconst X (1 : Int32) dX4_compare_32 (by decide) ?_
      refine g_callVI X (C := RX2) (T := TX2) (N := 6) (n := 2) [.int x2, .int (1 : Int32)] [] dX4_compare_33 (c_X2_has l D cA shC (rowC_sh (vp_in_lt hi3)) h) q244 q245 q246 q51 q247 (rowSh.b0 (rowC_sh (vp_in_lt hi3))) (rowSh.k0 (rowC_sh (vp_in_lt hi3))) rfl ⟨rfl, by decide, by decide, by decide +kernel⟩ rfl rfl (Nat.le_of_ble_eq_true rfl) rfl rfl ⟨(Nat.le_of_ble_eq_true rfl), (Nat.le_of_ble_eq_true rfl)⟩ (Nat.le_of_ble_eq_true rfl) (Nat.le_of_ble_eq_true rfl) (fun r5 σ4 h => ?_)
      refine g_if_ne X 42 dX4_compare_36 (by decide) (fun hc => ?_) (fun hc => ?_)
      · have h := h.1 hc
        refine g_aload X 0 dX4_compare_42 rfl ?_
        refine g_iload_n X 3 dX4_compare_44 rfl rfl ?_
        refine g_callVI X (C := RX2) (T := TX2) (N := 6) (n := 1) [.int x2] [] dX4_compare_45 (c_X2_sortAt l D cA shC (rowC_sh (vp_in_lt hi3)) h) q304 q305 q306 q51 q307 (rowSh.b0 (rowC_sh (vp_in_lt hi3))) (rowSh.k0 (rowC_sh (vp_in_lt hi3))) rfl ⟨rfl, by decide, by decide, by decide +kernel⟩ rfl rfl (Nat.le_of_ble_eq_true rfl) rfl rfl ⟨(Nat.le_of_ble_eq_true rfl), (Nat.le_of_ble_eq_true rfl)⟩ (Nat.le_of_ble_eq_true rfl) (Nat.le_of_ble_eq_true rfl) (fun r7 σ6 h => ?_)
        refine g_iconst X (3 : Int32) dX4_compare_48 (by decide) ?_
        refine g_icmp_ne X 54 dX4_compare_49 (by decide) (fun hc => ?_) (fun hc => ?_)
        · have h := h.1 hc
          refine g_aload X 0 dX4_compare_54 rfl ?_
          refine g_iload_n X 3 dX4_compare_56 rfl rfl ?_
          refine g_callVD X (C := RX2) (T := TX2) (N := 6) (n := 1) [.int x2] [] dX4_compare_57 (c_X2_asDouble l D cA shC (rowC_sh (vp_in_lt hi3)) h) q283 q284 q285 q51 q286 (rowSh.b0 (rowC_sh (vp_in_lt hi3))) (rowSh.k0 (rowC_sh (vp_in_lt hi3))) rfl ⟨rfl, by decide, by decide, by decide +kernel⟩ rfl rfl (Nat.le_of_ble_eq_true rfl) rfl rfl ⟨(Nat.le_of_ble_eq_true rfl), (Nat.le_of_ble_eq_true rfl)⟩ (Nat.le_of_ble_eq_true rfl) (Nat.le_of_ble_eq_true rfl) (fun r9 σ8 h => ?_)
          refine g_dstore X [(6, .double r9), (5, .ref (rowC (ix x1))), (0, .ref 0), (1, .int x1), (2, .int x2), (3, .double x3)] dX4_compare_60 (Nat.le_of_ble_eq_true rfl) rfl ?_
          refine g_dload X 0 dX4_compare_62 rfl ?_
          refine g_dload_n X 5 dX4_compare_64 rfl rfl ?_
          refine g_dcmp X dX4_compare_65 ?_
          refine g_if_ge X 71 dX4_compare_66 (by decide) (fun hc => ?_) (fun hc => ?_)
          · have h := h.1 hc
            refine g_dload X 0 dX4_compare_71 rfl ?_
            refine g_dload_n X 5 dX4_compare_73 rfl rfl ?_
            refine g_dcmp X dX4_compare_74 ?_
            refine g_if_ne X 80 dX4_compare_75 (by decide) (fun hc => ?_) (fun hc => ?_)
            · have h := h.1 hc
              refine g_dload X 0 dX4_compare_80 rfl ?_
              refine g_dload_n X 5 dX4_compare_82 rfl rfl ?_
              refine g_dcmp X dX4_compare_83 ?_
              refine g_if_le X 91 dX4_compare_84 (by decide) (fun hc => ?_) (fun hc => ?_)
              · have h := h.1 hc
                refine g_iconst X (0 : Int32) dX4_compare_91 (by decide) ?_
                exact g_iret X hr dX4_compare_92 rfl h
              · have h := h.2 hc
                refine g_iconst X (3 : Int32) dX4_compare_87 (by decide) ?_
                refine g_goto X 92 dX4_compare_88 (by decide) ?_
                exact g_iret X hr dX4_compare_92 rfl h
            · have h := h.2 hc
              refine g_iconst X (2 : Int32) dX4_compare_78 (by decide) ?_
              exact g_iret X hr dX4_compare_79 rfl h
          · have h := h.2 hc
            refine g_iconst X (1 : Int32) dX4_compare_69 (by decide) ?_
            exact g_iret X hr dX4_compare_70 rfl h
        · have h := h.2 hc
          refine g_iconst X (0 : Int32) dX4_compare_52 (by decide) ?_
          exact g_iret X hr dX4_compare_53 rfl h
      · have h := h.2 hc
        refine g_bipush X (-13 : Int32) dX4_compare_39 (by decide) ?_
        exact g_iret X hr dX4_compare_41 rfl h
    · have h := h.2 hc
      refine g_bipush X (-11 : Int32) dX4_compare_26 (by decide) ?_
      exact g_iret X hr dX4_compare_28 rfl h
  · have h := h.2 hc
    refine g_bipush X (-3 : Int32) dX4_compare_7 (by decide) ?_
    exact g_iret X hr dX4_compare_9 rfl h
theorem c_X4_compare (l : Launch) (D : va_G) (cA : Nat → ClassId) {x1 : Int32} {x2 : Int32} {x3 : UInt64} {σ : St} {Q : Int32 → St → Prop} (h : w_X4_compare Q x1 x2 x3 σ) : CtI l yX4_compare cX4_compare 8 (some .int) rmX4_compare D cA shC [.ref 0, .int x1, .int x2, .double x3] σ Q := by
  refine CtI.of (own := RX4) rfl (by decide +kernel) [(0, .ref 0), (1, .int x1), (2, .int x2), (3, .double x3)] rfl (Nat.le_of_ble_eq_true rfl) ?_
  intro p e s m args below meth c ad0 A X hr
  exact b_X4_compare_0 X hr  h
def rmX4_isKeeper : Room := { frames := 0, cells := 0, slots := 0, locals := 0 }
def w_X4_isKeeper (Q : Int32 → St → Prop) (x0 : Int32) (σ : St) : Prop := ((x0 < 0 → (Q (0 : Int32) σ)) ∧ (¬ x0 < 0 → (((6 : Int32) ≤ x0 → (Q (0 : Int32) σ)) ∧ (¬ (6 : Int32) ≤ x0 → (Q (1 : Int32) σ)))))
set_option maxRecDepth 100000 in
set_option maxHeartbeats 4000000 in
theorem b_X4_isKeeper_0 {p : Program} {l : Launch} {e : Env} {s : State} {m : MethodId} {args : Array Value} {below : List Frame} {meth : Method} {c : Code} {D : va_G} {cA : Nat → ClassId} {A : Nat → Prop} {ad0 : Nat → Nat} {sh : SH} {Q : Int32 → St → Prop} {x0 : Int32} {σ : St} (X : Cx p rmX4_isKeeper s m args meth c cX4_isKeeper 1 RX4 D cA A) (hr : meth.sig.returnType = some .boolean) (h : w_X4_isKeeper Q x0 σ) : G p l e rmX4_isKeeper s m args below meth c 1 D cA A (MQ below (va_Qi Q (EndW D cA ad0 sh) A) args s 0 0 A) 0 0 (fun ad => ad = ad0) sh σ [(0, .int x0)] 0 [] := by
  unfold w_X4_isKeeper at h
  refine g_iload_n X 0 dX4_isKeeper_0 rfl rfl ?_
  refine g_if_lt X 14 dX4_isKeeper_1 (by decide) (fun hc => ?_) (fun hc => ?_)
  · have h := h.1 hc
    refine g_iconst X (0 : Int32) dX4_isKeeper_14 (by decide) ?_
    exact g_iret X hr dX4_isKeeper_15 (by decide) h
  · have h := h.2 hc
    refine g_iload_n X 0 dX4_isKeeper_4 rfl rfl ?_
    refine g_bipush X (6 : Int32) dX4_isKeeper_5 (by decide) ?_
    refine g_icmp_ge X 14 dX4_isKeeper_7 (by decide) (fun hc => ?_) (fun hc => ?_)
    · have h := h.1 hc
      refine g_iconst X (0 : Int32) dX4_isKeeper_14 (by decide) ?_
      exact g_iret X hr dX4_isKeeper_15 (by decide) h
    · have h := h.2 hc
      refine g_iconst X (1 : Int32) dX4_isKeeper_10 (by decide) ?_
      refine g_goto X 15 dX4_isKeeper_11 (by decide) ?_
      exact g_iret X hr dX4_isKeeper_15 (by decide) h
theorem c_X4_isKeeper (l : Launch) (D : va_G) (cA : Nat → ClassId) (sh : SH) {x0 : Int32} {σ : St} {Q : Int32 → St → Prop} (h : w_X4_isKeeper Q x0 σ) : CtI l yX4_isKeeper cX4_isKeeper 1 (some .boolean) rmX4_isKeeper D cA sh [.int x0] σ Q := by
  refine CtI.of (own := RX4) rfl (by decide +kernel) [(0, .int x0)] rfl (Nat.le_of_ble_eq_true rfl) ?_
  intro p e s m args below meth c ad0 A X hr
  exact b_X4_isKeeper_0 X hr  h
def rmX4_remember : Room := { frames := 3, cells := 0, slots := 0, locals := 83 }
def w_X4_remember (Q : St → Prop) (x1 : Int32) (σ : St) : Prop := vp_in x1 6 ∧ w_X0_keep (fun σ2 => (Q σ2)) x1 (keepC (ix x1)) σ
set_option maxRecDepth 100000 in
set_option maxHeartbeats 4000000 in
theorem b_X4_remember_0 {p : Program} {l : Launch} {e : Env} {s : State} {m : MethodId} {args : Array Value} {below : List Frame} {meth : Method} {c : Code} {D : va_G} {cA : Nat → ClassId} {A : Nat → Prop} {ad0 : Nat → Nat} {Q : St → Prop} {x1 : Int32} {σ : St} (X : Cx p rmX4_remember s m args meth c cX4_remember 2 RX4 D cA A) (hr : meth.sig.returnType = none) (h : w_X4_remember Q x1 σ) : G p l e rmX4_remember s m args below meth c 2 D cA A (MQ below (va_Qv Q (EndW D cA ad0 shC) A) args s 0 0 A) 0 0 (fun ad => ad = ad0) shC σ [(0, .ref 0), (1, .int x1)] 0 [] := by
  unfold w_X4_remember at h
  refine g_aload_n X 0 dX4_remember_0 rfl rfl ?_
  refine g_getR X (C := RX4) (T := TX4) (N := 7) 2 dX4_remember_1 (Nat.le_of_ble_eq_true rfl) rfl rfl rfl inG4 (Nat.le_of_ble_eq_true rfl) rfl rfl q207 ?_
  refine g_iload_n X 1 dX4_remember_4 rfl rfl ?_
  refine g_aload_n X 0 dX4_remember_5 rfl rfl ?_
  refine g_getR X (C := RX4) (T := TX4) (N := 7) 1 dX4_remember_6 (Nat.le_of_ble_eq_true rfl) rfl rfl rfl inG4 (Nat.le_of_ble_eq_true rfl) rfl rfl q206 ?_
  refine g_iload_n X 1 dX4_remember_9 rfl rfl ?_
  obtain ⟨hi1, h⟩ := h
  refine g_aald X (C := RX1) (t := 1) dX4_remember_10 (Nat.le_of_ble_eq_true rfl) rfl rfl hi1 (keepC_r (vp_in_lt hi1)) ?_
  refine g_callVV X (C := RX0) (T := TX0) (N := 4) (n := 2) [.int x1, .ref (keepC (ix x1))] [] dX4_remember_11 (c_X0_keep l D cA (keepC_sh (vp_in_lt hi1)) h) q319 q320 q321 q48 q322 (Nat.le_of_ble_eq_true rfl) rfl rfl ⟨rfl, by decide, by decide, by decide +kernel⟩ rfl rfl (Nat.le_of_ble_eq_true rfl) rfl rfl ⟨(Nat.le_of_ble_eq_true rfl), (Nat.le_of_ble_eq_true rfl)⟩ (Nat.le_of_ble_eq_true rfl) (Nat.le_of_ble_eq_true rfl) (fun σ2 h => ?_)
  exact g_vret X hr dX4_remember_14 h
theorem c_X4_remember (l : Launch) (D : va_G) (cA : Nat → ClassId) {x1 : Int32} {σ : St} {Q : St → Prop} (h : w_X4_remember Q x1 σ) : CtV l yX4_remember cX4_remember 2 (none) rmX4_remember D cA shC [.ref 0, .int x1] σ Q := by
  refine CtV.of (own := RX4) rfl (by decide +kernel) [(0, .ref 0), (1, .int x1)] rfl (Nat.le_of_ble_eq_true rfl) ?_
  intro p e s m args below meth c ad0 A X hr
  exact b_X4_remember_0 X hr  h
def rmX4_keeper : Room := { frames := 4, cells := 0, slots := 0, locals := 104 }
def w_X4_keeper (Q : Int32 → St → Prop) (x1 : Int32) (x2 : Int32) (σ : St) : Prop := w_X4_isKeeper (fun r2 σ1 => ((r2 = 0 → (Q (-3 : Int32) σ1)) ∧ (¬ r2 = 0 → ((x2 < 0 → (Q (-3 : Int32) σ1)) ∧ (¬ x2 < 0 → ((x2 ≤ (2 : Int32) → w_X4_remember (fun σ3 => vp_in x1 6 ∧ w_X1_renew (keepC (ix x1)) (fun σ5 => (Q (0 : Int32) σ5)) x2 σ3) x1 σ1) ∧ (¬ x2 ≤ (2 : Int32) → (Q (-3 : Int32) σ1)))))))) x1 σ
set_option maxRecDepth 100000 in
set_option maxHeartbeats 4000000 in
theorem b_X4_keeper_0 {p : Program} {l : Launch} {e : Env} {s : State} {m : MethodId} {args : Array Value} {below : List Frame} {meth : Method} {c : Code} {D : va_G} {cA : Nat → ClassId} {A : Nat → Prop} {ad0 : Nat → Nat} {Q : Int32 → St → Prop} {x1 : Int32} {x2 : Int32} {σ : St} (X : Cx p rmX4_keeper s m args meth c cX4_keeper 3 RX4 D cA A) (hr : meth.sig.returnType = some .int) (h : w_X4_keeper Q x1 x2 σ) : G p l e rmX4_keeper s m args below meth c 3 D cA A (MQ below (va_Qi Q (EndW D cA ad0 shC) A) args s 0 0 A) 0 0 (fun ad => ad = ad0) shC σ [(0, .ref 0), (1, .int x1), (2, .int x2)] 0 [] := by
  unfold w_X4_keeper at h
  refine g_iload_n X 1 dX4_keeper_0 rfl rfl ?_
  refine g_callSI X (n := 1) [.int x1] [] dX4_keeper_1 (c_X4_isKeeper l D cA shC h) q312 q313 q47 q314 ⟨by decide, by decide, by decide +kernel⟩ rfl rfl (Nat.le_of_ble_eq_true rfl) rfl rfl ⟨(Nat.le_of_ble_eq_true rfl), (Nat.le_of_ble_eq_true rfl)⟩ (Nat.le_of_ble_eq_true rfl) (Nat.le_of_ble_eq_true rfl) (fun r2 σ1 h => ?_)
  refine g_if_eq X 16 dX4_keeper_4 (by decide) (fun hc => ?_) (fun hc => ?_)
  · have h := h.1 hc
    refine g_bipush X (-3 : Int32) dX4_keeper_16 (by decide) ?_
    exact g_iret X hr dX4_keeper_18 rfl h
  · have h := h.2 hc
    refine g_iload_n X 2 dX4_keeper_7 rfl rfl ?_
    refine g_if_lt X 16 dX4_keeper_8 (by decide) (fun hc => ?_) (fun hc => ?_)
    · have h := h.1 hc
      refine g_bipush X (-3 : Int32) dX4_keeper_16 (by decide) ?_
      exact g_iret X hr dX4_keeper_18 rfl h
    · have h := h.2 hc
      refine g_iload_n X 2 dX4_keeper_11 rfl rfl ?_
      refine g_iconst X (2 : Int32) dX4_keeper_12 (by decide) ?_
      refine g_icmp_le X 19 dX4_keeper_13 (by decide) (fun hc => ?_) (fun hc => ?_)
      · have h := h.1 hc
        refine g_aload_n X 0 dX4_keeper_19 rfl rfl ?_
        refine g_iload_n X 1 dX4_keeper_20 rfl rfl ?_
        refine g_callVV X (C := RX4) (T := TX4) (N := 7) (n := 1) [.int x1] [] dX4_keeper_21 (c_X4_remember l D cA h) q315 q317 q3 q47 q318 (Nat.le_of_ble_eq_true rfl) rfl rfl ⟨rfl, by decide, by decide, by decide +kernel⟩ rfl rfl (Nat.le_of_ble_eq_true rfl) rfl rfl ⟨(Nat.le_of_ble_eq_true rfl), (Nat.le_of_ble_eq_true rfl)⟩ (Nat.le_of_ble_eq_true rfl) (Nat.le_of_ble_eq_true rfl) (fun σ3 h => ?_)
        refine g_aload_n X 0 dX4_keeper_24 rfl rfl ?_
        refine g_getR X (C := RX4) (T := TX4) (N := 7) 1 dX4_keeper_25 (Nat.le_of_ble_eq_true rfl) rfl rfl rfl inG4 (Nat.le_of_ble_eq_true rfl) rfl rfl q206 ?_
        refine g_iload_n X 1 dX4_keeper_28 rfl rfl ?_
        obtain ⟨hi4, h⟩ := h
        refine g_aald X (C := RX1) (t := 1) dX4_keeper_29 (Nat.le_of_ble_eq_true rfl) rfl rfl hi4 (keepC_r (vp_in_lt hi4)) ?_
        refine g_iload_n X 2 dX4_keeper_30 rfl rfl ?_
        refine g_callVV X (C := RX1) (T := TX1) (N := 4) (n := 1) [.int x2] [] dX4_keeper_31 (c_X1_renew l D cA shC (keepC_sh (vp_in_lt hi4)) h) q331 q332 q333 q49 q334 (keepSh.b0 (keepC_sh (vp_in_lt hi4))) (keepSh.k0 (keepC_sh (vp_in_lt hi4))) rfl ⟨rfl, by decide, by decide, by decide +kernel⟩ rfl rfl (Nat.le_of_ble_eq_true rfl) rfl rfl ⟨(Nat.le_of_ble_eq_true rfl), (Nat.le_of_ble_eq_true rfl)⟩ (Nat.le_of_ble_eq_true rfl) (Nat.le_of_ble_eq_true rfl) (fun σ5 h => ?_)
        refine g_iconst X (0 : Int32) dX4_keeper_34 (by decide) ?_
        exact g_iret X hr dX4_keeper_35 rfl h
      · have h := h.2 hc
        refine g_bipush X (-3 : Int32) dX4_keeper_16 (by decide) ?_
        exact g_iret X hr dX4_keeper_18 rfl h
theorem c_X4_keeper (l : Launch) (D : va_G) (cA : Nat → ClassId) {x1 : Int32} {x2 : Int32} {σ : St} {Q : Int32 → St → Prop} (h : w_X4_keeper Q x1 x2 σ) : CtI l yX4_keeper cX4_keeper 3 (some .int) rmX4_keeper D cA shC [.ref 0, .int x1, .int x2] σ Q := by
  refine CtI.of (own := RX4) rfl (by decide +kernel) [(0, .ref 0), (1, .int x1), (2, .int x2)] rfl (Nat.le_of_ble_eq_true rfl) ?_
  intro p e s m args below meth c ad0 A X hr
  exact b_X4_keeper_0 X hr  h
def rmX4_gatherInto : Room := { frames := 4, cells := 0, slots := 0, locals := 114 }
def w_X4_gatherInto_34 (Q : Int32 → St → Prop) (x6 : Int32) (s0 : Int32) (s1 : Int32) (s2 : Int32) (ks3 : Nat) (ks4 : Nat) (ks5 : Nat) (σ : St) : Prop := w_X1_gather ks5 (fun σ4 => ∀ σ5 : St, σ5 = uI σ4 0 6 ((gI σ4 0 6) + x6) → (Q x6 σ5)) ks4 ks3 s2 s1 s0 σ
set_option maxRecDepth 100000 in
set_option maxHeartbeats 4000000 in
theorem b_X4_gatherInto_34 {p : Program} {l : Launch} {e : Env} {s : State} {m : MethodId} {args : Array Value} {below : List Frame} {meth : Method} {c : Code} {D : va_G} {cA : Nat → ClassId} {A : Nat → Prop} {ad0 : Nat → Nat} {Q : Int32 → St → Prop} {x6 : Int32} {s0 : Int32} {s1 : Int32} {s2 : Int32} {ks3 : Nat} {ks4 : Nat} {ks5 : Nat} {σ : St} (X : Cx p rmX4_gatherInto s m args meth c cX4_gatherInto 7 RX4 D cA A) (hr : meth.sig.returnType = some .int) (hks3 : rowSh shC ks3) (hks4 : rowSh shC ks4) (hks5 : keepSh shC ks5) (h : w_X4_gatherInto_34 Q x6 s0 s1 s2 ks3 ks4 ks5 σ) : G p l e rmX4_gatherInto s m args below meth c 7 D cA A (MQ below (va_Qi Q (EndW D cA ad0 shC) A) args s 0 0 A) 0 0 (fun ad => ad = ad0) shC σ [(0, .ref 0), (6, .int x6)] 34 [.int s0, .int s1, .int s2, .ref ks3, .ref ks4, .ref ks5] := by
  unfold w_X4_gatherInto_34 at h
  refine g_callVV X (C := RX1) (T := TX1) (N := 4) (n := 5) [.ref ks4, .ref ks3, .int s2, .int s1, .int s0] [] dX4_gatherInto_34 (c_X1_gather l D cA shC hks5 hks4 hks3 h) q345 q346 q347 q49 q348 (keepSh.b0 hks5) (keepSh.k0 hks5) rfl ⟨rfl, by decide, by decide, by decide +kernel⟩ rfl rfl (Nat.le_of_ble_eq_true rfl) rfl rfl ⟨(Nat.le_of_ble_eq_true rfl), (Nat.le_of_ble_eq_true rfl)⟩ (Nat.le_of_ble_eq_true rfl) (Nat.le_of_ble_eq_true rfl) (fun σ4 h => ?_)
  refine g_aload_n X 0 dX4_gatherInto_37 rfl rfl ?_
  refine g_dup X dX4_gatherInto_38 rfl ?_
  refine g_getI X (C := RX4) (T := TX4) (N := 7) 6 dX4_gatherInto_39 (Nat.le_of_ble_eq_true rfl) rfl rfl rfl inG4 (Nat.le_of_ble_eq_true rfl) rfl q211 ?_
  refine g_iload X 1 dX4_gatherInto_42 rfl ?_
  refine g_iadd X dX4_gatherInto_44 ?_
  refine g_putI X (C := RX4) (T := TX4) (N := 7) (ty0 := tyX4) 6 dX4_gatherInto_45 (Nat.le_of_ble_eq_true rfl) rfl rfl rfl inG4 tyX4_ok nmX4 (Nat.le_of_ble_eq_true rfl) rfl rfl q211 rfl rfl ?_
  refine g_nameS (fun σ5 eσ5 => ?_)
  have h := h σ5 eσ5
  refine g_iload X 1 dX4_gatherInto_48 rfl ?_
  exact g_iret X hr dX4_gatherInto_50 rfl h
def w_X4_gatherInto (Q : Int32 → St → Prop) (x1 : Int32) (k2 : Nat) (k3 : Nat) (x4 : Int32) (x5 : Int32) (σ : St) : Prop := ∀ y1 : Int32, y1 = (if 0 ≤ x5 then x5 else 0 - x5) → w_X4_remember (fun σ2 => vp_in x1 6 ∧ ((0 ≤ x5 → (w_X4_gatherInto_34 Q y1 (0 : Int32) y1 x4 k3 k2 (keepC (ix x1)) σ2)) ∧ (¬ 0 ≤ x5 → (w_X4_gatherInto_34 Q y1 (1 : Int32) y1 x4 k3 k2 (keepC (ix x1)) σ2)))) x1 σ
set_option maxRecDepth 100000 in
set_option maxHeartbeats 4000000 in
theorem b_X4_gatherInto_0 {p : Program} {l : Launch} {e : Env} {s : State} {m : MethodId} {args : Array Value} {below : List Frame} {meth : Method} {c : Code} {D : va_G} {cA : Nat → ClassId} {A : Nat → Prop} {ad0 : Nat → Nat} {Q : Int32 → St → Prop} {x1 : Int32} {k2 : Nat} {k3 : Nat} {x4 : Int32} {x5 : Int32} {σ : St} (X : Cx p rmX4_gatherInto s m args meth c cX4_gatherInto 7 RX4 D cA A) (hr : meth.sig.returnType = some .int) (hk2 : rowSh shC k2) (hk3 : rowSh shC k3) (h : w_X4_gatherInto Q x1 k2 k3 x4 x5 σ) : G p l e rmX4_gatherInto s m args below meth c 7 D cA A (MQ below (va_Qi Q (EndW D cA ad0 shC) A) args s 0 0 A) 0 0 (fun ad => ad = ad0) shC σ [(0, .ref 0), (1, .int x1), (2, .ref k2), (3, .ref k3), (4, .int x4), (5, .int x5)] 0 [] := by
  unfold w_X4_gatherInto at h
  refine g_iload X 5 dX4_gatherInto_0 rfl ?_
  refine g_mabs X dX4_gatherInto_2 q297 q298 q53 q299 (Nat.le_of_ble_eq_true rfl) (Nat.le_of_ble_eq_true rfl) (Nat.le_of_ble_eq_true rfl) (Nat.le_of_ble_eq_true rfl) ?_
  refine g_nameI (fun y1 ey1 => ?_)
  have h := h y1 ey1
  refine g_istore X [(6, .int y1), (0, .ref 0), (1, .int x1), (2, .ref k2), (3, .ref k3), (4, .int x4), (5, .int x5)] dX4_gatherInto_5 (Nat.le_of_ble_eq_true rfl) rfl ?_
  refine g_aload_n X 1 dX4_gatherInto_7 rfl rfl ?_
  refine g_iload_n X 2 dX4_gatherInto_8 rfl rfl ?_
  refine g_callVV X (C := RX4) (T := TX4) (N := 7) (n := 1) [.int x1] [] dX4_gatherInto_9 (c_X4_remember l D cA h) q315 q317 q3 q47 q318 (Nat.le_of_ble_eq_true rfl) rfl rfl ⟨rfl, by decide, by decide, by decide +kernel⟩ rfl rfl (Nat.le_of_ble_eq_true rfl) rfl rfl ⟨(Nat.le_of_ble_eq_true rfl), (Nat.le_of_ble_eq_true rfl)⟩ (Nat.le_of_ble_eq_true rfl) (Nat.le_of_ble_eq_true rfl) (fun σ2 h => ?_)
  refine g_aload_n X 1 dX4_gatherInto_12 rfl rfl ?_
  refine g_getR X (C := RX4) (T := TX4) (N := 7) 1 dX4_gatherInto_13 (Nat.le_of_ble_eq_true rfl) rfl rfl rfl inG4 (Nat.le_of_ble_eq_true rfl) rfl rfl q206 ?_
  refine g_iload_n X 2 dX4_gatherInto_16 rfl rfl ?_
  obtain ⟨hi3, h⟩ := h
  refine g_aald X (C := RX1) (t := 1) dX4_gatherInto_17 (Nat.le_of_ble_eq_true rfl) rfl rfl hi3 (keepC_r (vp_in_lt hi3)) ?_
  refine g_aload_n X 3 dX4_gatherInto_18 rfl rfl ?_
  refine g_aload_n X 4 dX4_gatherInto_19 rfl rfl ?_
  refine g_iload X 5 dX4_gatherInto_20 rfl ?_
  refine g_iload X 0 dX4_gatherInto_22 rfl ?_
  refine g_iload X 6 dX4_gatherInto_24 rfl ?_
  refine g_if_ge X 33 dX4_gatherInto_26 (by decide) (fun hc => ?_) (fun hc => ?_)
  · have h := h.1 hc
    refine g_iconst X (0 : Int32) dX4_gatherInto_33 (by decide) ?_
    refine g_weak [1, 0] rfl ?_
    exact b_X4_gatherInto_34 X hr hk3 hk2 (keepC_sh (vp_in_lt hi3)) h
  · have h := h.2 hc
    refine g_iconst X (1 : Int32) dX4_gatherInto_29 (by decide) ?_
    refine g_goto X 34 dX4_gatherInto_30 (by decide) ?_
    refine g_weak [1, 0] rfl ?_
    exact b_X4_gatherInto_34 X hr hk3 hk2 (keepC_sh (vp_in_lt hi3)) h
theorem c_X4_gatherInto (l : Launch) (D : va_G) (cA : Nat → ClassId) {x1 : Int32} {k2 : Nat} {k3 : Nat} {x4 : Int32} {x5 : Int32} {σ : St} {Q : Int32 → St → Prop} (hk2 : rowSh shC k2) (hk3 : rowSh shC k3) (h : w_X4_gatherInto Q x1 k2 k3 x4 x5 σ) : CtI l yX4_gatherInto cX4_gatherInto 7 (some .int) rmX4_gatherInto D cA shC [.ref 0, .int x1, .ref k2, .ref k3, .int x4, .int x5] σ Q := by
  refine CtI.of (own := RX4) rfl (by decide +kernel) [(0, .ref 0), (1, .int x1), (2, .ref k2), (3, .ref k3), (4, .int x4), (5, .int x5)] rfl (Nat.le_of_ble_eq_true rfl) ?_
  intro p e s m args below meth c ad0 A X hr
  exact b_X4_gatherInto_0 X hr hk2 hk3 h
def rmX4_add : Room := { frames := 5, cells := 0, slots := 0, locals := 140 }
def w_X4_add_117 (Q : Int32 → St → Prop) (x3 : Int32) (x4 : Int32) (ks0 : Nat) (ks1 : Nat) (s2 : Int32) (σ : St) : Prop := w_X4_gatherInto (fun r11 σ10 => (Q r11 σ10)) s2 ks1 ks0 x3 x4 σ
set_option maxRecDepth 100000 in
set_option maxHeartbeats 4000000 in
theorem b_X4_add_117 {p : Program} {l : Launch} {e : Env} {s : State} {m : MethodId} {args : Array Value} {below : List Frame} {meth : Method} {c : Code} {D : va_G} {cA : Nat → ClassId} {A : Nat → Prop} {ad0 : Nat → Nat} {Q : Int32 → St → Prop} {x3 : Int32} {x4 : Int32} {ks0 : Nat} {ks1 : Nat} {s2 : Int32} {σ : St} (X : Cx p rmX4_add s m args meth c cX4_add 7 RX4 D cA A) (hr : meth.sig.returnType = some .int) (hks0 : rowSh shC ks0) (hks1 : rowSh shC ks1) (h : w_X4_add_117 Q x3 x4 ks0 ks1 s2 σ) : G p l e rmX4_add s m args below meth c 7 D cA A (MQ below (va_Qi Q (EndW D cA ad0 shC) A) args s 0 0 A) 0 0 (fun ad => ad = ad0) shC σ [(3, .int x3), (4, .int x4)] 117 [.ref ks0, .ref ks1, .int s2, .ref 0] := by
  unfold w_X4_add_117 at h
  refine g_iload_n X 0 dX4_add_117 rfl rfl ?_
  refine g_iload X 1 dX4_add_118 rfl ?_
  refine g_callVI X (C := RX4) (T := TX4) (N := 7) (n := 5) [.int s2, .ref ks1, .ref ks0, .int x3, .int x4] [] dX4_add_120 (c_X4_gatherInto l D cA hks1 hks0 h) q341 q343 q4 q47 q344 (Nat.le_of_ble_eq_true rfl) rfl rfl ⟨rfl, by decide, by decide, by decide +kernel⟩ rfl rfl (Nat.le_of_ble_eq_true rfl) rfl rfl ⟨(Nat.le_of_ble_eq_true rfl), (Nat.le_of_ble_eq_true rfl)⟩ (Nat.le_of_ble_eq_true rfl) (Nat.le_of_ble_eq_true rfl) (fun r11 σ10 h => ?_)
  exact g_iret X hr dX4_add_123 rfl h
def w_X4_add (Q : Int32 → St → Prop) (x1 : Int32) (x2 : Int32) (x3 : Int32) (x4 : Int32) (σ : St) : Prop := w_X4_isKeeper (fun r2 σ1 => ((r2 = 0 → (Q (-3 : Int32) σ1)) ∧ (¬ r2 = 0 → w_X4_isRow (fun r4 σ3 => ((r4 = 0 → (Q (-3 : Int32) σ3)) ∧ (¬ r4 = 0 → ((x4 < (-40 : Int32) → (Q (-3 : Int32) σ3)) ∧ (¬ x4 < (-40 : Int32) → ((x4 ≤ (40 : Int32) → vp_in x1 6 ∧ vp_in x2 12 ∧ (((gI σ3 (keepC (ix x1)) 0) = 0 → (Q (-11 : Int32) σ3)) ∧ (¬ (gI σ3 (keepC (ix x1)) 0) = 0 → ((¬ (gI σ3 (rowC (ix x2)) 0) = 0 → ((¬ (gI σ3 (keepC (ix x1)) 1) = (1 : Int32) → ∀ y7 : Int32, y7 = (if 0 ≤ x4 then x4 else 0 - x4) → w_X2_has (rowC (ix x2)) (fun r9 σ8 => ((¬ r9 = 0 → ((¬ (gI σ8 (keepC (ix x1)) 1) = (2 : Int32) → (w_X4_add_117 Q x3 x4 44 (rowC (ix x2)) x1 σ8)) ∧ ((gI σ8 (keepC (ix x1)) 1) = (2 : Int32) → (w_X4_add_117 Q x3 x4 (rowC (ix x2)) (rowC (ix x2)) x1 σ8)))) ∧ (r9 = 0 → (Q (-13 : Int32) σ8)))) x3 y7 σ3) ∧ ((gI σ3 (keepC (ix x1)) 1) = (1 : Int32) → (Q (-12 : Int32) σ3)))) ∧ ((gI σ3 (rowC (ix x2)) 0) = 0 → (Q (-11 : Int32) σ3)))))) ∧ (¬ x4 ≤ (40 : Int32) → (Q (-3 : Int32) σ3)))))))) x2 σ1))) x1 σ
set_option maxRecDepth 100000 in
set_option maxHeartbeats 4000000 in
theorem b_X4_add_0 {p : Program} {l : Launch} {e : Env} {s : State} {m : MethodId} {args : Array Value} {below : List Frame} {meth : Method} {c : Code} {D : va_G} {cA : Nat → ClassId} {A : Nat → Prop} {ad0 : Nat → Nat} {Q : Int32 → St → Prop} {x1 : Int32} {x2 : Int32} {x3 : Int32} {x4 : Int32} {σ : St} (X : Cx p rmX4_add s m args meth c cX4_add 7 RX4 D cA A) (hr : meth.sig.returnType = some .int) (h : w_X4_add Q x1 x2 x3 x4 σ) : G p l e rmX4_add s m args below meth c 7 D cA A (MQ below (va_Qi Q (EndW D cA ad0 shC) A) args s 0 0 A) 0 0 (fun ad => ad = ad0) shC σ [(0, .ref 0), (1, .int x1), (2, .int x2), (3, .int x3), (4, .int x4)] 0 [] := by
  unfold w_X4_add at h
  refine g_iload_n X 1 dX4_add_0 rfl rfl ?_
  refine g_callSI X (n := 1) [.int x1] [] dX4_add_1 (c_X4_isKeeper l D cA shC h) q312 q313 q47 q314 ⟨by decide, by decide, by decide +kernel⟩ rfl rfl (Nat.le_of_ble_eq_true rfl) rfl rfl ⟨(Nat.le_of_ble_eq_true rfl), (Nat.le_of_ble_eq_true rfl)⟩ (Nat.le_of_ble_eq_true rfl) (Nat.le_of_ble_eq_true rfl) (fun r2 σ1 h => ?_)
  refine g_if_eq X 28 dX4_add_4 (by decide) (fun hc => ?_) (fun hc => ?_)
  · have h := h.1 hc
    refine g_bipush X (-3 : Int32) dX4_add_28 (by decide) ?_
    exact g_iret X hr dX4_add_30 rfl h
  · have h := h.2 hc
    refine g_iload_n X 2 dX4_add_7 rfl rfl ?_
    refine g_callSI X (n := 1) [.int x2] [] dX4_add_8 (c_X4_isRow l D cA shC h) q231 q232 q47 q233 ⟨by decide, by decide, by decide +kernel⟩ rfl rfl (Nat.le_of_ble_eq_true rfl) rfl rfl ⟨(Nat.le_of_ble_eq_true rfl), (Nat.le_of_ble_eq_true rfl)⟩ (Nat.le_of_ble_eq_true rfl) (Nat.le_of_ble_eq_true rfl) (fun r4 σ3 h => ?_)
    refine g_if_eq X 28 dX4_add_11 (by decide) (fun hc => ?_) (fun hc => ?_)
    · have h := h.1 hc
      refine g_bipush X (-3 : Int32) dX4_add_28 (by decide) ?_
      exact g_iret X hr dX4_add_30 rfl h
    · have h := h.2 hc
      refine g_iload X 4 dX4_add_14 rfl ?_
      refine g_bipush X (-40 : Int32) dX4_add_16 (by decide) ?_
      refine g_icmp_lt X 28 dX4_add_18 (by decide) (fun hc => ?_) (fun hc => ?_)
      · have h := h.1 hc
        refine g_bipush X (-3 : Int32) dX4_add_28 (by decide) ?_
        exact g_iret X hr dX4_add_30 rfl h
      · have h := h.2 hc
        refine g_iload X 4 dX4_add_21 rfl ?_
        refine g_bipush X (40 : Int32) dX4_add_23 (by decide) ?_
        refine g_icmp_le X 31 dX4_add_25 (by decide) (fun hc => ?_) (fun hc => ?_)
        · have h := h.1 hc
          refine g_aload_n X 0 dX4_add_31 rfl rfl ?_
          refine g_getR X (C := RX4) (T := TX4) (N := 7) 1 dX4_add_32 (Nat.le_of_ble_eq_true rfl) rfl rfl rfl inG4 (Nat.le_of_ble_eq_true rfl) rfl rfl q206 ?_
          refine g_iload_n X 1 dX4_add_35 rfl rfl ?_
          obtain ⟨hi5, h⟩ := h
          refine g_aald X (C := RX1) (t := 1) dX4_add_36 (Nat.le_of_ble_eq_true rfl) rfl rfl hi5 (keepC_r (vp_in_lt hi5)) ?_
          refine g_astore X [(5, .ref (keepC (ix x1))), (0, .ref 0), (1, .int x1), (2, .int x2), (3, .int x3), (4, .int x4)] dX4_add_37 (Nat.le_of_ble_eq_true rfl) rfl ?_
          refine g_aload_n X 1 dX4_add_39 rfl rfl ?_
          refine g_getR X (C := RX4) (T := TX4) (N := 7) 0 dX4_add_40 (Nat.le_of_ble_eq_true rfl) rfl rfl rfl inG4 (Nat.le_of_ble_eq_true rfl) rfl rfl q205 ?_
          refine g_iload_n X 3 dX4_add_43 rfl rfl ?_
          obtain ⟨hi6, h⟩ := h
          refine g_aald X (C := RX2) (t := 0) dX4_add_44 (Nat.le_of_ble_eq_true rfl) rfl rfl hi6 (rowC_r (vp_in_lt hi6)) ?_
          refine g_astore X [(6, .ref (rowC (ix x2))), (5, .ref (keepC (ix x1))), (0, .ref 0), (1, .int x1), (2, .int x2), (3, .int x3), (4, .int x4)] dX4_add_45 (Nat.le_of_ble_eq_true rfl) rfl ?_
          refine g_aload X 1 dX4_add_47 rfl ?_
          refine g_getI X (C := RX1) (T := TX1) (N := 4) 0 dX4_add_49 (keepSh.b0 (keepC_sh (vp_in_lt hi5))) (keepSh.k0 (keepC_sh (vp_in_lt hi5))) rfl rfl inG1 (Nat.le_of_ble_eq_true rfl) rfl q84 ?_
          refine g_if_eq X 63 dX4_add_52 (by decide) (fun hc => ?_) (fun hc => ?_)
          · have h := h.1 hc
            refine g_bipush X (-11 : Int32) dX4_add_63 (by decide) ?_
            exact g_iret X hr dX4_add_65 rfl h
          · have h := h.2 hc
            refine g_aload X 0 dX4_add_55 rfl ?_
            refine g_getI X (C := RX2) (T := TX2) (N := 6) 0 dX4_add_57 (rowSh.b0 (rowC_sh (vp_in_lt hi6))) (rowSh.k0 (rowC_sh (vp_in_lt hi6))) rfl rfl inG2 (Nat.le_of_ble_eq_true rfl) rfl q132 ?_
            refine g_if_ne X 66 dX4_add_60 (by decide) (fun hc => ?_) (fun hc => ?_)
            · have h := h.1 hc
              refine g_aload X 1 dX4_add_66 rfl ?_
              refine g_getI X (C := RX1) (T := TX1) (N := 4) 1 dX4_add_68 (keepSh.b0 (keepC_sh (vp_in_lt hi5))) (keepSh.k0 (keepC_sh (vp_in_lt hi5))) rfl rfl inG1 (Nat.le_of_ble_eq_true rfl) rfl q86 ?_
              refine g_iconst X (1 : Int32) dX4_add_71 (by decide) ?_
              refine g_icmp_ne X 78 dX4_add_72 (by decide) (fun hc => ?_) (fun hc => ?_)
              · have h := h.1 hc
                refine g_aload X 0 dX4_add_78 rfl ?_
                refine g_iload_n X 5 dX4_add_80 rfl rfl ?_
                refine g_iload X 6 dX4_add_81 rfl ?_
                refine g_mabs X dX4_add_83 q297 q298 q53 q299 (Nat.le_of_ble_eq_true rfl) (Nat.le_of_ble_eq_true rfl) (Nat.le_of_ble_eq_true rfl) (Nat.le_of_ble_eq_true rfl) ?_
                refine g_nameI (fun y7 ey7 => ?_)
                have h := h y7 ey7
                refine g_callVI X (C := RX2) (T := TX2) (N := 6) (n := 2) [.int x3, .int y7] [] dX4_add_86 (c_X2_has l D cA shC (rowC_sh (vp_in_lt hi6)) h) q244 q245 q246 q51 q247 (rowSh.b0 (rowC_sh (vp_in_lt hi6))) (rowSh.k0 (rowC_sh (vp_in_lt hi6))) rfl ⟨rfl, by decide, by decide, by decide +kernel⟩ rfl rfl (Nat.le_of_ble_eq_true rfl) rfl rfl ⟨(Nat.le_of_ble_eq_true rfl), (Nat.le_of_ble_eq_true rfl)⟩ (Nat.le_of_ble_eq_true rfl) (Nat.le_of_ble_eq_true rfl) (fun r9 σ8 h => ?_)
                refine g_if_ne X 95 dX4_add_89 (by decide) (fun hc => ?_) (fun hc => ?_)
                · have h := h.1 hc
                  refine g_aload_n X 2 dX4_add_95 rfl rfl ?_
                  refine g_iload_n X 3 dX4_add_96 rfl rfl ?_
                  refine g_aload X 0 dX4_add_97 rfl ?_
                  refine g_aload X 1 dX4_add_99 rfl ?_
                  refine g_getI X (C := RX1) (T := TX1) (N := 4) 1 dX4_add_101 (keepSh.b0 (keepC_sh (vp_in_lt hi5))) (keepSh.k0 (keepC_sh (vp_in_lt hi5))) rfl rfl inG1 (Nat.le_of_ble_eq_true rfl) rfl q86 ?_
                  refine g_iconst X (2 : Int32) dX4_add_104 (by decide) ?_
                  refine g_icmp_ne X 113 dX4_add_105 (by decide) (fun hc => ?_) (fun hc => ?_)
                  · have h := h.1 hc
                    refine g_aload_n X 2 dX4_add_113 rfl rfl ?_
                    refine g_getR X (C := RX4) (T := TX4) (N := 7) 4 dX4_add_114 (Nat.le_of_ble_eq_true rfl) rfl rfl rfl inG4 (Nat.le_of_ble_eq_true rfl) rfl rfl q209 ?_
                    refine g_weak [5, 6] rfl ?_
                    exact b_X4_add_117 X hr ones_sh (rowC_sh (vp_in_lt hi6)) h
                  · have h := h.2 hc
                    refine g_aload X 0 dX4_add_108 rfl ?_
                    refine g_goto X 117 dX4_add_110 (by decide) ?_
                    refine g_weak [5, 6] rfl ?_
                    exact b_X4_add_117 X hr (rowC_sh (vp_in_lt hi6)) (rowC_sh (vp_in_lt hi6)) h
                · have h := h.2 hc
                  refine g_bipush X (-13 : Int32) dX4_add_92 (by decide) ?_
                  exact g_iret X hr dX4_add_94 rfl h
              · have h := h.2 hc
                refine g_bipush X (-12 : Int32) dX4_add_75 (by decide) ?_
                exact g_iret X hr dX4_add_77 rfl h
            · have h := h.2 hc
              refine g_bipush X (-11 : Int32) dX4_add_63 (by decide) ?_
              exact g_iret X hr dX4_add_65 rfl h
        · have h := h.2 hc
          refine g_bipush X (-3 : Int32) dX4_add_28 (by decide) ?_
          exact g_iret X hr dX4_add_30 rfl h
theorem c_X4_add (l : Launch) (D : va_G) (cA : Nat → ClassId) {x1 : Int32} {x2 : Int32} {x3 : Int32} {x4 : Int32} {σ : St} {Q : Int32 → St → Prop} (h : w_X4_add Q x1 x2 x3 x4 σ) : CtI l yX4_add cX4_add 7 (some .int) rmX4_add D cA shC [.ref 0, .int x1, .int x2, .int x3, .int x4] σ Q := by
  refine CtI.of (own := RX4) rfl (by decide +kernel) [(0, .ref 0), (1, .int x1), (2, .int x2), (3, .int x3), (4, .int x4)] rfl (Nat.le_of_ble_eq_true rfl) ?_
  intro p e s m args below meth c ad0 A X hr
  exact b_X4_add_0 X hr  h
def rmX4_pair : Room := { frames := 5, cells := 0, slots := 0, locals := 140 }
def w_X4_pair (Q : Int32 → St → Prop) (x1 : Int32) (x2 : Int32) (x3 : Int32) (x4 : Int32) (x5 : Int32) (σ : St) : Prop := w_X4_isKeeper (fun r2 σ1 => ((r2 = 0 → (Q (-3 : Int32) σ1)) ∧ (¬ r2 = 0 → w_X4_isRow (fun r4 σ3 => ((r4 = 0 → (Q (-3 : Int32) σ3)) ∧ (¬ r4 = 0 → w_X4_isRow (fun r6 σ5 => ((r6 = 0 → (Q (-3 : Int32) σ5)) ∧ (¬ r6 = 0 → ((x5 < (-40 : Int32) → (Q (-3 : Int32) σ5)) ∧ (¬ x5 < (-40 : Int32) → ((x5 ≤ (40 : Int32) → vp_in x2 12 ∧ vp_in x3 12 ∧ vp_in x1 6 ∧ (((gI σ5 (keepC (ix x1)) 0) = 0 → (Q (-11 : Int32) σ5)) ∧ (¬ (gI σ5 (keepC (ix x1)) 0) = 0 → (((gI σ5 (rowC (ix x2)) 0) = 0 → (Q (-11 : Int32) σ5)) ∧ (¬ (gI σ5 (rowC (ix x2)) 0) = 0 → ((¬ (gI σ5 (rowC (ix x3)) 0) = 0 → vp_in x1 6 ∧ ((¬ (gI σ5 (keepC (ix x1)) 1) = 0 → ∀ y11 : Int32, y11 = (if 0 ≤ x5 then x5 else 0 - x5) → w_X2_has (rowC (ix x2)) (fun r13 σ12 => ((r13 = 0 → (Q (-13 : Int32) σ12)) ∧ (¬ r13 = 0 → ∀ y14 : Int32, y14 = (if 0 ≤ x5 then x5 else 0 - x5) → w_X2_has (rowC (ix x3)) (fun r16 σ15 => ((¬ r16 = 0 → w_X4_gatherInto (fun r18 σ17 => (Q r18 σ17)) x1 (rowC (ix x2)) (rowC (ix x3)) x4 x5 σ15) ∧ (r16 = 0 → (Q (-13 : Int32) σ15)))) x4 y14 σ12))) x4 y11 σ5) ∧ ((gI σ5 (keepC (ix x1)) 1) = 0 → (Q (-12 : Int32) σ5)))) ∧ ((gI σ5 (rowC (ix x3)) 0) = 0 → (Q (-11 : Int32) σ5)))))))) ∧ (¬ x5 ≤ (40 : Int32) → (Q (-3 : Int32) σ5)))))))) x3 σ3))) x2 σ1))) x1 σ
set_option maxRecDepth 100000 in
set_option maxHeartbeats 4000000 in
theorem b_X4_pair_0 {p : Program} {l : Launch} {e : Env} {s : State} {m : MethodId} {args : Array Value} {below : List Frame} {meth : Method} {c : Code} {D : va_G} {cA : Nat → ClassId} {A : Nat → Prop} {ad0 : Nat → Nat} {Q : Int32 → St → Prop} {x1 : Int32} {x2 : Int32} {x3 : Int32} {x4 : Int32} {x5 : Int32} {σ : St} (X : Cx p rmX4_pair s m args meth c cX4_pair 8 RX4 D cA A) (hr : meth.sig.returnType = some .int) (h : w_X4_pair Q x1 x2 x3 x4 x5 σ) : G p l e rmX4_pair s m args below meth c 8 D cA A (MQ below (va_Qi Q (EndW D cA ad0 shC) A) args s 0 0 A) 0 0 (fun ad => ad = ad0) shC σ [(0, .ref 0), (1, .int x1), (2, .int x2), (3, .int x3), (4, .int x4), (5, .int x5)] 0 [] := by
  unfold w_X4_pair at h
  refine g_iload_n X 1 dX4_pair_0 rfl rfl ?_
  refine g_callSI X (n := 1) [.int x1] [] dX4_pair_1 (c_X4_isKeeper l D cA shC h) q312 q313 q47 q314 ⟨by decide, by decide, by decide +kernel⟩ rfl rfl (Nat.le_of_ble_eq_true rfl) rfl rfl ⟨(Nat.le_of_ble_eq_true rfl), (Nat.le_of_ble_eq_true rfl)⟩ (Nat.le_of_ble_eq_true rfl) (Nat.le_of_ble_eq_true rfl) (fun r2 σ1 h => ?_)
  refine g_if_eq X 35 dX4_pair_4 (by decide) (fun hc => ?_) (fun hc => ?_)
  · have h := h.1 hc
    refine g_bipush X (-3 : Int32) dX4_pair_35 (by decide) ?_
    exact g_iret X hr dX4_pair_37 rfl h
  · have h := h.2 hc
    refine g_iload_n X 2 dX4_pair_7 rfl rfl ?_
    refine g_callSI X (n := 1) [.int x2] [] dX4_pair_8 (c_X4_isRow l D cA shC h) q231 q232 q47 q233 ⟨by decide, by decide, by decide +kernel⟩ rfl rfl (Nat.le_of_ble_eq_true rfl) rfl rfl ⟨(Nat.le_of_ble_eq_true rfl), (Nat.le_of_ble_eq_true rfl)⟩ (Nat.le_of_ble_eq_true rfl) (Nat.le_of_ble_eq_true rfl) (fun r4 σ3 h => ?_)
    refine g_if_eq X 35 dX4_pair_11 (by decide) (fun hc => ?_) (fun hc => ?_)
    · have h := h.1 hc
      refine g_bipush X (-3 : Int32) dX4_pair_35 (by decide) ?_
      exact g_iret X hr dX4_pair_37 rfl h
    · have h := h.2 hc
      refine g_iload_n X 3 dX4_pair_14 rfl rfl ?_
      refine g_callSI X (n := 1) [.int x3] [] dX4_pair_15 (c_X4_isRow l D cA shC h) q231 q232 q47 q233 ⟨by decide, by decide, by decide +kernel⟩ rfl rfl (Nat.le_of_ble_eq_true rfl) rfl rfl ⟨(Nat.le_of_ble_eq_true rfl), (Nat.le_of_ble_eq_true rfl)⟩ (Nat.le_of_ble_eq_true rfl) (Nat.le_of_ble_eq_true rfl) (fun r6 σ5 h => ?_)
      refine g_if_eq X 35 dX4_pair_18 (by decide) (fun hc => ?_) (fun hc => ?_)
      · have h := h.1 hc
        refine g_bipush X (-3 : Int32) dX4_pair_35 (by decide) ?_
        exact g_iret X hr dX4_pair_37 rfl h
      · have h := h.2 hc
        refine g_iload X 5 dX4_pair_21 rfl ?_
        refine g_bipush X (-40 : Int32) dX4_pair_23 (by decide) ?_
        refine g_icmp_lt X 35 dX4_pair_25 (by decide) (fun hc => ?_) (fun hc => ?_)
        · have h := h.1 hc
          refine g_bipush X (-3 : Int32) dX4_pair_35 (by decide) ?_
          exact g_iret X hr dX4_pair_37 rfl h
        · have h := h.2 hc
          refine g_iload X 5 dX4_pair_28 rfl ?_
          refine g_bipush X (40 : Int32) dX4_pair_30 (by decide) ?_
          refine g_icmp_le X 38 dX4_pair_32 (by decide) (fun hc => ?_) (fun hc => ?_)
          · have h := h.1 hc
            refine g_aload_n X 0 dX4_pair_38 rfl rfl ?_
            refine g_getR X (C := RX4) (T := TX4) (N := 7) 0 dX4_pair_39 (Nat.le_of_ble_eq_true rfl) rfl rfl rfl inG4 (Nat.le_of_ble_eq_true rfl) rfl rfl q205 ?_
            refine g_iload_n X 2 dX4_pair_42 rfl rfl ?_
            obtain ⟨hi7, h⟩ := h
            refine g_aald X (C := RX2) (t := 0) dX4_pair_43 (Nat.le_of_ble_eq_true rfl) rfl rfl hi7 (rowC_r (vp_in_lt hi7)) ?_
            refine g_astore X [(6, .ref (rowC (ix x2))), (0, .ref 0), (1, .int x1), (2, .int x2), (3, .int x3), (4, .int x4), (5, .int x5)] dX4_pair_44 (Nat.le_of_ble_eq_true rfl) rfl ?_
            refine g_aload_n X 1 dX4_pair_46 rfl rfl ?_
            refine g_getR X (C := RX4) (T := TX4) (N := 7) 0 dX4_pair_47 (Nat.le_of_ble_eq_true rfl) rfl rfl rfl inG4 (Nat.le_of_ble_eq_true rfl) rfl rfl q205 ?_
            refine g_iload_n X 4 dX4_pair_50 rfl rfl ?_
            obtain ⟨hi8, h⟩ := h
            refine g_aald X (C := RX2) (t := 0) dX4_pair_51 (Nat.le_of_ble_eq_true rfl) rfl rfl hi8 (rowC_r (vp_in_lt hi8)) ?_
            refine g_astore X [(7, .ref (rowC (ix x3))), (6, .ref (rowC (ix x2))), (0, .ref 0), (1, .int x1), (2, .int x2), (3, .int x3), (4, .int x4), (5, .int x5)] dX4_pair_52 (Nat.le_of_ble_eq_true rfl) rfl ?_
            refine g_aload_n X 2 dX4_pair_54 rfl rfl ?_
            refine g_getR X (C := RX4) (T := TX4) (N := 7) 1 dX4_pair_55 (Nat.le_of_ble_eq_true rfl) rfl rfl rfl inG4 (Nat.le_of_ble_eq_true rfl) rfl rfl q206 ?_
            refine g_iload_n X 3 dX4_pair_58 rfl rfl ?_
            obtain ⟨hi9, h⟩ := h
            refine g_aald X (C := RX1) (t := 1) dX4_pair_59 (Nat.le_of_ble_eq_true rfl) rfl rfl hi9 (keepC_r (vp_in_lt hi9)) ?_
            refine g_getI X (C := RX1) (T := TX1) (N := 4) 0 dX4_pair_60 (keepSh.b0 (keepC_sh (vp_in_lt hi9))) (keepSh.k0 (keepC_sh (vp_in_lt hi9))) rfl rfl inG1 (Nat.le_of_ble_eq_true rfl) rfl q84 ?_
            refine g_if_eq X 82 dX4_pair_63 (by decide) (fun hc => ?_) (fun hc => ?_)
            · have h := h.1 hc
              refine g_bipush X (-11 : Int32) dX4_pair_82 (by decide) ?_
              exact g_iret X hr dX4_pair_84 rfl h
            · have h := h.2 hc
              refine g_aload X 1 dX4_pair_66 rfl ?_
              refine g_getI X (C := RX2) (T := TX2) (N := 6) 0 dX4_pair_68 (rowSh.b0 (rowC_sh (vp_in_lt hi7))) (rowSh.k0 (rowC_sh (vp_in_lt hi7))) rfl rfl inG2 (Nat.le_of_ble_eq_true rfl) rfl q132 ?_
              refine g_if_eq X 82 dX4_pair_71 (by decide) (fun hc => ?_) (fun hc => ?_)
              · have h := h.1 hc
                refine g_bipush X (-11 : Int32) dX4_pair_82 (by decide) ?_
                exact g_iret X hr dX4_pair_84 rfl h
              · have h := h.2 hc
                refine g_aload X 0 dX4_pair_74 rfl ?_
                refine g_getI X (C := RX2) (T := TX2) (N := 6) 0 dX4_pair_76 (rowSh.b0 (rowC_sh (vp_in_lt hi8))) (rowSh.k0 (rowC_sh (vp_in_lt hi8))) rfl rfl inG2 (Nat.le_of_ble_eq_true rfl) rfl q132 ?_
                refine g_if_ne X 85 dX4_pair_79 (by decide) (fun hc => ?_) (fun hc => ?_)
                · have h := h.1 hc
                  refine g_aload_n X 2 dX4_pair_85 rfl rfl ?_
                  refine g_getR X (C := RX4) (T := TX4) (N := 7) 1 dX4_pair_86 (Nat.le_of_ble_eq_true rfl) rfl rfl rfl inG4 (Nat.le_of_ble_eq_true rfl) rfl rfl q206 ?_
                  refine g_iload_n X 3 dX4_pair_89 rfl rfl ?_
                  obtain ⟨hi10, h⟩ := h
                  refine g_aald X (C := RX1) (t := 1) dX4_pair_90 (Nat.le_of_ble_eq_true rfl) rfl rfl hi10 (keepC_r (vp_in_lt hi10)) ?_
                  refine g_getI X (C := RX1) (T := TX1) (N := 4) 1 dX4_pair_91 (keepSh.b0 (keepC_sh (vp_in_lt hi10))) (keepSh.k0 (keepC_sh (vp_in_lt hi10))) rfl rfl inG1 (Nat.le_of_ble_eq_true rfl) rfl q86 ?_
                  refine g_if_ne X 100 dX4_pair_94 (by decide) (fun hc => ?_) (fun hc => ?_)
                  · have h := h.1 hc
                    refine g_aload X 1 dX4_pair_100 rfl ?_
                    refine g_iload X 6 dX4_pair_102 rfl ?_
                    refine g_iload X 7 dX4_pair_104 rfl ?_
                    refine g_mabs X dX4_pair_106 q297 q298 q53 q299 (Nat.le_of_ble_eq_true rfl) (Nat.le_of_ble_eq_true rfl) (Nat.le_of_ble_eq_true rfl) (Nat.le_of_ble_eq_true rfl) ?_
                    refine g_nameI (fun y11 ey11 => ?_)
                    have h := h y11 ey11
                    refine g_callVI X (C := RX2) (T := TX2) (N := 6) (n := 2) [.int x4, .int y11] [] dX4_pair_109 (c_X2_has l D cA shC (rowC_sh (vp_in_lt hi7)) h) q244 q245 q246 q51 q247 (rowSh.b0 (rowC_sh (vp_in_lt hi7))) (rowSh.k0 (rowC_sh (vp_in_lt hi7))) rfl ⟨rfl, by decide, by decide, by decide +kernel⟩ rfl rfl (Nat.le_of_ble_eq_true rfl) rfl rfl ⟨(Nat.le_of_ble_eq_true rfl), (Nat.le_of_ble_eq_true rfl)⟩ (Nat.le_of_ble_eq_true rfl) (Nat.le_of_ble_eq_true rfl) (fun r13 σ12 h => ?_)
                    refine g_if_eq X 130 dX4_pair_112 (by decide) (fun hc => ?_) (fun hc => ?_)
                    · have h := h.1 hc
                      refine g_bipush X (-13 : Int32) dX4_pair_130 (by decide) ?_
                      exact g_iret X hr dX4_pair_132 rfl h
                    · have h := h.2 hc
                      refine g_aload X 0 dX4_pair_115 rfl ?_
                      refine g_iload X 6 dX4_pair_117 rfl ?_
                      refine g_iload X 7 dX4_pair_119 rfl ?_
                      refine g_mabs X dX4_pair_121 q297 q298 q53 q299 (Nat.le_of_ble_eq_true rfl) (Nat.le_of_ble_eq_true rfl) (Nat.le_of_ble_eq_true rfl) (Nat.le_of_ble_eq_true rfl) ?_
                      refine g_nameI (fun y14 ey14 => ?_)
                      have h := h y14 ey14
                      refine g_callVI X (C := RX2) (T := TX2) (N := 6) (n := 2) [.int x4, .int y14] [] dX4_pair_124 (c_X2_has l D cA shC (rowC_sh (vp_in_lt hi8)) h) q244 q245 q246 q51 q247 (rowSh.b0 (rowC_sh (vp_in_lt hi8))) (rowSh.k0 (rowC_sh (vp_in_lt hi8))) rfl ⟨rfl, by decide, by decide, by decide +kernel⟩ rfl rfl (Nat.le_of_ble_eq_true rfl) rfl rfl ⟨(Nat.le_of_ble_eq_true rfl), (Nat.le_of_ble_eq_true rfl)⟩ (Nat.le_of_ble_eq_true rfl) (Nat.le_of_ble_eq_true rfl) (fun r16 σ15 h => ?_)
                      refine g_if_ne X 133 dX4_pair_127 (by decide) (fun hc => ?_) (fun hc => ?_)
                      · have h := h.1 hc
                        refine g_aload_n X 2 dX4_pair_133 rfl rfl ?_
                        refine g_iload_n X 3 dX4_pair_134 rfl rfl ?_
                        refine g_aload X 1 dX4_pair_135 rfl ?_
                        refine g_aload X 0 dX4_pair_137 rfl ?_
                        refine g_iload X 6 dX4_pair_139 rfl ?_
                        refine g_iload X 7 dX4_pair_141 rfl ?_
                        refine g_callVI X (C := RX4) (T := TX4) (N := 7) (n := 5) [.int x1, .ref (rowC (ix x2)), .ref (rowC (ix x3)), .int x4, .int x5] [] dX4_pair_143 (c_X4_gatherInto l D cA (rowC_sh (vp_in_lt hi7)) (rowC_sh (vp_in_lt hi8)) h) q341 q343 q4 q47 q344 (Nat.le_of_ble_eq_true rfl) rfl rfl ⟨rfl, by decide, by decide, by decide +kernel⟩ rfl rfl (Nat.le_of_ble_eq_true rfl) rfl rfl ⟨(Nat.le_of_ble_eq_true rfl), (Nat.le_of_ble_eq_true rfl)⟩ (Nat.le_of_ble_eq_true rfl) (Nat.le_of_ble_eq_true rfl) (fun r18 σ17 h => ?_)
                        exact g_iret X hr dX4_pair_146 rfl h
                      · have h := h.2 hc
                        refine g_bipush X (-13 : Int32) dX4_pair_130 (by decide) ?_
                        exact g_iret X hr dX4_pair_132 rfl h
                  · have h := h.2 hc
                    refine g_bipush X (-12 : Int32) dX4_pair_97 (by decide) ?_
                    exact g_iret X hr dX4_pair_99 rfl h
                · have h := h.2 hc
                  refine g_bipush X (-11 : Int32) dX4_pair_82 (by decide) ?_
                  exact g_iret X hr dX4_pair_84 rfl h
          · have h := h.2 hc
            refine g_bipush X (-3 : Int32) dX4_pair_35 (by decide) ?_
            exact g_iret X hr dX4_pair_37 rfl h
theorem c_X4_pair (l : Launch) (D : va_G) (cA : Nat → ClassId) {x1 : Int32} {x2 : Int32} {x3 : Int32} {x4 : Int32} {x5 : Int32} {σ : St} {Q : Int32 → St → Prop} (h : w_X4_pair Q x1 x2 x3 x4 x5 σ) : CtI l yX4_pair cX4_pair 8 (some .int) rmX4_pair D cA shC [.ref 0, .int x1, .int x2, .int x3, .int x4, .int x5] σ Q := by
  refine CtI.of (own := RX4) rfl (by decide +kernel) [(0, .ref 0), (1, .int x1), (2, .int x2), (3, .int x3), (4, .int x4), (5, .int x5)] rfl (Nat.le_of_ble_eq_true rfl) ?_
  intro p e s m args below meth c ad0 A X hr
  exact b_X4_pair_0 X hr  h
def rmX4_merge : Room := { frames := 4, cells := 0, slots := 0, locals := 104 }
def w_X4_merge_75 (Q : Int32 → St → Prop) (x1 : Int32) (k3 : Nat) (k4 : Nat) (s0 : Int32) (s1 : Int32) (σ : St) : Prop := ((s1 = s0 → w_X4_remember (fun σ7 => w_X1_gainAll k3 (fun σ8 => (Q (0 : Int32) σ8)) k4 σ7) x1 σ) ∧ (¬ s1 = s0 → (Q (-12 : Int32) σ)))
set_option maxRecDepth 100000 in
set_option maxHeartbeats 4000000 in
theorem b_X4_merge_75 {p : Program} {l : Launch} {e : Env} {s : State} {m : MethodId} {args : Array Value} {below : List Frame} {meth : Method} {c : Code} {D : va_G} {cA : Nat → ClassId} {A : Nat → Prop} {ad0 : Nat → Nat} {Q : Int32 → St → Prop} {x1 : Int32} {k3 : Nat} {k4 : Nat} {s0 : Int32} {s1 : Int32} {σ : St} (X : Cx p rmX4_merge s m args meth c cX4_merge 5 RX4 D cA A) (hr : meth.sig.returnType = some .int) (hk3 : keepSh shC k3) (hk4 : keepSh shC k4) (h : w_X4_merge_75 Q x1 k3 k4 s0 s1 σ) : G p l e rmX4_merge s m args below meth c 5 D cA A (MQ below (va_Qi Q (EndW D cA ad0 shC) A) args s 0 0 A) 0 0 (fun ad => ad = ad0) shC σ [(0, .ref 0), (1, .int x1), (3, .ref k3), (4, .ref k4)] 75 [.int s0, .int s1] := by
  unfold w_X4_merge_75 at h
  refine g_icmp_eq X 81 dX4_merge_75 (by decide) (fun hc => ?_) (fun hc => ?_)
  · have h := h.1 hc
    refine g_aload_n X 0 dX4_merge_81 rfl rfl ?_
    refine g_iload_n X 1 dX4_merge_82 rfl rfl ?_
    refine g_callVV X (C := RX4) (T := TX4) (N := 7) (n := 1) [.int x1] [] dX4_merge_83 (c_X4_remember l D cA h) q315 q317 q3 q47 q318 (Nat.le_of_ble_eq_true rfl) rfl rfl ⟨rfl, by decide, by decide, by decide +kernel⟩ rfl rfl (Nat.le_of_ble_eq_true rfl) rfl rfl ⟨(Nat.le_of_ble_eq_true rfl), (Nat.le_of_ble_eq_true rfl)⟩ (Nat.le_of_ble_eq_true rfl) (Nat.le_of_ble_eq_true rfl) (fun σ7 h => ?_)
    refine g_aload_n X 2 dX4_merge_86 rfl rfl ?_
    refine g_aload X 3 dX4_merge_87 rfl ?_
    refine g_callVV X (C := RX1) (T := TX1) (N := 4) (n := 1) [.ref k4] [] dX4_merge_89 (c_X1_gainAll l D cA shC hk3 hk4 h) q385 q386 q387 q49 q388 (keepSh.b0 hk3) (keepSh.k0 hk3) rfl ⟨rfl, by decide, by decide, by decide +kernel⟩ rfl rfl (Nat.le_of_ble_eq_true rfl) rfl rfl ⟨(Nat.le_of_ble_eq_true rfl), (Nat.le_of_ble_eq_true rfl)⟩ (Nat.le_of_ble_eq_true rfl) (Nat.le_of_ble_eq_true rfl) (fun σ8 h => ?_)
    refine g_iconst X (0 : Int32) dX4_merge_92 (by decide) ?_
    exact g_iret X hr dX4_merge_93 rfl h
  · have h := h.2 hc
    refine g_bipush X (-12 : Int32) dX4_merge_78 (by decide) ?_
    exact g_iret X hr dX4_merge_80 rfl h
def w_X4_merge_62 (Q : Int32 → St → Prop) (x1 : Int32) (k3 : Nat) (k4 : Nat) (s0 : Int32) (σ : St) : Prop := ((¬ (gI σ k4 1) = 0 → (w_X4_merge_75 Q x1 k3 k4 (0 : Int32) s0 σ)) ∧ ((gI σ k4 1) = 0 → (w_X4_merge_75 Q x1 k3 k4 (1 : Int32) s0 σ)))
set_option maxRecDepth 100000 in
set_option maxHeartbeats 4000000 in
theorem b_X4_merge_62 {p : Program} {l : Launch} {e : Env} {s : State} {m : MethodId} {args : Array Value} {below : List Frame} {meth : Method} {c : Code} {D : va_G} {cA : Nat → ClassId} {A : Nat → Prop} {ad0 : Nat → Nat} {Q : Int32 → St → Prop} {x1 : Int32} {k3 : Nat} {k4 : Nat} {s0 : Int32} {σ : St} (X : Cx p rmX4_merge s m args meth c cX4_merge 5 RX4 D cA A) (hr : meth.sig.returnType = some .int) (hk3 : keepSh shC k3) (hk4 : keepSh shC k4) (h : w_X4_merge_62 Q x1 k3 k4 s0 σ) : G p l e rmX4_merge s m args below meth c 5 D cA A (MQ below (va_Qi Q (EndW D cA ad0 shC) A) args s 0 0 A) 0 0 (fun ad => ad = ad0) shC σ [(0, .ref 0), (1, .int x1), (3, .ref k3), (4, .ref k4)] 62 [.int s0] := by
  unfold w_X4_merge_62 at h
  refine g_aload X 3 dX4_merge_62 rfl ?_
  refine g_getI X (C := RX1) (T := TX1) (N := 4) 1 dX4_merge_64 (keepSh.b0 hk4) (keepSh.k0 hk4) rfl rfl inG1 (Nat.le_of_ble_eq_true rfl) rfl q86 ?_
  refine g_if_ne X 74 dX4_merge_67 (by decide) (fun hc => ?_) (fun hc => ?_)
  · have h := h.1 hc
    refine g_iconst X (0 : Int32) dX4_merge_74 (by decide) ?_
    exact b_X4_merge_75 X hr hk3 hk4 h
  · have h := h.2 hc
    refine g_iconst X (1 : Int32) dX4_merge_70 (by decide) ?_
    refine g_goto X 75 dX4_merge_71 (by decide) ?_
    exact b_X4_merge_75 X hr hk3 hk4 h
def w_X4_merge (Q : Int32 → St → Prop) (x1 : Int32) (x2 : Int32) (σ : St) : Prop := w_X4_isKeeper (fun r2 σ1 => ((r2 = 0 → (Q (-3 : Int32) σ1)) ∧ (¬ r2 = 0 → w_X4_isKeeper (fun r4 σ3 => ((¬ r4 = 0 → vp_in x1 6 ∧ vp_in x2 6 ∧ (((gI σ3 (keepC (ix x1)) 0) = 0 → (Q (-11 : Int32) σ3)) ∧ (¬ (gI σ3 (keepC (ix x1)) 0) = 0 → ((¬ (gI σ3 (keepC (ix x2)) 0) = 0 → ((¬ (gI σ3 (keepC (ix x1)) 1) = 0 → (w_X4_merge_62 Q x1 (keepC (ix x1)) (keepC (ix x2)) (0 : Int32) σ3)) ∧ ((gI σ3 (keepC (ix x1)) 1) = 0 → (w_X4_merge_62 Q x1 (keepC (ix x1)) (keepC (ix x2)) (1 : Int32) σ3)))) ∧ ((gI σ3 (keepC (ix x2)) 0) = 0 → (Q (-11 : Int32) σ3)))))) ∧ (r4 = 0 → (Q (-3 : Int32) σ3)))) x2 σ1))) x1 σ
set_option maxRecDepth 100000 in
set_option maxHeartbeats 4000000 in
theorem b_X4_merge_0 {p : Program} {l : Launch} {e : Env} {s : State} {m : MethodId} {args : Array Value} {below : List Frame} {meth : Method} {c : Code} {D : va_G} {cA : Nat → ClassId} {A : Nat → Prop} {ad0 : Nat → Nat} {Q : Int32 → St → Prop} {x1 : Int32} {x2 : Int32} {σ : St} (X : Cx p rmX4_merge s m args meth c cX4_merge 5 RX4 D cA A) (hr : meth.sig.returnType = some .int) (h : w_X4_merge Q x1 x2 σ) : G p l e rmX4_merge s m args below meth c 5 D cA A (MQ below (va_Qi Q (EndW D cA ad0 shC) A) args s 0 0 A) 0 0 (fun ad => ad = ad0) shC σ [(0, .ref 0), (1, .int x1), (2, .int x2)] 0 [] := by
  unfold w_X4_merge at h
  refine g_iload_n X 1 dX4_merge_0 rfl rfl ?_
  refine g_callSI X (n := 1) [.int x1] [] dX4_merge_1 (c_X4_isKeeper l D cA shC h) q312 q313 q47 q314 ⟨by decide, by decide, by decide +kernel⟩ rfl rfl (Nat.le_of_ble_eq_true rfl) rfl rfl ⟨(Nat.le_of_ble_eq_true rfl), (Nat.le_of_ble_eq_true rfl)⟩ (Nat.le_of_ble_eq_true rfl) (Nat.le_of_ble_eq_true rfl) (fun r2 σ1 h => ?_)
  refine g_if_eq X 14 dX4_merge_4 (by decide) (fun hc => ?_) (fun hc => ?_)
  · have h := h.1 hc
    refine g_bipush X (-3 : Int32) dX4_merge_14 (by decide) ?_
    exact g_iret X hr dX4_merge_16 rfl h
  · have h := h.2 hc
    refine g_iload_n X 2 dX4_merge_7 rfl rfl ?_
    refine g_callSI X (n := 1) [.int x2] [] dX4_merge_8 (c_X4_isKeeper l D cA shC h) q312 q313 q47 q314 ⟨by decide, by decide, by decide +kernel⟩ rfl rfl (Nat.le_of_ble_eq_true rfl) rfl rfl ⟨(Nat.le_of_ble_eq_true rfl), (Nat.le_of_ble_eq_true rfl)⟩ (Nat.le_of_ble_eq_true rfl) (Nat.le_of_ble_eq_true rfl) (fun r4 σ3 h => ?_)
    refine g_if_ne X 17 dX4_merge_11 (by decide) (fun hc => ?_) (fun hc => ?_)
    · have h := h.1 hc
      refine g_aload_n X 0 dX4_merge_17 rfl rfl ?_
      refine g_getR X (C := RX4) (T := TX4) (N := 7) 1 dX4_merge_18 (Nat.le_of_ble_eq_true rfl) rfl rfl rfl inG4 (Nat.le_of_ble_eq_true rfl) rfl rfl q206 ?_
      refine g_iload_n X 1 dX4_merge_21 rfl rfl ?_
      obtain ⟨hi5, h⟩ := h
      refine g_aald X (C := RX1) (t := 1) dX4_merge_22 (Nat.le_of_ble_eq_true rfl) rfl rfl hi5 (keepC_r (vp_in_lt hi5)) ?_
      refine g_astore_n X [(3, .ref (keepC (ix x1))), (0, .ref 0), (1, .int x1), (2, .int x2)] dX4_merge_23 rfl (Nat.le_of_ble_eq_true rfl) rfl ?_
      refine g_aload_n X 1 dX4_merge_24 rfl rfl ?_
      refine g_getR X (C := RX4) (T := TX4) (N := 7) 1 dX4_merge_25 (Nat.le_of_ble_eq_true rfl) rfl rfl rfl inG4 (Nat.le_of_ble_eq_true rfl) rfl rfl q206 ?_
      refine g_iload_n X 3 dX4_merge_28 rfl rfl ?_
      obtain ⟨hi6, h⟩ := h
      refine g_aald X (C := RX1) (t := 1) dX4_merge_29 (Nat.le_of_ble_eq_true rfl) rfl rfl hi6 (keepC_r (vp_in_lt hi6)) ?_
      refine g_astore X [(4, .ref (keepC (ix x2))), (3, .ref (keepC (ix x1))), (0, .ref 0), (1, .int x1), (2, .int x2)] dX4_merge_30 (Nat.le_of_ble_eq_true rfl) rfl ?_
      refine g_aload_n X 1 dX4_merge_32 rfl rfl ?_
      refine g_getI X (C := RX1) (T := TX1) (N := 4) 0 dX4_merge_33 (keepSh.b0 (keepC_sh (vp_in_lt hi5))) (keepSh.k0 (keepC_sh (vp_in_lt hi5))) rfl rfl inG1 (Nat.le_of_ble_eq_true rfl) rfl q84 ?_
      refine g_if_eq X 47 dX4_merge_36 (by decide) (fun hc => ?_) (fun hc => ?_)
      · have h := h.1 hc
        refine g_bipush X (-11 : Int32) dX4_merge_47 (by decide) ?_
        exact g_iret X hr dX4_merge_49 rfl h
      · have h := h.2 hc
        refine g_aload X 0 dX4_merge_39 rfl ?_
        refine g_getI X (C := RX1) (T := TX1) (N := 4) 0 dX4_merge_41 (keepSh.b0 (keepC_sh (vp_in_lt hi6))) (keepSh.k0 (keepC_sh (vp_in_lt hi6))) rfl rfl inG1 (Nat.le_of_ble_eq_true rfl) rfl q84 ?_
        refine g_if_ne X 50 dX4_merge_44 (by decide) (fun hc => ?_) (fun hc => ?_)
        · have h := h.1 hc
          refine g_aload_n X 1 dX4_merge_50 rfl rfl ?_
          refine g_getI X (C := RX1) (T := TX1) (N := 4) 1 dX4_merge_51 (keepSh.b0 (keepC_sh (vp_in_lt hi5))) (keepSh.k0 (keepC_sh (vp_in_lt hi5))) rfl rfl inG1 (Nat.le_of_ble_eq_true rfl) rfl q86 ?_
          refine g_if_ne X 61 dX4_merge_54 (by decide) (fun hc => ?_) (fun hc => ?_)
          · have h := h.1 hc
            refine g_iconst X (0 : Int32) dX4_merge_61 (by decide) ?_
            refine g_weak [2, 3, 1, 0] rfl ?_
            exact b_X4_merge_62 X hr (keepC_sh (vp_in_lt hi5)) (keepC_sh (vp_in_lt hi6)) h
          · have h := h.2 hc
            refine g_iconst X (1 : Int32) dX4_merge_57 (by decide) ?_
            refine g_goto X 62 dX4_merge_58 (by decide) ?_
            refine g_weak [2, 3, 1, 0] rfl ?_
            exact b_X4_merge_62 X hr (keepC_sh (vp_in_lt hi5)) (keepC_sh (vp_in_lt hi6)) h
        · have h := h.2 hc
          refine g_bipush X (-11 : Int32) dX4_merge_47 (by decide) ?_
          exact g_iret X hr dX4_merge_49 rfl h
    · have h := h.2 hc
      refine g_bipush X (-3 : Int32) dX4_merge_14 (by decide) ?_
      exact g_iret X hr dX4_merge_16 rfl h
theorem c_X4_merge (l : Launch) (D : va_G) (cA : Nat → ClassId) {x1 : Int32} {x2 : Int32} {σ : St} {Q : Int32 → St → Prop} (h : w_X4_merge Q x1 x2 σ) : CtI l yX4_merge cX4_merge 5 (some .int) rmX4_merge D cA shC [.ref 0, .int x1, .int x2] σ Q := by
  refine CtI.of (own := RX4) rfl (by decide +kernel) [(0, .ref 0), (1, .int x1), (2, .int x2)] rfl (Nat.le_of_ble_eq_true rfl) ?_
  intro p e s m args below meth c ad0 A X hr
  exact b_X4_merge_0 X hr  h
def rmX4_clear : Room := { frames := 4, cells := 0, slots := 0, locals := 104 }
def w_X4_clear (Q : Int32 → St → Prop) (x1 : Int32) (σ : St) : Prop := w_X4_isKeeper (fun r2 σ1 => ((¬ r2 = 0 → vp_in x1 6 ∧ ((¬ (gI σ1 (keepC (ix x1)) 0) = 0 → w_X4_remember (fun σ4 => w_X1_renew (keepC (ix x1)) (fun σ5 => (Q (0 : Int32) σ5)) (gI σ4 (keepC (ix x1)) 1) σ4) x1 σ1) ∧ ((gI σ1 (keepC (ix x1)) 0) = 0 → (Q (-11 : Int32) σ1)))) ∧ (r2 = 0 → (Q (-3 : Int32) σ1)))) x1 σ
set_option maxRecDepth 100000 in
set_option maxHeartbeats 4000000 in
theorem b_X4_clear_0 {p : Program} {l : Launch} {e : Env} {s : State} {m : MethodId} {args : Array Value} {below : List Frame} {meth : Method} {c : Code} {D : va_G} {cA : Nat → ClassId} {A : Nat → Prop} {ad0 : Nat → Nat} {Q : Int32 → St → Prop} {x1 : Int32} {σ : St} (X : Cx p rmX4_clear s m args meth c cX4_clear 3 RX4 D cA A) (hr : meth.sig.returnType = some .int) (h : w_X4_clear Q x1 σ) : G p l e rmX4_clear s m args below meth c 3 D cA A (MQ below (va_Qi Q (EndW D cA ad0 shC) A) args s 0 0 A) 0 0 (fun ad => ad = ad0) shC σ [(0, .ref 0), (1, .int x1)] 0 [] := by
  unfold w_X4_clear at h
  refine g_iload_n X 1 dX4_clear_0 rfl rfl ?_
  refine g_callSI X (n := 1) [.int x1] [] dX4_clear_1 (c_X4_isKeeper l D cA shC h) q312 q313 q47 q314 ⟨by decide, by decide, by decide +kernel⟩ rfl rfl (Nat.le_of_ble_eq_true rfl) rfl rfl ⟨(Nat.le_of_ble_eq_true rfl), (Nat.le_of_ble_eq_true rfl)⟩ (Nat.le_of_ble_eq_true rfl) (Nat.le_of_ble_eq_true rfl) (fun r2 σ1 h => ?_)
  refine g_if_ne X 10 dX4_clear_4 (by decide) (fun hc => ?_) (fun hc => ?_)
  · have h := h.1 hc
    refine g_aload_n X 0 dX4_clear_10 rfl rfl ?_
    refine g_getR X (C := RX4) (T := TX4) (N := 7) 1 dX4_clear_11 (Nat.le_of_ble_eq_true rfl) rfl rfl rfl inG4 (Nat.le_of_ble_eq_true rfl) rfl rfl q206 ?_
    refine g_iload_n X 1 dX4_clear_14 rfl rfl ?_
    obtain ⟨hi3, h⟩ := h
    refine g_aald X (C := RX1) (t := 1) dX4_clear_15 (Nat.le_of_ble_eq_true rfl) rfl rfl hi3 (keepC_r (vp_in_lt hi3)) ?_
    refine g_astore_n X [(2, .ref (keepC (ix x1))), (0, .ref 0), (1, .int x1)] dX4_clear_16 rfl (Nat.le_of_ble_eq_true rfl) rfl ?_
    refine g_aload_n X 0 dX4_clear_17 rfl rfl ?_
    refine g_getI X (C := RX1) (T := TX1) (N := 4) 0 dX4_clear_18 (keepSh.b0 (keepC_sh (vp_in_lt hi3))) (keepSh.k0 (keepC_sh (vp_in_lt hi3))) rfl rfl inG1 (Nat.le_of_ble_eq_true rfl) rfl q84 ?_
    refine g_if_ne X 27 dX4_clear_21 (by decide) (fun hc => ?_) (fun hc => ?_)
    · have h := h.1 hc
      refine g_aload_n X 1 dX4_clear_27 rfl rfl ?_
      refine g_iload_n X 2 dX4_clear_28 rfl rfl ?_
      refine g_callVV X (C := RX4) (T := TX4) (N := 7) (n := 1) [.int x1] [] dX4_clear_29 (c_X4_remember l D cA h) q315 q317 q3 q47 q318 (Nat.le_of_ble_eq_true rfl) rfl rfl ⟨rfl, by decide, by decide, by decide +kernel⟩ rfl rfl (Nat.le_of_ble_eq_true rfl) rfl rfl ⟨(Nat.le_of_ble_eq_true rfl), (Nat.le_of_ble_eq_true rfl)⟩ (Nat.le_of_ble_eq_true rfl) (Nat.le_of_ble_eq_true rfl) (fun σ4 h => ?_)
      refine g_aload_n X 0 dX4_clear_32 rfl rfl ?_
      refine g_aload_n X 0 dX4_clear_33 rfl rfl ?_
      refine g_getI X (C := RX1) (T := TX1) (N := 4) 1 dX4_clear_34 (keepSh.b0 (keepC_sh (vp_in_lt hi3))) (keepSh.k0 (keepC_sh (vp_in_lt hi3))) rfl rfl inG1 (Nat.le_of_ble_eq_true rfl) rfl q86 ?_
      refine g_callVV X (C := RX1) (T := TX1) (N := 4) (n := 1) [.int (gI σ4 (keepC (ix x1)) 1)] [] dX4_clear_37 (c_X1_renew l D cA shC (keepC_sh (vp_in_lt hi3)) h) q331 q332 q333 q49 q334 (keepSh.b0 (keepC_sh (vp_in_lt hi3))) (keepSh.k0 (keepC_sh (vp_in_lt hi3))) rfl ⟨rfl, by decide, by decide, by decide +kernel⟩ rfl rfl (Nat.le_of_ble_eq_true rfl) rfl rfl ⟨(Nat.le_of_ble_eq_true rfl), (Nat.le_of_ble_eq_true rfl)⟩ (Nat.le_of_ble_eq_true rfl) (Nat.le_of_ble_eq_true rfl) (fun σ5 h => ?_)
      refine g_iconst X (0 : Int32) dX4_clear_40 (by decide) ?_
      exact g_iret X hr dX4_clear_41 rfl h
    · have h := h.2 hc
      refine g_bipush X (-11 : Int32) dX4_clear_24 (by decide) ?_
      exact g_iret X hr dX4_clear_26 rfl h
  · have h := h.2 hc
    refine g_bipush X (-3 : Int32) dX4_clear_7 (by decide) ?_
    exact g_iret X hr dX4_clear_9 rfl h
theorem c_X4_clear (l : Launch) (D : va_G) (cA : Nat → ClassId) {x1 : Int32} {σ : St} {Q : Int32 → St → Prop} (h : w_X4_clear Q x1 σ) : CtI l yX4_clear cX4_clear 3 (some .int) rmX4_clear D cA shC [.ref 0, .int x1] σ Q := by
  refine CtI.of (own := RX4) rfl (by decide +kernel) [(0, .ref 0), (1, .int x1)] rfl (Nat.le_of_ble_eq_true rfl) ?_
  intro p e s m args below meth c ad0 A X hr
  exact b_X4_clear_0 X hr  h
def rmX4_error : Room := { frames := 4, cells := 0, slots := 0, locals := 114 }
def w_X4_error (Q : Int32 → St → Prop) (x1 : Int32) (x2 : Int32) (x3 : Int32) (x4 : Int32) (σ : St) : Prop := w_X4_isKeeper (fun r2 σ1 => ((r2 = 0 → (Q (-3 : Int32) σ1)) ∧ (¬ r2 = 0 → w_X4_isRow (fun r4 σ3 => ((r4 = 0 → (Q (-3 : Int32) σ3)) ∧ (¬ r4 = 0 → ((x4 < 0 → (Q (-3 : Int32) σ3)) ∧ (¬ x4 < 0 → ((x4 ≤ (40 : Int32) → vp_in x1 6 ∧ vp_in x2 12 ∧ (((gI σ3 (keepC (ix x1)) 0) = 0 → (Q (-11 : Int32) σ3)) ∧ (¬ (gI σ3 (keepC (ix x1)) 0) = 0 → ((¬ (gI σ3 (rowC (ix x2)) 0) = 0 → (((gI σ3 (keepC (ix x1)) 1) = 0 → w_X2_has (rowC (ix x2)) (fun r8 σ7 => ((¬ r8 = 0 → w_X4_remember (fun σ9 => w_X1_renew (keepC (ix x1)) (fun σ10 => w_X2_summedPlainly (rowC (ix x2)) (fun r12 σ11 => w_X2_writeDouble 48 (fun σ13 => w_X1_gather (keepC (ix x1)) (fun σ14 => w_X1_gather (keepC (ix x1)) (fun σ15 => ∀ σ16 : St, σ16 = uI σ15 0 6 ((gI σ15 0 6) + x4) → (Q x4 σ16)) 48 44 (0 : Int32) (1 : Int32) (1 : Int32) σ14) (rowC (ix x2)) 44 x3 x4 (0 : Int32) σ13) (0 : Int32) r12 σ11) x3 x4 σ10) (0 : Int32) σ9) x1 σ7) ∧ (r8 = 0 → (Q (-13 : Int32) σ7)))) x3 x4 σ3) ∧ (¬ (gI σ3 (keepC (ix x1)) 1) = 0 → (Q (-12 : Int32) σ3)))) ∧ ((gI σ3 (rowC (ix x2)) 0) = 0 → (Q (-11 : Int32) σ3)))))) ∧ (¬ x4 ≤ (40 : Int32) → (Q (-3 : Int32) σ3)))))))) x2 σ1))) x1 σ
set_option maxRecDepth 100000 in
set_option maxHeartbeats 4000000 in
theorem b_X4_error_0 {p : Program} {l : Launch} {e : Env} {s : State} {m : MethodId} {args : Array Value} {below : List Frame} {meth : Method} {c : Code} {D : va_G} {cA : Nat → ClassId} {A : Nat → Prop} {ad0 : Nat → Nat} {Q : Int32 → St → Prop} {x1 : Int32} {x2 : Int32} {x3 : Int32} {x4 : Int32} {σ : St} (X : Cx p rmX4_error s m args meth c cX4_error 7 RX4 D cA A) (hr : meth.sig.returnType = some .int) (h : w_X4_error Q x1 x2 x3 x4 σ) : G p l e rmX4_error s m args below meth c 7 D cA A (MQ below (va_Qi Q (EndW D cA ad0 shC) A) args s 0 0 A) 0 0 (fun ad => ad = ad0) shC σ [(0, .ref 0), (1, .int x1), (2, .int x2), (3, .int x3), (4, .int x4)] 0 [] := by
  unfold w_X4_error at h
  refine g_iload_n X 1 dX4_error_0 rfl rfl ?_
  refine g_callSI X (n := 1) [.int x1] [] dX4_error_1 (c_X4_isKeeper l D cA shC h) q312 q313 q47 q314 ⟨by decide, by decide, by decide +kernel⟩ rfl rfl (Nat.le_of_ble_eq_true rfl) rfl rfl ⟨(Nat.le_of_ble_eq_true rfl), (Nat.le_of_ble_eq_true rfl)⟩ (Nat.le_of_ble_eq_true rfl) (Nat.le_of_ble_eq_true rfl) (fun r2 σ1 h => ?_)
  refine g_if_eq X 26 dX4_error_4 (by decide) (fun hc => ?_) (fun hc => ?_)
  · have h := h.1 hc
    refine g_bipush X (-3 : Int32) dX4_error_26 (by decide) ?_
    exact g_iret X hr dX4_error_28 rfl h
  · have h := h.2 hc
    refine g_iload_n X 2 dX4_error_7 rfl rfl ?_
    refine g_callSI X (n := 1) [.int x2] [] dX4_error_8 (c_X4_isRow l D cA shC h) q231 q232 q47 q233 ⟨by decide, by decide, by decide +kernel⟩ rfl rfl (Nat.le_of_ble_eq_true rfl) rfl rfl ⟨(Nat.le_of_ble_eq_true rfl), (Nat.le_of_ble_eq_true rfl)⟩ (Nat.le_of_ble_eq_true rfl) (Nat.le_of_ble_eq_true rfl) (fun r4 σ3 h => ?_)
    refine g_if_eq X 26 dX4_error_11 (by decide) (fun hc => ?_) (fun hc => ?_)
    · have h := h.1 hc
      refine g_bipush X (-3 : Int32) dX4_error_26 (by decide) ?_
      exact g_iret X hr dX4_error_28 rfl h
    · have h := h.2 hc
      refine g_iload X 4 dX4_error_14 rfl ?_
      refine g_if_lt X 26 dX4_error_16 (by decide) (fun hc => ?_) (fun hc => ?_)
      · have h := h.1 hc
        refine g_bipush X (-3 : Int32) dX4_error_26 (by decide) ?_
        exact g_iret X hr dX4_error_28 rfl h
      · have h := h.2 hc
        refine g_iload X 4 dX4_error_19 rfl ?_
        refine g_bipush X (40 : Int32) dX4_error_21 (by decide) ?_
        refine g_icmp_le X 29 dX4_error_23 (by decide) (fun hc => ?_) (fun hc => ?_)
        · have h := h.1 hc
          refine g_aload_n X 0 dX4_error_29 rfl rfl ?_
          refine g_getR X (C := RX4) (T := TX4) (N := 7) 1 dX4_error_30 (Nat.le_of_ble_eq_true rfl) rfl rfl rfl inG4 (Nat.le_of_ble_eq_true rfl) rfl rfl q206 ?_
          refine g_iload_n X 1 dX4_error_33 rfl rfl ?_
          obtain ⟨hi5, h⟩ := h
          refine g_aald X (C := RX1) (t := 1) dX4_error_34 (Nat.le_of_ble_eq_true rfl) rfl rfl hi5 (keepC_r (vp_in_lt hi5)) ?_
          refine g_astore X [(5, .ref (keepC (ix x1))), (0, .ref 0), (1, .int x1), (2, .int x2), (3, .int x3), (4, .int x4)] dX4_error_35 (Nat.le_of_ble_eq_true rfl) rfl ?_
          refine g_aload_n X 1 dX4_error_37 rfl rfl ?_
          refine g_getR X (C := RX4) (T := TX4) (N := 7) 0 dX4_error_38 (Nat.le_of_ble_eq_true rfl) rfl rfl rfl inG4 (Nat.le_of_ble_eq_true rfl) rfl rfl q205 ?_
          refine g_iload_n X 3 dX4_error_41 rfl rfl ?_
          obtain ⟨hi6, h⟩ := h
          refine g_aald X (C := RX2) (t := 0) dX4_error_42 (Nat.le_of_ble_eq_true rfl) rfl rfl hi6 (rowC_r (vp_in_lt hi6)) ?_
          refine g_astore X [(6, .ref (rowC (ix x2))), (5, .ref (keepC (ix x1))), (0, .ref 0), (1, .int x1), (2, .int x2), (3, .int x3), (4, .int x4)] dX4_error_43 (Nat.le_of_ble_eq_true rfl) rfl ?_
          refine g_aload X 1 dX4_error_45 rfl ?_
          refine g_getI X (C := RX1) (T := TX1) (N := 4) 0 dX4_error_47 (keepSh.b0 (keepC_sh (vp_in_lt hi5))) (keepSh.k0 (keepC_sh (vp_in_lt hi5))) rfl rfl inG1 (Nat.le_of_ble_eq_true rfl) rfl q84 ?_
          refine g_if_eq X 61 dX4_error_50 (by decide) (fun hc => ?_) (fun hc => ?_)
          · have h := h.1 hc
            refine g_bipush X (-11 : Int32) dX4_error_61 (by decide) ?_
            exact g_iret X hr dX4_error_63 rfl h
          · have h := h.2 hc
            refine g_aload X 0 dX4_error_53 rfl ?_
            refine g_getI X (C := RX2) (T := TX2) (N := 6) 0 dX4_error_55 (rowSh.b0 (rowC_sh (vp_in_lt hi6))) (rowSh.k0 (rowC_sh (vp_in_lt hi6))) rfl rfl inG2 (Nat.le_of_ble_eq_true rfl) rfl q132 ?_
            refine g_if_ne X 64 dX4_error_58 (by decide) (fun hc => ?_) (fun hc => ?_)
            · have h := h.1 hc
              refine g_aload X 1 dX4_error_64 rfl ?_
              refine g_getI X (C := RX1) (T := TX1) (N := 4) 1 dX4_error_66 (keepSh.b0 (keepC_sh (vp_in_lt hi5))) (keepSh.k0 (keepC_sh (vp_in_lt hi5))) rfl rfl inG1 (Nat.le_of_ble_eq_true rfl) rfl q86 ?_
              refine g_if_eq X 75 dX4_error_69 (by decide) (fun hc => ?_) (fun hc => ?_)
              · have h := h.1 hc
                refine g_aload X 0 dX4_error_75 rfl ?_
                refine g_iload_n X 5 dX4_error_77 rfl rfl ?_
                refine g_iload X 6 dX4_error_78 rfl ?_
                refine g_callVI X (C := RX2) (T := TX2) (N := 6) (n := 2) [.int x3, .int x4] [] dX4_error_80 (c_X2_has l D cA shC (rowC_sh (vp_in_lt hi6)) h) q244 q245 q246 q51 q247 (rowSh.b0 (rowC_sh (vp_in_lt hi6))) (rowSh.k0 (rowC_sh (vp_in_lt hi6))) rfl ⟨rfl, by decide, by decide, by decide +kernel⟩ rfl rfl (Nat.le_of_ble_eq_true rfl) rfl rfl ⟨(Nat.le_of_ble_eq_true rfl), (Nat.le_of_ble_eq_true rfl)⟩ (Nat.le_of_ble_eq_true rfl) (Nat.le_of_ble_eq_true rfl) (fun r8 σ7 h => ?_)
                refine g_if_ne X 89 dX4_error_83 (by decide) (fun hc => ?_) (fun hc => ?_)
                · have h := h.1 hc
                  refine g_aload_n X 2 dX4_error_89 rfl rfl ?_
                  refine g_iload_n X 3 dX4_error_90 rfl rfl ?_
                  refine g_callVV X (C := RX4) (T := TX4) (N := 7) (n := 1) [.int x1] [] dX4_error_91 (c_X4_remember l D cA h) q315 q317 q3 q47 q318 (Nat.le_of_ble_eq_true rfl) rfl rfl ⟨rfl, by decide, by decide, by decide +kernel⟩ rfl rfl (Nat.le_of_ble_eq_true rfl) rfl rfl ⟨(Nat.le_of_ble_eq_true rfl), (Nat.le_of_ble_eq_true rfl)⟩ (Nat.le_of_ble_eq_true rfl) (Nat.le_of_ble_eq_true rfl) (fun σ9 h => ?_)
                  refine g_aload X 1 dX4_error_94 rfl ?_
                  refine g_iconst X (0 : Int32) dX4_error_96 (by decide) ?_
                  refine g_callVV X (C := RX1) (T := TX1) (N := 4) (n := 1) [.int (0 : Int32)] [] dX4_error_97 (c_X1_renew l D cA shC (keepC_sh (vp_in_lt hi5)) h) q331 q332 q333 q49 q334 (keepSh.b0 (keepC_sh (vp_in_lt hi5))) (keepSh.k0 (keepC_sh (vp_in_lt hi5))) rfl ⟨rfl, by decide, by decide, by decide +kernel⟩ rfl rfl (Nat.le_of_ble_eq_true rfl) rfl rfl ⟨(Nat.le_of_ble_eq_true rfl), (Nat.le_of_ble_eq_true rfl)⟩ (Nat.le_of_ble_eq_true rfl) (Nat.le_of_ble_eq_true rfl) (fun σ10 h => ?_)
                  refine g_aload_n X 2 dX4_error_100 rfl rfl ?_
                  refine g_getR X (C := RX4) (T := TX4) (N := 7) 5 dX4_error_101 (Nat.le_of_ble_eq_true rfl) rfl rfl rfl inG4 (Nat.le_of_ble_eq_true rfl) rfl rfl q210 ?_
                  refine g_iconst X (0 : Int32) dX4_error_104 (by decide) ?_
                  refine g_aload X 0 dX4_error_105 rfl ?_
                  refine g_iload_n X 5 dX4_error_107 rfl rfl ?_
                  refine g_iload X 6 dX4_error_108 rfl ?_
                  refine g_callVD X (C := RX2) (T := TX2) (N := 6) (n := 2) [.int x3, .int x4] [.int (0 : Int32), .ref 48] dX4_error_110 (c_X2_summedPlainly l D cA shC (rowC_sh (vp_in_lt hi6)) h) q397 q398 q399 q51 q400 (rowSh.b0 (rowC_sh (vp_in_lt hi6))) (rowSh.k0 (rowC_sh (vp_in_lt hi6))) rfl ⟨rfl, by decide, by decide, by decide +kernel⟩ rfl rfl (Nat.le_of_ble_eq_true rfl) rfl rfl ⟨(Nat.le_of_ble_eq_true rfl), (Nat.le_of_ble_eq_true rfl)⟩ (Nat.le_of_ble_eq_true rfl) (Nat.le_of_ble_eq_true rfl) (fun r12 σ11 h => ?_)
                  refine g_callVV X (C := RX2) (T := TX2) (N := 6) (n := 2) [.int (0 : Int32), .double r12] [] dX4_error_113 (c_X2_writeDouble l D cA shC plain_sh h) q410 q411 q412 q51 q413 (rowSh.b0 plain_sh) (rowSh.k0 plain_sh) rfl ⟨rfl, by decide, by decide, by decide +kernel⟩ rfl rfl (Nat.le_of_ble_eq_true rfl) rfl rfl ⟨(Nat.le_of_ble_eq_true rfl), (Nat.le_of_ble_eq_true rfl)⟩ (Nat.le_of_ble_eq_true rfl) (Nat.le_of_ble_eq_true rfl) (fun σ13 h => ?_)
                  refine g_aload X 1 dX4_error_116 rfl ?_
                  refine g_aload X 0 dX4_error_118 rfl ?_
                  refine g_aload_n X 2 dX4_error_120 rfl rfl ?_
                  refine g_getR X (C := RX4) (T := TX4) (N := 7) 4 dX4_error_121 (Nat.le_of_ble_eq_true rfl) rfl rfl rfl inG4 (Nat.le_of_ble_eq_true rfl) rfl rfl q209 ?_
                  refine g_iload_n X 5 dX4_error_124 rfl rfl ?_
                  refine g_iload X 6 dX4_error_125 rfl ?_
                  refine g_iconst X (0 : Int32) dX4_error_127 (by decide) ?_
                  refine g_callVV X (C := RX1) (T := TX1) (N := 4) (n := 5) [.ref (rowC (ix x2)), .ref 44, .int x3, .int x4, .int (0 : Int32)] [] dX4_error_128 (c_X1_gather l D cA shC (keepC_sh (vp_in_lt hi5)) (rowC_sh (vp_in_lt hi6)) ones_sh h) q345 q346 q347 q49 q348 (keepSh.b0 (keepC_sh (vp_in_lt hi5))) (keepSh.k0 (keepC_sh (vp_in_lt hi5))) rfl ⟨rfl, by decide, by decide, by decide +kernel⟩ rfl rfl (Nat.le_of_ble_eq_true rfl) rfl rfl ⟨(Nat.le_of_ble_eq_true rfl), (Nat.le_of_ble_eq_true rfl)⟩ (Nat.le_of_ble_eq_true rfl) (Nat.le_of_ble_eq_true rfl) (fun σ14 h => ?_)
                  refine g_aload X 1 dX4_error_131 rfl ?_
                  refine g_aload_n X 2 dX4_error_133 rfl rfl ?_
                  refine g_getR X (C := RX4) (T := TX4) (N := 7) 5 dX4_error_134 (Nat.le_of_ble_eq_true rfl) rfl rfl rfl inG4 (Nat.le_of_ble_eq_true rfl) rfl rfl q210 ?_
                  refine g_aload_n X 2 dX4_error_137 rfl rfl ?_
                  refine g_getR X (C := RX4) (T := TX4) (N := 7) 4 dX4_error_138 (Nat.le_of_ble_eq_true rfl) rfl rfl rfl inG4 (Nat.le_of_ble_eq_true rfl) rfl rfl q209 ?_
                  refine g_iconst X (0 : Int32) dX4_error_141 (by decide) ?_
                  refine g_iconst X (1 : Int32) dX4_error_142 (by decide) ?_
                  refine g_iconst X (1 : Int32) dX4_error_143 (by decide) ?_
                  refine g_callVV X (C := RX1) (T := TX1) (N := 4) (n := 5) [.ref 48, .ref 44, .int (0 : Int32), .int (1 : Int32), .int (1 : Int32)] [] dX4_error_144 (c_X1_gather l D cA shC (keepC_sh (vp_in_lt hi5)) plain_sh ones_sh h) q345 q346 q347 q49 q348 (keepSh.b0 (keepC_sh (vp_in_lt hi5))) (keepSh.k0 (keepC_sh (vp_in_lt hi5))) rfl ⟨rfl, by decide, by decide, by decide +kernel⟩ rfl rfl (Nat.le_of_ble_eq_true rfl) rfl rfl ⟨(Nat.le_of_ble_eq_true rfl), (Nat.le_of_ble_eq_true rfl)⟩ (Nat.le_of_ble_eq_true rfl) (Nat.le_of_ble_eq_true rfl) (fun σ15 h => ?_)
                  refine g_aload_n X 2 dX4_error_147 rfl rfl ?_
                  refine g_dup X dX4_error_148 rfl ?_
                  refine g_getI X (C := RX4) (T := TX4) (N := 7) 6 dX4_error_149 (Nat.le_of_ble_eq_true rfl) rfl rfl rfl inG4 (Nat.le_of_ble_eq_true rfl) rfl q211 ?_
                  refine g_iload X 6 dX4_error_152 rfl ?_
                  refine g_iadd X dX4_error_154 ?_
                  refine g_putI X (C := RX4) (T := TX4) (N := 7) (ty0 := tyX4) 6 dX4_error_155 (Nat.le_of_ble_eq_true rfl) rfl rfl rfl inG4 tyX4_ok nmX4 (Nat.le_of_ble_eq_true rfl) rfl rfl q211 rfl rfl ?_
                  refine g_nameS (fun σ16 eσ16 => ?_)
                  have h := h σ16 eσ16
                  refine g_iload X 6 dX4_error_158 rfl ?_
                  exact g_iret X hr dX4_error_160 rfl h
                · have h := h.2 hc
                  refine g_bipush X (-13 : Int32) dX4_error_86 (by decide) ?_
                  exact g_iret X hr dX4_error_88 rfl h
              · have h := h.2 hc
                refine g_bipush X (-12 : Int32) dX4_error_72 (by decide) ?_
                exact g_iret X hr dX4_error_74 rfl h
            · have h := h.2 hc
              refine g_bipush X (-11 : Int32) dX4_error_61 (by decide) ?_
              exact g_iret X hr dX4_error_63 rfl h
        · have h := h.2 hc
          refine g_bipush X (-3 : Int32) dX4_error_26 (by decide) ?_
          exact g_iret X hr dX4_error_28 rfl h
theorem c_X4_error (l : Launch) (D : va_G) (cA : Nat → ClassId) {x1 : Int32} {x2 : Int32} {x3 : Int32} {x4 : Int32} {σ : St} {Q : Int32 → St → Prop} (h : w_X4_error Q x1 x2 x3 x4 σ) : CtI l yX4_error cX4_error 7 (some .int) rmX4_error D cA shC [.ref 0, .int x1, .int x2, .int x3, .int x4] σ Q := by
  refine CtI.of (own := RX4) rfl (by decide +kernel) [(0, .ref 0), (1, .int x1), (2, .int x2), (3, .int x3), (4, .int x4)] rfl (Nat.le_of_ble_eq_true rfl) ?_
  intro p e s m args below meth c ad0 A X hr
  exact b_X4_error_0 X hr  h
def rmX4_plain : Room := { frames := 4, cells := 0, slots := 0, locals := 94 }
def w_X4_plain (Q : UInt64 → St → Prop) (x1 : Int32) (x2 : Int32) (x3 : Int32) (σ : St) : Prop := w_X4_isRow (fun r2 σ1 => ((r2 = 0 → (Q FP.dconst0 σ1)) ∧ (¬ r2 = 0 → ((x3 < 0 → (Q FP.dconst0 σ1)) ∧ (¬ x3 < 0 → ((x3 ≤ (40 : Int32) → vp_in x1 12 ∧ (((gI σ1 (rowC (ix x1)) 0) = 0 → (Q FP.dconst0 σ1)) ∧ (¬ (gI σ1 (rowC (ix x1)) 0) = 0 → w_X2_has (rowC (ix x1)) (fun r5 σ4 => ((¬ r5 = 0 → w_X2_summedPlainly (rowC (ix x1)) (fun r7 σ6 => (Q r7 σ6)) x2 x3 σ4) ∧ (r5 = 0 → (Q FP.dconst0 σ4)))) x2 x3 σ1))) ∧ (¬ x3 ≤ (40 : Int32) → (Q FP.dconst0 σ1)))))))) x1 σ
set_option maxRecDepth 100000 in
set_option maxHeartbeats 4000000 in
theorem b_X4_plain_0 {p : Program} {l : Launch} {e : Env} {s : State} {m : MethodId} {args : Array Value} {below : List Frame} {meth : Method} {c : Code} {D : va_G} {cA : Nat → ClassId} {A : Nat → Prop} {ad0 : Nat → Nat} {Q : UInt64 → St → Prop} {x1 : Int32} {x2 : Int32} {x3 : Int32} {σ : St} (X : Cx p rmX4_plain s m args meth c cX4_plain 5 RX4 D cA A) (hr : meth.sig.returnType = some .double) (h : w_X4_plain Q x1 x2 x3 σ) : G p l e rmX4_plain s m args below meth c 5 D cA A (MQ below (va_Qd Q (EndW D cA ad0 shC) A) args s 0 0 A) 0 0 (fun ad => ad = ad0) shC σ [(0, .ref 0), (1, .int x1), (2, .int x2), (3, .int x3)] 0 [] := by
  unfold w_X4_plain at h
  refine g_iload_n X 1 dX4_plain_0 rfl rfl ?_
  refine g_callSI X (n := 1) [.int x1] [] dX4_plain_1 (c_X4_isRow l D cA shC h) q231 q232 q47 q233 ⟨by decide, by decide, by decide +kernel⟩ rfl rfl (Nat.le_of_ble_eq_true rfl) rfl rfl ⟨(Nat.le_of_ble_eq_true rfl), (Nat.le_of_ble_eq_true rfl)⟩ (Nat.le_of_ble_eq_true rfl) (Nat.le_of_ble_eq_true rfl) (fun r2 σ1 h => ?_)
  refine g_if_eq X 17 dX4_plain_4 (by decide) (fun hc => ?_) (fun hc => ?_)
  · have h := h.1 hc
    refine g_dconst0 X dX4_plain_17 ?_
    exact g_dret X hr dX4_plain_18 h
  · have h := h.2 hc
    refine g_iload_n X 3 dX4_plain_7 rfl rfl ?_
    refine g_if_lt X 17 dX4_plain_8 (by decide) (fun hc => ?_) (fun hc => ?_)
    · have h := h.1 hc
      refine g_dconst0 X dX4_plain_17 ?_
      exact g_dret X hr dX4_plain_18 h
    · have h := h.2 hc
      refine g_iload_n X 3 dX4_plain_11 rfl rfl ?_
      refine g_bipush X (40 : Int32) dX4_plain_12 (by decide) ?_
      refine g_icmp_le X 19 dX4_plain_14 (by decide) (fun hc => ?_) (fun hc => ?_)
      · have h := h.1 hc
        refine g_aload_n X 0 dX4_plain_19 rfl rfl ?_
        refine g_getR X (C := RX4) (T := TX4) (N := 7) 0 dX4_plain_20 (Nat.le_of_ble_eq_true rfl) rfl rfl rfl inG4 (Nat.le_of_ble_eq_true rfl) rfl rfl q205 ?_
        refine g_iload_n X 1 dX4_plain_23 rfl rfl ?_
        obtain ⟨hi3, h⟩ := h
        refine g_aald X (C := RX2) (t := 0) dX4_plain_24 (Nat.le_of_ble_eq_true rfl) rfl rfl hi3 (rowC_r (vp_in_lt hi3)) ?_
        refine g_astore X [(4, .ref (rowC (ix x1))), (0, .ref 0), (1, .int x1), (2, .int x2), (3, .int x3)] dX4_plain_25 (Nat.le_of_ble_eq_true rfl) rfl ?_
        refine g_aload X 0 dX4_plain_27 rfl ?_
        refine g_getI X (C := RX2) (T := TX2) (N := 6) 0 dX4_plain_29 (rowSh.b0 (rowC_sh (vp_in_lt hi3))) (rowSh.k0 (rowC_sh (vp_in_lt hi3))) rfl rfl inG2 (Nat.le_of_ble_eq_true rfl) rfl q132 ?_
        refine g_if_eq X 45 dX4_plain_32 (by decide) (fun hc => ?_) (fun hc => ?_)
        · have h := h.1 hc
          refine g_dconst0 X dX4_plain_45 ?_
          exact g_dret X hr dX4_plain_46 h
        · have h := h.2 hc
          refine g_aload X 0 dX4_plain_35 rfl ?_
          refine g_iload_n X 3 dX4_plain_37 rfl rfl ?_
          refine g_iload_n X 4 dX4_plain_38 rfl rfl ?_
          refine g_callVI X (C := RX2) (T := TX2) (N := 6) (n := 2) [.int x2, .int x3] [] dX4_plain_39 (c_X2_has l D cA shC (rowC_sh (vp_in_lt hi3)) h) q244 q245 q246 q51 q247 (rowSh.b0 (rowC_sh (vp_in_lt hi3))) (rowSh.k0 (rowC_sh (vp_in_lt hi3))) rfl ⟨rfl, by decide, by decide, by decide +kernel⟩ rfl rfl (Nat.le_of_ble_eq_true rfl) rfl rfl ⟨(Nat.le_of_ble_eq_true rfl), (Nat.le_of_ble_eq_true rfl)⟩ (Nat.le_of_ble_eq_true rfl) (Nat.le_of_ble_eq_true rfl) (fun r5 σ4 h => ?_)
          refine g_if_ne X 47 dX4_plain_42 (by decide) (fun hc => ?_) (fun hc => ?_)
          · have h := h.1 hc
            refine g_aload X 0 dX4_plain_47 rfl ?_
            refine g_iload_n X 3 dX4_plain_49 rfl rfl ?_
            refine g_iload_n X 4 dX4_plain_50 rfl rfl ?_
            refine g_callVD X (C := RX2) (T := TX2) (N := 6) (n := 2) [.int x2, .int x3] [] dX4_plain_51 (c_X2_summedPlainly l D cA shC (rowC_sh (vp_in_lt hi3)) h) q397 q398 q399 q51 q400 (rowSh.b0 (rowC_sh (vp_in_lt hi3))) (rowSh.k0 (rowC_sh (vp_in_lt hi3))) rfl ⟨rfl, by decide, by decide, by decide +kernel⟩ rfl rfl (Nat.le_of_ble_eq_true rfl) rfl rfl ⟨(Nat.le_of_ble_eq_true rfl), (Nat.le_of_ble_eq_true rfl)⟩ (Nat.le_of_ble_eq_true rfl) (Nat.le_of_ble_eq_true rfl) (fun r7 σ6 h => ?_)
            exact g_dret X hr dX4_plain_54 h
          · have h := h.2 hc
            refine g_dconst0 X dX4_plain_45 ?_
            exact g_dret X hr dX4_plain_46 h
      · have h := h.2 hc
        refine g_dconst0 X dX4_plain_17 ?_
        exact g_dret X hr dX4_plain_18 h
theorem c_X4_plain (l : Launch) (D : va_G) (cA : Nat → ClassId) {x1 : Int32} {x2 : Int32} {x3 : Int32} {σ : St} {Q : UInt64 → St → Prop} (h : w_X4_plain Q x1 x2 x3 σ) : CtD l yX4_plain cX4_plain 5 (some .double) rmX4_plain D cA shC [.ref 0, .int x1, .int x2, .int x3] σ Q := by
  refine CtD.of (own := RX4) rfl (by decide +kernel) [(0, .ref 0), (1, .int x1), (2, .int x2), (3, .int x3)] rfl (Nat.le_of_ble_eq_true rfl) ?_
  intro p e s m args below meth c ad0 A X hr
  exact b_X4_plain_0 X hr  h
def rmX4_findingOf : Room := { frames := 1, cells := 0, slots := 0, locals := 20 }
def w_X4_findingOf (Q : Int32 → St → Prop) (x1 : Int32) (σ : St) : Prop := w_X4_isKeeper (fun r2 σ1 => ((¬ r2 = 0 → vp_in x1 6 ∧ (((gI σ1 (keepC (ix x1)) 0) = 0 → (Q (-11 : Int32) σ1)) ∧ (¬ (gI σ1 (keepC (ix x1)) 0) = 0 → (Q (0 : Int32) σ1)))) ∧ (r2 = 0 → (Q (-3 : Int32) σ1)))) x1 σ
set_option maxRecDepth 100000 in
set_option maxHeartbeats 4000000 in
theorem b_X4_findingOf_0 {p : Program} {l : Launch} {e : Env} {s : State} {m : MethodId} {args : Array Value} {below : List Frame} {meth : Method} {c : Code} {D : va_G} {cA : Nat → ClassId} {A : Nat → Prop} {ad0 : Nat → Nat} {Q : Int32 → St → Prop} {x1 : Int32} {σ : St} (X : Cx p rmX4_findingOf s m args meth c cX4_findingOf 2 RX4 D cA A) (hr : meth.sig.returnType = some .int) (h : w_X4_findingOf Q x1 σ) : G p l e rmX4_findingOf s m args below meth c 2 D cA A (MQ below (va_Qi Q (EndW D cA ad0 shC) A) args s 0 0 A) 0 0 (fun ad => ad = ad0) shC σ [(0, .ref 0), (1, .int x1)] 0 [] := by
  unfold w_X4_findingOf at h
  refine g_iload_n X 1 dX4_findingOf_0 rfl rfl ?_
  refine g_callSI X (n := 1) [.int x1] [] dX4_findingOf_1 (c_X4_isKeeper l D cA shC h) q312 q313 q47 q314 ⟨by decide, by decide, by decide +kernel⟩ rfl rfl (Nat.le_of_ble_eq_true rfl) rfl rfl ⟨(Nat.le_of_ble_eq_true rfl), (Nat.le_of_ble_eq_true rfl)⟩ (Nat.le_of_ble_eq_true rfl) (Nat.le_of_ble_eq_true rfl) (fun r2 σ1 h => ?_)
  refine g_if_ne X 10 dX4_findingOf_4 (by decide) (fun hc => ?_) (fun hc => ?_)
  · have h := h.1 hc
    refine g_aload_n X 0 dX4_findingOf_10 rfl rfl ?_
    refine g_getR X (C := RX4) (T := TX4) (N := 7) 1 dX4_findingOf_11 (Nat.le_of_ble_eq_true rfl) rfl rfl rfl inG4 (Nat.le_of_ble_eq_true rfl) rfl rfl q206 ?_
    refine g_iload_n X 1 dX4_findingOf_14 rfl rfl ?_
    obtain ⟨hi3, h⟩ := h
    refine g_aald X (C := RX1) (t := 1) dX4_findingOf_15 (Nat.le_of_ble_eq_true rfl) rfl rfl hi3 (keepC_r (vp_in_lt hi3)) ?_
    refine g_getI X (C := RX1) (T := TX1) (N := 4) 0 dX4_findingOf_16 (keepSh.b0 (keepC_sh (vp_in_lt hi3))) (keepSh.k0 (keepC_sh (vp_in_lt hi3))) rfl rfl inG1 (Nat.le_of_ble_eq_true rfl) rfl q84 ?_
    refine g_if_eq X 26 dX4_findingOf_19 (by decide) (fun hc => ?_) (fun hc => ?_)
    · have h := h.1 hc
      refine g_bipush X (-11 : Int32) dX4_findingOf_26 (by decide) ?_
      exact g_iret X hr dX4_findingOf_28 rfl h
    · have h := h.2 hc
      refine g_iconst X (0 : Int32) dX4_findingOf_22 (by decide) ?_
      refine g_goto X 28 dX4_findingOf_23 (by decide) ?_
      exact g_iret X hr dX4_findingOf_28 rfl h
  · have h := h.2 hc
    refine g_bipush X (-3 : Int32) dX4_findingOf_7 (by decide) ?_
    exact g_iret X hr dX4_findingOf_9 rfl h
theorem c_X4_findingOf (l : Launch) (D : va_G) (cA : Nat → ClassId) {x1 : Int32} {σ : St} {Q : Int32 → St → Prop} (h : w_X4_findingOf Q x1 σ) : CtI l yX4_findingOf cX4_findingOf 2 (some .int) rmX4_findingOf D cA shC [.ref 0, .int x1] σ Q := by
  refine CtI.of (own := RX4) rfl (by decide +kernel) [(0, .ref 0), (1, .int x1)] rfl (Nat.le_of_ble_eq_true rfl) ?_
  intro p e s m args below meth c ad0 A X hr
  exact b_X4_findingOf_0 X hr  h
def rmX4_sort : Room := { frames := 2, cells := 0, slots := 0, locals := 41 }
def w_X4_sort (Q : Int32 → St → Prop) (x1 : Int32) (σ : St) : Prop := w_X4_findingOf (fun r2 σ1 => ((r2 = 0 → vp_in x1 6 ∧ w_X1_state (keepC (ix x1)) (fun r5 σ4 => (Q r5 σ4)) σ1) ∧ (¬ r2 = 0 → (Q r2 σ1)))) x1 σ
set_option maxRecDepth 100000 in
set_option maxHeartbeats 4000000 in
theorem b_X4_sort_0 {p : Program} {l : Launch} {e : Env} {s : State} {m : MethodId} {args : Array Value} {below : List Frame} {meth : Method} {c : Code} {D : va_G} {cA : Nat → ClassId} {A : Nat → Prop} {ad0 : Nat → Nat} {Q : Int32 → St → Prop} {x1 : Int32} {σ : St} (X : Cx p rmX4_sort s m args meth c cX4_sort 3 RX4 D cA A) (hr : meth.sig.returnType = some .int) (h : w_X4_sort Q x1 σ) : G p l e rmX4_sort s m args below meth c 3 D cA A (MQ below (va_Qi Q (EndW D cA ad0 shC) A) args s 0 0 A) 0 0 (fun ad => ad = ad0) shC σ [(0, .ref 0), (1, .int x1)] 0 [] := by
  unfold w_X4_sort at h
  refine g_aload_n X 0 dX4_sort_0 rfl rfl ?_
  refine g_iload_n X 1 dX4_sort_1 rfl rfl ?_
  refine g_callVI X (C := RX4) (T := TX4) (N := 7) (n := 1) [.int x1] [] dX4_sort_2 (c_X4_findingOf l D cA h) q425 q427 q10 q47 q428 (Nat.le_of_ble_eq_true rfl) rfl rfl ⟨rfl, by decide, by decide, by decide +kernel⟩ rfl rfl (Nat.le_of_ble_eq_true rfl) rfl rfl ⟨(Nat.le_of_ble_eq_true rfl), (Nat.le_of_ble_eq_true rfl)⟩ (Nat.le_of_ble_eq_true rfl) (Nat.le_of_ble_eq_true rfl) (fun r2 σ1 h => ?_)
  refine g_istore_n X [(2, .int r2), (0, .ref 0), (1, .int x1)] dX4_sort_5 rfl (Nat.le_of_ble_eq_true rfl) rfl ?_
  refine g_iload_n X 0 dX4_sort_6 rfl rfl ?_
  refine g_if_eq X 14 dX4_sort_7 (by decide) (fun hc => ?_) (fun hc => ?_)
  · have h := h.1 hc
    refine g_aload_n X 1 dX4_sort_14 rfl rfl ?_
    refine g_getR X (C := RX4) (T := TX4) (N := 7) 1 dX4_sort_15 (Nat.le_of_ble_eq_true rfl) rfl rfl rfl inG4 (Nat.le_of_ble_eq_true rfl) rfl rfl q206 ?_
    refine g_iload_n X 2 dX4_sort_18 rfl rfl ?_
    obtain ⟨hi3, h⟩ := h
    refine g_aald X (C := RX1) (t := 1) dX4_sort_19 (Nat.le_of_ble_eq_true rfl) rfl rfl hi3 (keepC_r (vp_in_lt hi3)) ?_
    refine g_callVI X (C := RX1) (T := TX1) (N := 4) (n := 0) [] [] dX4_sort_20 (c_X1_state l D cA shC (keepC_sh (vp_in_lt hi3)) h) q429 q430 q431 q49 q432 (keepSh.b0 (keepC_sh (vp_in_lt hi3))) (keepSh.k0 (keepC_sh (vp_in_lt hi3))) rfl ⟨rfl, by decide, by decide, by decide +kernel⟩ rfl rfl (Nat.le_of_ble_eq_true rfl) rfl rfl ⟨(Nat.le_of_ble_eq_true rfl), (Nat.le_of_ble_eq_true rfl)⟩ (Nat.le_of_ble_eq_true rfl) (Nat.le_of_ble_eq_true rfl) (fun r5 σ4 h => ?_)
    exact g_iret X hr dX4_sort_23 rfl h
  · have h := h.2 hc
    refine g_iload_n X 0 dX4_sort_10 rfl rfl ?_
    refine g_goto X 23 dX4_sort_11 (by decide) ?_
    exact g_iret X hr dX4_sort_23 rfl h
theorem c_X4_sort (l : Launch) (D : va_G) (cA : Nat → ClassId) {x1 : Int32} {σ : St} {Q : Int32 → St → Prop} (h : w_X4_sort Q x1 σ) : CtI l yX4_sort cX4_sort 3 (some .int) rmX4_sort D cA shC [.ref 0, .int x1] σ Q := by
  refine CtI.of (own := RX4) rfl (by decide +kernel) [(0, .ref 0), (1, .int x1)] rfl (Nat.le_of_ble_eq_true rfl) ?_
  intro p e s m args below meth c ad0 A X hr
  exact b_X4_sort_0 X hr  h
def rmX4_seen : Room := { frames := 1, cells := 0, slots := 0, locals := 20 }
def w_X4_seen (Q : Int32 → St → Prop) (x1 : Int32) (x2 : Int32) (σ : St) : Prop := w_X4_isKeeper (fun r2 σ1 => ((r2 = 0 → (Q (-3 : Int32) σ1)) ∧ (¬ r2 = 0 → ((x2 < 0 → (Q (-3 : Int32) σ1)) ∧ (¬ x2 < 0 → ((x2 ≤ (2 : Int32) → vp_in x1 6 ∧ (((gI σ1 (keepC (ix x1)) 0) = 0 → (Q (-11 : Int32) σ1)) ∧ (¬ (gI σ1 (keepC (ix x1)) 0) = 0 → vp_in x2 3 ∧ (Q (gI σ1 ((keepC (ix x1)) + 1) (ix x2)) σ1)))) ∧ (¬ x2 ≤ (2 : Int32) → (Q (-3 : Int32) σ1)))))))) x1 σ
set_option maxRecDepth 100000 in
set_option maxHeartbeats 4000000 in
theorem b_X4_seen_0 {p : Program} {l : Launch} {e : Env} {s : State} {m : MethodId} {args : Array Value} {below : List Frame} {meth : Method} {c : Code} {D : va_G} {cA : Nat → ClassId} {A : Nat → Prop} {ad0 : Nat → Nat} {Q : Int32 → St → Prop} {x1 : Int32} {x2 : Int32} {σ : St} (X : Cx p rmX4_seen s m args meth c cX4_seen 4 RX4 D cA A) (hr : meth.sig.returnType = some .int) (h : w_X4_seen Q x1 x2 σ) : G p l e rmX4_seen s m args below meth c 4 D cA A (MQ below (va_Qi Q (EndW D cA ad0 shC) A) args s 0 0 A) 0 0 (fun ad => ad = ad0) shC σ [(0, .ref 0), (1, .int x1), (2, .int x2)] 0 [] := by
  unfold w_X4_seen at h
  refine g_iload_n X 1 dX4_seen_0 rfl rfl ?_
  refine g_callSI X (n := 1) [.int x1] [] dX4_seen_1 (c_X4_isKeeper l D cA shC h) q312 q313 q47 q314 ⟨by decide, by decide, by decide +kernel⟩ rfl rfl (Nat.le_of_ble_eq_true rfl) rfl rfl ⟨(Nat.le_of_ble_eq_true rfl), (Nat.le_of_ble_eq_true rfl)⟩ (Nat.le_of_ble_eq_true rfl) (Nat.le_of_ble_eq_true rfl) (fun r2 σ1 h => ?_)
  refine g_if_eq X 16 dX4_seen_4 (by decide) (fun hc => ?_) (fun hc => ?_)
  · have h := h.1 hc
    refine g_bipush X (-3 : Int32) dX4_seen_16 (by decide) ?_
    exact g_iret X hr dX4_seen_18 rfl h
  · have h := h.2 hc
    refine g_iload_n X 2 dX4_seen_7 rfl rfl ?_
    refine g_if_lt X 16 dX4_seen_8 (by decide) (fun hc => ?_) (fun hc => ?_)
    · have h := h.1 hc
      refine g_bipush X (-3 : Int32) dX4_seen_16 (by decide) ?_
      exact g_iret X hr dX4_seen_18 rfl h
    · have h := h.2 hc
      refine g_iload_n X 2 dX4_seen_11 rfl rfl ?_
      refine g_iconst X (2 : Int32) dX4_seen_12 (by decide) ?_
      refine g_icmp_le X 19 dX4_seen_13 (by decide) (fun hc => ?_) (fun hc => ?_)
      · have h := h.1 hc
        refine g_aload_n X 0 dX4_seen_19 rfl rfl ?_
        refine g_getR X (C := RX4) (T := TX4) (N := 7) 1 dX4_seen_20 (Nat.le_of_ble_eq_true rfl) rfl rfl rfl inG4 (Nat.le_of_ble_eq_true rfl) rfl rfl q206 ?_
        refine g_iload_n X 1 dX4_seen_23 rfl rfl ?_
        obtain ⟨hi3, h⟩ := h
        refine g_aald X (C := RX1) (t := 1) dX4_seen_24 (Nat.le_of_ble_eq_true rfl) rfl rfl hi3 (keepC_r (vp_in_lt hi3)) ?_
        refine g_astore_n X [(3, .ref (keepC (ix x1))), (0, .ref 0), (1, .int x1), (2, .int x2)] dX4_seen_25 rfl (Nat.le_of_ble_eq_true rfl) rfl ?_
        refine g_aload_n X 0 dX4_seen_26 rfl rfl ?_
        refine g_getI X (C := RX1) (T := TX1) (N := 4) 0 dX4_seen_27 (keepSh.b0 (keepC_sh (vp_in_lt hi3))) (keepSh.k0 (keepC_sh (vp_in_lt hi3))) rfl rfl inG1 (Nat.le_of_ble_eq_true rfl) rfl q84 ?_
        refine g_if_eq X 42 dX4_seen_30 (by decide) (fun hc => ?_) (fun hc => ?_)
        · have h := h.1 hc
          refine g_bipush X (-11 : Int32) dX4_seen_42 (by decide) ?_
          exact g_iret X hr dX4_seen_44 rfl h
        · have h := h.2 hc
          refine g_aload_n X 0 dX4_seen_33 rfl rfl ?_
          refine g_getR X (C := RX1) (T := TX1) (N := 4) 2 dX4_seen_34 (keepSh.b0 (keepC_sh (vp_in_lt hi3))) (keepSh.k0 (keepC_sh (vp_in_lt hi3))) rfl rfl inG1 (Nat.le_of_ble_eq_true rfl) rfl (keepSh.r2 (keepC_sh (vp_in_lt hi3))) q88 ?_
          refine g_iload_n X 3 dX4_seen_37 rfl rfl ?_
          obtain ⟨hi4, h⟩ := h
          refine g_iald X dX4_seen_38 (keepSh.b1 (keepC_sh (vp_in_lt hi3))) (keepSh.k1 (keepC_sh (vp_in_lt hi3))) hi4 ?_
          refine g_goto X 44 dX4_seen_39 (by decide) ?_
          exact g_iret X hr dX4_seen_44 rfl h
      · have h := h.2 hc
        refine g_bipush X (-3 : Int32) dX4_seen_16 (by decide) ?_
        exact g_iret X hr dX4_seen_18 rfl h
theorem c_X4_seen (l : Launch) (D : va_G) (cA : Nat → ClassId) {x1 : Int32} {x2 : Int32} {σ : St} {Q : Int32 → St → Prop} (h : w_X4_seen Q x1 x2 σ) : CtI l yX4_seen cX4_seen 4 (some .int) rmX4_seen D cA shC [.ref 0, .int x1, .int x2] σ Q := by
  refine CtI.of (own := RX4) rfl (by decide +kernel) [(0, .ref 0), (1, .int x1), (2, .int x2)] rfl (Nat.le_of_ble_eq_true rfl) ?_
  intro p e s m args below meth c ad0 A X hr
  exact b_X4_seen_0 X hr  h
def rmX4_isWay : Room := { frames := 0, cells := 0, slots := 0, locals := 0 }
def w_X4_isWay (Q : Int32 → St → Prop) (x0 : Int32) (σ : St) : Prop := ((x0 < 0 → (Q (0 : Int32) σ)) ∧ (¬ x0 < 0 → (((3 : Int32) < x0 → (Q (0 : Int32) σ)) ∧ (¬ (3 : Int32) < x0 → (Q (1 : Int32) σ)))))
set_option maxRecDepth 100000 in
set_option maxHeartbeats 4000000 in
theorem b_X4_isWay_0 {p : Program} {l : Launch} {e : Env} {s : State} {m : MethodId} {args : Array Value} {below : List Frame} {meth : Method} {c : Code} {D : va_G} {cA : Nat → ClassId} {A : Nat → Prop} {ad0 : Nat → Nat} {sh : SH} {Q : Int32 → St → Prop} {x0 : Int32} {σ : St} (X : Cx p rmX4_isWay s m args meth c cX4_isWay 1 RX4 D cA A) (hr : meth.sig.returnType = some .boolean) (h : w_X4_isWay Q x0 σ) : G p l e rmX4_isWay s m args below meth c 1 D cA A (MQ below (va_Qi Q (EndW D cA ad0 sh) A) args s 0 0 A) 0 0 (fun ad => ad = ad0) sh σ [(0, .int x0)] 0 [] := by
  unfold w_X4_isWay at h
  refine g_iload_n X 0 dX4_isWay_0 rfl rfl ?_
  refine g_if_lt X 13 dX4_isWay_1 (by decide) (fun hc => ?_) (fun hc => ?_)
  · have h := h.1 hc
    refine g_iconst X (0 : Int32) dX4_isWay_13 (by decide) ?_
    exact g_iret X hr dX4_isWay_14 (by decide) h
  · have h := h.2 hc
    refine g_iload_n X 0 dX4_isWay_4 rfl rfl ?_
    refine g_iconst X (3 : Int32) dX4_isWay_5 (by decide) ?_
    refine g_icmp_gt X 13 dX4_isWay_6 (by decide) (fun hc => ?_) (fun hc => ?_)
    · have h := h.1 hc
      refine g_iconst X (0 : Int32) dX4_isWay_13 (by decide) ?_
      exact g_iret X hr dX4_isWay_14 (by decide) h
    · have h := h.2 hc
      refine g_iconst X (1 : Int32) dX4_isWay_9 (by decide) ?_
      refine g_goto X 14 dX4_isWay_10 (by decide) ?_
      exact g_iret X hr dX4_isWay_14 (by decide) h
theorem c_X4_isWay (l : Launch) (D : va_G) (cA : Nat → ClassId) (sh : SH) {x0 : Int32} {σ : St} {Q : Int32 → St → Prop} (h : w_X4_isWay Q x0 σ) : CtI l yX4_isWay cX4_isWay 1 (some .boolean) rmX4_isWay D cA sh [.int x0] σ Q := by
  refine CtI.of (own := RX4) rfl (by decide +kernel) [(0, .int x0)] rfl (Nat.le_of_ble_eq_true rfl) ?_
  intro p e s m args below meth c ad0 A X hr
  exact b_X4_isWay_0 X hr  h
def rmX4_sharedOut : Room := { frames := 5, cells := 0, slots := 0, locals := 124 }
def w_X4_sharedOut (Q : UInt64 → St → Prop) (k1 : Nat) (x2 : Int32) (x3 : Int32) (x4 : Int32) (σ : St) : Prop := w_X1_state k1 (fun r2 σ1 => ((r2 = 1 → w_X4_endless (fun r4 σ3 => (Q r4 σ3)) σ1) ∧ (r2 = 2 → w_X4_endless (fun r6 σ5 => (Q (FP.dneg r6) σ5)) σ1) ∧ (r2 = 3 → (Q FP.dconst0 σ1)) ∧ (¬ r2 = 1 → ¬ r2 = 2 → ¬ r2 = 3 → w_X3_load (fun σ7 => w_X3_divideBy (fun r9 σ8 => w_X1_isBelow k1 (fun r11 σ10 => w_X3_rounded (fun r13 σ12 => (Q r13 σ12)) r11 r9 x3 x4 σ10) σ8) x2 σ7) k1 σ1))) σ
set_option maxRecDepth 100000 in
set_option maxHeartbeats 4000000 in
theorem b_X4_sharedOut_0 {p : Program} {l : Launch} {e : Env} {s : State} {m : MethodId} {args : Array Value} {below : List Frame} {meth : Method} {c : Code} {D : va_G} {cA : Nat → ClassId} {A : Nat → Prop} {ad0 : Nat → Nat} {Q : UInt64 → St → Prop} {k1 : Nat} {x2 : Int32} {x3 : Int32} {x4 : Int32} {σ : St} (X : Cx p rmX4_sharedOut s m args meth c cX4_sharedOut 6 RX4 D cA A) (hr : meth.sig.returnType = some .double) (hk1 : keepSh shC k1) (h : w_X4_sharedOut Q k1 x2 x3 x4 σ) : G p l e rmX4_sharedOut s m args below meth c 6 D cA A (MQ below (va_Qd Q (EndW D cA ad0 shC) A) args s 0 0 A) 0 0 (fun ad => ad = ad0) shC σ [(0, .ref 0), (1, .ref k1), (2, .int x2), (3, .int x3), (4, .int x4)] 0 [] := by
  unfold w_X4_sharedOut at h
  refine g_aload_n X 1 dX4_sharedOut_0 rfl rfl ?_
  refine g_callVI X (C := RX1) (T := TX1) (N := 4) (n := 0) [] [] dX4_sharedOut_1 (c_X1_state l D cA shC hk1 h) q429 q430 q431 q49 q432 (keepSh.b0 hk1) (keepSh.k0 hk1) rfl ⟨rfl, by decide, by decide, by decide +kernel⟩ rfl rfl (Nat.le_of_ble_eq_true rfl) rfl rfl ⟨(Nat.le_of_ble_eq_true rfl), (Nat.le_of_ble_eq_true rfl)⟩ (Nat.le_of_ble_eq_true rfl) (Nat.le_of_ble_eq_true rfl) (fun r2 σ1 h => ?_)
  by_cases hc0 : r2 = 1
  · have h := h.1 hc0
    refine g_tabIn X 32 (28) dX4_sharedOut_4 (by rw [hc0]; decide) (by rw [hc0]; decide) (by rw [hc0]; rfl) (by decide) ?_
    refine g_callSD X (n := 0) [] [] dX4_sharedOut_32 (c_X4_endless l D cA shC h) q448 q288 q47 q289 ⟨by decide, by decide, by decide +kernel⟩ rfl rfl (Nat.le_of_ble_eq_true rfl) rfl rfl ⟨(Nat.le_of_ble_eq_true rfl), (Nat.le_of_ble_eq_true rfl)⟩ (Nat.le_of_ble_eq_true rfl) (Nat.le_of_ble_eq_true rfl) (fun r4 σ3 h => ?_)
    exact g_dret X hr dX4_sharedOut_35 h
  by_cases hc1 : r2 = 2
  · have h := h.2.1 hc1
    refine g_tabIn X 36 (32) dX4_sharedOut_4 (by rw [hc1]; decide) (by rw [hc1]; decide) (by rw [hc1]; rfl) (by decide) ?_
    refine g_callSD X (n := 0) [] [] dX4_sharedOut_36 (c_X4_endless l D cA shC h) q448 q288 q47 q289 ⟨by decide, by decide, by decide +kernel⟩ rfl rfl (Nat.le_of_ble_eq_true rfl) rfl rfl ⟨(Nat.le_of_ble_eq_true rfl), (Nat.le_of_ble_eq_true rfl)⟩ (Nat.le_of_ble_eq_true rfl) (Nat.le_of_ble_eq_true rfl) (fun r6 σ5 h => ?_)
    refine g_dneg X dX4_sharedOut_39 ?_
    exact g_dret X hr dX4_sharedOut_40 h
  by_cases hc2 : r2 = 3
  · have h := h.2.2.1 hc2
    refine g_tabIn X 41 (37) dX4_sharedOut_4 (by rw [hc2]; decide) (by rw [hc2]; decide) (by rw [hc2]; rfl) (by decide) ?_
    refine g_dconst0 X dX4_sharedOut_41 ?_
    exact g_dret X hr dX4_sharedOut_42 h
  have h := h.2.2.2 hc0 hc1 hc2
  refine g_tabOut X 43 dX4_sharedOut_4 (by have e0 := lv_neT (a := 1) hc0 rfl; have e1 := lv_neT (a := 2) hc1 rfl; have e2 := lv_neT (a := 3) hc2 rfl; omega) (by decide) ?_
  refine g_aload_n X 0 dX4_sharedOut_43 rfl rfl ?_
  refine g_getR X (C := RX4) (T := TX4) (N := 7) 3 dX4_sharedOut_44 (Nat.le_of_ble_eq_true rfl) rfl rfl rfl inG4 (Nat.le_of_ble_eq_true rfl) rfl rfl q208 ?_
  refine g_aload_n X 1 dX4_sharedOut_47 rfl rfl ?_
  refine g_callVV X (C := RX3) (T := TX3) (N := 1) (n := 1) [.ref k1] [] dX4_sharedOut_48 (c_X3_load l D cA hk1 h) q449 q450 q451 q50 q452 (Nat.le_of_ble_eq_true rfl) rfl rfl ⟨rfl, by decide, by decide, by decide +kernel⟩ rfl rfl (Nat.le_of_ble_eq_true rfl) rfl rfl ⟨(Nat.le_of_ble_eq_true rfl), (Nat.le_of_ble_eq_true rfl)⟩ (Nat.le_of_ble_eq_true rfl) (Nat.le_of_ble_eq_true rfl) (fun σ7 h => ?_)
  refine g_aload_n X 0 dX4_sharedOut_51 rfl rfl ?_
  refine g_getR X (C := RX4) (T := TX4) (N := 7) 3 dX4_sharedOut_52 (Nat.le_of_ble_eq_true rfl) rfl rfl rfl inG4 (Nat.le_of_ble_eq_true rfl) rfl rfl q208 ?_
  refine g_iload_n X 2 dX4_sharedOut_55 rfl rfl ?_
  refine g_callVI X (C := RX3) (T := TX3) (N := 1) (n := 1) [.int x2] [] dX4_sharedOut_56 (c_X3_divideBy l D cA h) q458 q459 q460 q50 q461 (Nat.le_of_ble_eq_true rfl) rfl rfl ⟨rfl, by decide, by decide, by decide +kernel⟩ rfl rfl (Nat.le_of_ble_eq_true rfl) rfl rfl ⟨(Nat.le_of_ble_eq_true rfl), (Nat.le_of_ble_eq_true rfl)⟩ (Nat.le_of_ble_eq_true rfl) (Nat.le_of_ble_eq_true rfl) (fun r9 σ8 h => ?_)
  refine g_istore X [(5, .int r9), (0, .ref 0), (1, .ref k1), (2, .int x2), (3, .int x3), (4, .int x4)] dX4_sharedOut_59 (Nat.le_of_ble_eq_true rfl) rfl ?_
  refine g_aload_n X 1 dX4_sharedOut_61 rfl rfl ?_
  refine g_getR X (C := RX4) (T := TX4) (N := 7) 3 dX4_sharedOut_62 (Nat.le_of_ble_eq_true rfl) rfl rfl rfl inG4 (Nat.le_of_ble_eq_true rfl) rfl rfl q208 ?_
  refine g_aload_n X 2 dX4_sharedOut_65 rfl rfl ?_
  refine g_callVI X (C := RX1) (T := TX1) (N := 4) (n := 0) [] [.ref 42] dX4_sharedOut_66 (c_X1_isBelow l D cA shC hk1 h) q462 q454 q455 q49 q456 (keepSh.b0 hk1) (keepSh.k0 hk1) rfl ⟨rfl, by decide, by decide, by decide +kernel⟩ rfl rfl (Nat.le_of_ble_eq_true rfl) rfl rfl ⟨(Nat.le_of_ble_eq_true rfl), (Nat.le_of_ble_eq_true rfl)⟩ (Nat.le_of_ble_eq_true rfl) (Nat.le_of_ble_eq_true rfl) (fun r11 σ10 h => ?_)
  refine g_iload X 0 dX4_sharedOut_69 rfl ?_
  refine g_iload_n X 4 dX4_sharedOut_71 rfl rfl ?_
  refine g_iload X 5 dX4_sharedOut_72 rfl ?_
  refine g_callVD X (C := RX3) (T := TX3) (N := 1) (n := 4) [.int r11, .int r9, .int x3, .int x4] [] dX4_sharedOut_74 (c_X3_rounded l D cA h) q463 q464 q465 q50 q466 (Nat.le_of_ble_eq_true rfl) rfl rfl ⟨rfl, by decide, by decide, by decide +kernel⟩ rfl rfl (Nat.le_of_ble_eq_true rfl) rfl rfl ⟨(Nat.le_of_ble_eq_true rfl), (Nat.le_of_ble_eq_true rfl)⟩ (Nat.le_of_ble_eq_true rfl) (Nat.le_of_ble_eq_true rfl) (fun r13 σ12 h => ?_)
  exact g_dret X hr dX4_sharedOut_77 h
theorem c_X4_sharedOut (l : Launch) (D : va_G) (cA : Nat → ClassId) {k1 : Nat} {x2 : Int32} {x3 : Int32} {x4 : Int32} {σ : St} {Q : UInt64 → St → Prop} (hk1 : keepSh shC k1) (h : w_X4_sharedOut Q k1 x2 x3 x4 σ) : CtD l yX4_sharedOut cX4_sharedOut 6 (some .double) rmX4_sharedOut D cA shC [.ref 0, .ref k1, .int x2, .int x3, .int x4] σ Q := by
  refine CtD.of (own := RX4) rfl (by decide +kernel) [(0, .ref 0), (1, .ref k1), (2, .int x2), (3, .int x3), (4, .int x4)] rfl (Nat.le_of_ble_eq_true rfl) ?_
  intro p e s m args below meth c ad0 A X hr
  exact b_X4_sharedOut_0 X hr hk1 h
def rmX4_tell : Room := { frames := 6, cells := 0, slots := 0, locals := 149 }
def w_X4_tell (Q : UInt64 → St → Prop) (x1 : Int32) (x2 : Int32) (x3 : Int32) (σ : St) : Prop := w_X4_findingOf (fun r2 σ1 => ((¬ r2 = 0 → (Q FP.dconst0 σ1)) ∧ (r2 = 0 → w_X4_isWay (fun r4 σ3 => ((¬ r4 = 0 → vp_in x1 6 ∧ w_X4_sharedOut (fun r7 σ6 => (Q r7 σ6)) (keepC (ix x1)) (1 : Int32) x2 x3 σ3) ∧ (r4 = 0 → (Q FP.dconst0 σ3)))) x2 σ1))) x1 σ
set_option maxRecDepth 100000 in
set_option maxHeartbeats 4000000 in
theorem b_X4_tell_0 {p : Program} {l : Launch} {e : Env} {s : State} {m : MethodId} {args : Array Value} {below : List Frame} {meth : Method} {c : Code} {D : va_G} {cA : Nat → ClassId} {A : Nat → Prop} {ad0 : Nat → Nat} {Q : UInt64 → St → Prop} {x1 : Int32} {x2 : Int32} {x3 : Int32} {σ : St} (X : Cx p rmX4_tell s m args meth c cX4_tell 4 RX4 D cA A) (hr : meth.sig.returnType = some .double) (h : w_X4_tell Q x1 x2 x3 σ) : G p l e rmX4_tell s m args below meth c 4 D cA A (MQ below (va_Qd Q (EndW D cA ad0 shC) A) args s 0 0 A) 0 0 (fun ad => ad = ad0) shC σ [(0, .ref 0), (1, .int x1), (2, .int x2), (3, .int x3)] 0 [] := by
  unfold w_X4_tell at h
  refine g_aload_n X 0 dX4_tell_0 rfl rfl ?_
  refine g_iload_n X 1 dX4_tell_1 rfl rfl ?_
  refine g_callVI X (C := RX4) (T := TX4) (N := 7) (n := 1) [.int x1] [] dX4_tell_2 (c_X4_findingOf l D cA h) q425 q427 q10 q47 q428 (Nat.le_of_ble_eq_true rfl) rfl rfl ⟨rfl, by decide, by decide, by decide +kernel⟩ rfl rfl (Nat.le_of_ble_eq_true rfl) rfl rfl ⟨(Nat.le_of_ble_eq_true rfl), (Nat.le_of_ble_eq_true rfl)⟩ (Nat.le_of_ble_eq_true rfl) (Nat.le_of_ble_eq_true rfl) (fun r2 σ1 h => ?_)
  refine g_if_ne X 15 dX4_tell_5 (by decide) (fun hc => ?_) (fun hc => ?_)
  · have h := h.1 hc
    refine g_dconst0 X dX4_tell_15 ?_
    exact g_dret X hr dX4_tell_16 h
  · have h := h.2 hc
    refine g_iload_n X 2 dX4_tell_8 rfl rfl ?_
    refine g_callSI X (n := 1) [.int x2] [] dX4_tell_9 (c_X4_isWay l D cA shC h) q441 q442 q47 q443 ⟨by decide, by decide, by decide +kernel⟩ rfl rfl (Nat.le_of_ble_eq_true rfl) rfl rfl ⟨(Nat.le_of_ble_eq_true rfl), (Nat.le_of_ble_eq_true rfl)⟩ (Nat.le_of_ble_eq_true rfl) (Nat.le_of_ble_eq_true rfl) (fun r4 σ3 h => ?_)
    refine g_if_ne X 17 dX4_tell_12 (by decide) (fun hc => ?_) (fun hc => ?_)
    · have h := h.1 hc
      refine g_aload_n X 0 dX4_tell_17 rfl rfl ?_
      refine g_aload_n X 0 dX4_tell_18 rfl rfl ?_
      refine g_getR X (C := RX4) (T := TX4) (N := 7) 1 dX4_tell_19 (Nat.le_of_ble_eq_true rfl) rfl rfl rfl inG4 (Nat.le_of_ble_eq_true rfl) rfl rfl q206 ?_
      refine g_iload_n X 1 dX4_tell_22 rfl rfl ?_
      obtain ⟨hi5, h⟩ := h
      refine g_aald X (C := RX1) (t := 1) dX4_tell_23 (Nat.le_of_ble_eq_true rfl) rfl rfl hi5 (keepC_r (vp_in_lt hi5)) ?_
      refine g_iconst X (1 : Int32) dX4_tell_24 (by decide) ?_
      refine g_iload_n X 2 dX4_tell_25 rfl rfl ?_
      refine g_iload_n X 3 dX4_tell_26 rfl rfl ?_
      refine g_callVD X (C := RX4) (T := TX4) (N := 7) (n := 4) [.ref (keepC (ix x1)), .int (1 : Int32), .int x2, .int x3] [] dX4_tell_27 (c_X4_sharedOut l D cA (keepC_sh (vp_in_lt hi5)) h) q444 q446 q11 q47 q447 (Nat.le_of_ble_eq_true rfl) rfl rfl ⟨rfl, by decide, by decide, by decide +kernel⟩ rfl rfl (Nat.le_of_ble_eq_true rfl) rfl rfl ⟨(Nat.le_of_ble_eq_true rfl), (Nat.le_of_ble_eq_true rfl)⟩ (Nat.le_of_ble_eq_true rfl) (Nat.le_of_ble_eq_true rfl) (fun r7 σ6 h => ?_)
      exact g_dret X hr dX4_tell_30 h
    · have h := h.2 hc
      refine g_dconst0 X dX4_tell_15 ?_
      exact g_dret X hr dX4_tell_16 h
theorem c_X4_tell (l : Launch) (D : va_G) (cA : Nat → ClassId) {x1 : Int32} {x2 : Int32} {x3 : Int32} {σ : St} {Q : UInt64 → St → Prop} (h : w_X4_tell Q x1 x2 x3 σ) : CtD l yX4_tell cX4_tell 4 (some .double) rmX4_tell D cA shC [.ref 0, .int x1, .int x2, .int x3] σ Q := by
  refine CtD.of (own := RX4) rfl (by decide +kernel) [(0, .ref 0), (1, .int x1), (2, .int x2), (3, .int x3)] rfl (Nat.le_of_ble_eq_true rfl) ?_
  intro p e s m args below meth c ad0 A X hr
  exact b_X4_tell_0 X hr  h
def rmX4_mean : Room := { frames := 6, cells := 0, slots := 0, locals := 149 }
def w_X4_mean (Q : UInt64 → St → Prop) (x1 : Int32) (x2 : Int32) (x3 : Int32) (σ : St) : Prop := w_X4_findingOf (fun r2 σ1 => ((¬ r2 = 0 → (Q FP.dconst0 σ1)) ∧ (r2 = 0 → w_X4_isWay (fun r4 σ3 => ((r4 = 0 → (Q FP.dconst0 σ3)) ∧ (¬ r4 = 0 → ((x2 < (1 : Int32) → (Q FP.dconst0 σ3)) ∧ (¬ x2 < (1 : Int32) → ((x2 ≤ (1000000 : Int32) → vp_in x1 6 ∧ w_X4_sharedOut (fun r7 σ6 => (Q r7 σ6)) (keepC (ix x1)) x2 x3 (0 : Int32) σ3) ∧ (¬ x2 ≤ (1000000 : Int32) → (Q FP.dconst0 σ3)))))))) x3 σ1))) x1 σ
set_option maxRecDepth 100000 in
set_option maxHeartbeats 4000000 in
theorem b_X4_mean_0 {p : Program} {l : Launch} {e : Env} {s : State} {m : MethodId} {args : Array Value} {below : List Frame} {meth : Method} {c : Code} {D : va_G} {cA : Nat → ClassId} {A : Nat → Prop} {ad0 : Nat → Nat} {Q : UInt64 → St → Prop} {x1 : Int32} {x2 : Int32} {x3 : Int32} {σ : St} (X : Cx p rmX4_mean s m args meth c cX4_mean 4 RX4 D cA A) (hr : meth.sig.returnType = some .double) (h : w_X4_mean Q x1 x2 x3 σ) : G p l e rmX4_mean s m args below meth c 4 D cA A (MQ below (va_Qd Q (EndW D cA ad0 shC) A) args s 0 0 A) 0 0 (fun ad => ad = ad0) shC σ [(0, .ref 0), (1, .int x1), (2, .int x2), (3, .int x3)] 0 [] := by
  unfold w_X4_mean at h
  refine g_aload_n X 0 dX4_mean_0 rfl rfl ?_
  refine g_iload_n X 1 dX4_mean_1 rfl rfl ?_
  refine g_callVI X (C := RX4) (T := TX4) (N := 7) (n := 1) [.int x1] [] dX4_mean_2 (c_X4_findingOf l D cA h) q425 q427 q10 q47 q428 (Nat.le_of_ble_eq_true rfl) rfl rfl ⟨rfl, by decide, by decide, by decide +kernel⟩ rfl rfl (Nat.le_of_ble_eq_true rfl) rfl rfl ⟨(Nat.le_of_ble_eq_true rfl), (Nat.le_of_ble_eq_true rfl)⟩ (Nat.le_of_ble_eq_true rfl) (Nat.le_of_ble_eq_true rfl) (fun r2 σ1 h => ?_)
  refine g_if_ne X 26 dX4_mean_5 (by decide) (fun hc => ?_) (fun hc => ?_)
  · have h := h.1 hc
    refine g_dconst0 X dX4_mean_26 ?_
    exact g_dret X hr dX4_mean_27 h
  · have h := h.2 hc
    refine g_iload_n X 3 dX4_mean_8 rfl rfl ?_
    refine g_callSI X (n := 1) [.int x3] [] dX4_mean_9 (c_X4_isWay l D cA shC h) q441 q442 q47 q443 ⟨by decide, by decide, by decide +kernel⟩ rfl rfl (Nat.le_of_ble_eq_true rfl) rfl rfl ⟨(Nat.le_of_ble_eq_true rfl), (Nat.le_of_ble_eq_true rfl)⟩ (Nat.le_of_ble_eq_true rfl) (Nat.le_of_ble_eq_true rfl) (fun r4 σ3 h => ?_)
    refine g_if_eq X 26 dX4_mean_12 (by decide) (fun hc => ?_) (fun hc => ?_)
    · have h := h.1 hc
      refine g_dconst0 X dX4_mean_26 ?_
      exact g_dret X hr dX4_mean_27 h
    · have h := h.2 hc
      refine g_iload_n X 2 dX4_mean_15 rfl rfl ?_
      refine g_iconst X (1 : Int32) dX4_mean_16 (by decide) ?_
      refine g_icmp_lt X 26 dX4_mean_17 (by decide) (fun hc => ?_) (fun hc => ?_)
      · have h := h.1 hc
        refine g_dconst0 X dX4_mean_26 ?_
        exact g_dret X hr dX4_mean_27 h
      · have h := h.2 hc
        refine g_iload_n X 2 dX4_mean_20 rfl rfl ?_
        refine g_ldc X q500 dX4_mean_21 ?_
        refine g_icmp_le X 28 dX4_mean_23 (by decide) (fun hc => ?_) (fun hc => ?_)
        · have h := h.1 hc
          refine g_aload_n X 0 dX4_mean_28 rfl rfl ?_
          refine g_aload_n X 0 dX4_mean_29 rfl rfl ?_
          refine g_getR X (C := RX4) (T := TX4) (N := 7) 1 dX4_mean_30 (Nat.le_of_ble_eq_true rfl) rfl rfl rfl inG4 (Nat.le_of_ble_eq_true rfl) rfl rfl q206 ?_
          refine g_iload_n X 1 dX4_mean_33 rfl rfl ?_
          obtain ⟨hi5, h⟩ := h
          refine g_aald X (C := RX1) (t := 1) dX4_mean_34 (Nat.le_of_ble_eq_true rfl) rfl rfl hi5 (keepC_r (vp_in_lt hi5)) ?_
          refine g_iload_n X 2 dX4_mean_35 rfl rfl ?_
          refine g_iload_n X 3 dX4_mean_36 rfl rfl ?_
          refine g_iconst X (0 : Int32) dX4_mean_37 (by decide) ?_
          refine g_callVD X (C := RX4) (T := TX4) (N := 7) (n := 4) [.ref (keepC (ix x1)), .int x2, .int x3, .int (0 : Int32)] [] dX4_mean_38 (c_X4_sharedOut l D cA (keepC_sh (vp_in_lt hi5)) h) q444 q446 q11 q47 q447 (Nat.le_of_ble_eq_true rfl) rfl rfl ⟨rfl, by decide, by decide, by decide +kernel⟩ rfl rfl (Nat.le_of_ble_eq_true rfl) rfl rfl ⟨(Nat.le_of_ble_eq_true rfl), (Nat.le_of_ble_eq_true rfl)⟩ (Nat.le_of_ble_eq_true rfl) (Nat.le_of_ble_eq_true rfl) (fun r7 σ6 h => ?_)
          exact g_dret X hr dX4_mean_41 h
        · have h := h.2 hc
          refine g_dconst0 X dX4_mean_26 ?_
          exact g_dret X hr dX4_mean_27 h
theorem c_X4_mean (l : Launch) (D : va_G) (cA : Nat → ClassId) {x1 : Int32} {x2 : Int32} {x3 : Int32} {σ : St} {Q : UInt64 → St → Prop} (h : w_X4_mean Q x1 x2 x3 σ) : CtD l yX4_mean cX4_mean 4 (some .double) rmX4_mean D cA shC [.ref 0, .int x1, .int x2, .int x3] σ Q := by
  refine CtD.of (own := RX4) rfl (by decide +kernel) [(0, .ref 0), (1, .int x1), (2, .int x2), (3, .int x3)] rfl (Nat.le_of_ble_eq_true rfl) ?_
  intro p e s m args below meth c ad0 A X hr
  exact b_X4_mean_0 X hr  h
def rmX4_length : Room := { frames := 5, cells := 0, slots := 0, locals := 123 }
def w_X4_length_84 (Q : UInt64 → St → Prop) (s0 : Int32) (σ : St) : Prop := w_X3_rootRounded (fun r10 σ9 => (Q r10 σ9)) s0 σ
set_option maxRecDepth 100000 in
set_option maxHeartbeats 4000000 in
theorem b_X4_length_84 {p : Program} {l : Launch} {e : Env} {s : State} {m : MethodId} {args : Array Value} {below : List Frame} {meth : Method} {c : Code} {D : va_G} {cA : Nat → ClassId} {A : Nat → Prop} {ad0 : Nat → Nat} {Q : UInt64 → St → Prop} {s0 : Int32} {σ : St} (X : Cx p rmX4_length s m args meth c cX4_length 5 RX4 D cA A) (hr : meth.sig.returnType = some .double) (h : w_X4_length_84 Q s0 σ) : G p l e rmX4_length s m args below meth c 5 D cA A (MQ below (va_Qd Q (EndW D cA ad0 shC) A) args s 0 0 A) 0 0 (fun ad => ad = ad0) shC σ [] 84 [.int s0, .ref 42] := by
  unfold w_X4_length_84 at h
  refine g_callVD X (C := RX3) (T := TX3) (N := 1) (n := 1) [.int s0] [] dX4_length_84 (c_X3_rootRounded l D cA h) q505 q506 q507 q50 q508 (Nat.le_of_ble_eq_true rfl) rfl rfl ⟨rfl, by decide, by decide, by decide +kernel⟩ rfl rfl (Nat.le_of_ble_eq_true rfl) rfl rfl ⟨(Nat.le_of_ble_eq_true rfl), (Nat.le_of_ble_eq_true rfl)⟩ (Nat.le_of_ble_eq_true rfl) (Nat.le_of_ble_eq_true rfl) (fun r10 σ9 h => ?_)
  exact g_dret X hr dX4_length_87 h
def w_X4_length (Q : UInt64 → St → Prop) (x1 : Int32) (x2 : Int32) (σ : St) : Prop := w_X4_findingOf (fun r2 σ1 => ((r2 = 0 → vp_in x1 6 ∧ w_X1_state (keepC (ix x1)) (fun r5 σ4 => (((gI σ4 (keepC (ix x1)) 1) = 0 → (Q FP.dconst0 σ4)) ∧ (¬ (gI σ4 (keepC (ix x1)) 1) = 0 → ((r5 = (3 : Int32) → (Q FP.dconst0 σ4)) ∧ (¬ r5 = (3 : Int32) → ((¬ r5 = (2 : Int32) → ((¬ r5 = (1 : Int32) → w_X1_isBelow (keepC (ix x1)) (fun r7 σ6 => ((r7 = 0 → w_X3_load (fun σ8 => ((x2 = 0 → (w_X4_length_84 Q (1 : Int32) σ8)) ∧ (¬ x2 = 0 → (w_X4_length_84 Q (2 : Int32) σ8)))) (keepC (ix x1)) σ6) ∧ (¬ r7 = 0 → (Q FP.dconst0 σ6)))) σ4) ∧ (r5 = (1 : Int32) → w_X4_endless (fun r12 σ11 => (Q r12 σ11)) σ4))) ∧ (r5 = (2 : Int32) → (Q FP.dconst0 σ4)))))))) σ1) ∧ (¬ r2 = 0 → (Q FP.dconst0 σ1)))) x1 σ
set_option maxRecDepth 100000 in
set_option maxHeartbeats 4000000 in
theorem b_X4_length_0 {p : Program} {l : Launch} {e : Env} {s : State} {m : MethodId} {args : Array Value} {below : List Frame} {meth : Method} {c : Code} {D : va_G} {cA : Nat → ClassId} {A : Nat → Prop} {ad0 : Nat → Nat} {Q : UInt64 → St → Prop} {x1 : Int32} {x2 : Int32} {σ : St} (X : Cx p rmX4_length s m args meth c cX4_length 5 RX4 D cA A) (hr : meth.sig.returnType = some .double) (h : w_X4_length Q x1 x2 σ) : G p l e rmX4_length s m args below meth c 5 D cA A (MQ below (va_Qd Q (EndW D cA ad0 shC) A) args s 0 0 A) 0 0 (fun ad => ad = ad0) shC σ [(0, .ref 0), (1, .int x1), (2, .int x2)] 0 [] := by
  unfold w_X4_length at h
  refine g_aload_n X 0 dX4_length_0 rfl rfl ?_
  refine g_iload_n X 1 dX4_length_1 rfl rfl ?_
  refine g_callVI X (C := RX4) (T := TX4) (N := 7) (n := 1) [.int x1] [] dX4_length_2 (c_X4_findingOf l D cA h) q425 q427 q10 q47 q428 (Nat.le_of_ble_eq_true rfl) rfl rfl ⟨rfl, by decide, by decide, by decide +kernel⟩ rfl rfl (Nat.le_of_ble_eq_true rfl) rfl rfl ⟨(Nat.le_of_ble_eq_true rfl), (Nat.le_of_ble_eq_true rfl)⟩ (Nat.le_of_ble_eq_true rfl) (Nat.le_of_ble_eq_true rfl) (fun r2 σ1 h => ?_)
  refine g_if_eq X 10 dX4_length_5 (by decide) (fun hc => ?_) (fun hc => ?_)
  · have h := h.1 hc
    refine g_aload_n X 0 dX4_length_10 rfl rfl ?_
    refine g_getR X (C := RX4) (T := TX4) (N := 7) 1 dX4_length_11 (Nat.le_of_ble_eq_true rfl) rfl rfl rfl inG4 (Nat.le_of_ble_eq_true rfl) rfl rfl q206 ?_
    refine g_iload_n X 1 dX4_length_14 rfl rfl ?_
    obtain ⟨hi3, h⟩ := h
    refine g_aald X (C := RX1) (t := 1) dX4_length_15 (Nat.le_of_ble_eq_true rfl) rfl rfl hi3 (keepC_r (vp_in_lt hi3)) ?_
    refine g_astore_n X [(3, .ref (keepC (ix x1))), (0, .ref 0), (1, .int x1), (2, .int x2)] dX4_length_16 rfl (Nat.le_of_ble_eq_true rfl) rfl ?_
    refine g_aload_n X 0 dX4_length_17 rfl rfl ?_
    refine g_callVI X (C := RX1) (T := TX1) (N := 4) (n := 0) [] [] dX4_length_18 (c_X1_state l D cA shC (keepC_sh (vp_in_lt hi3)) h) q429 q430 q431 q49 q432 (keepSh.b0 (keepC_sh (vp_in_lt hi3))) (keepSh.k0 (keepC_sh (vp_in_lt hi3))) rfl ⟨rfl, by decide, by decide, by decide +kernel⟩ rfl rfl (Nat.le_of_ble_eq_true rfl) rfl rfl ⟨(Nat.le_of_ble_eq_true rfl), (Nat.le_of_ble_eq_true rfl)⟩ (Nat.le_of_ble_eq_true rfl) (Nat.le_of_ble_eq_true rfl) (fun r5 σ4 h => ?_)
    refine g_istore X [(4, .int r5), (3, .ref (keepC (ix x1))), (0, .ref 0), (1, .int x1), (2, .int x2)] dX4_length_21 (Nat.le_of_ble_eq_true rfl) rfl ?_
    refine g_aload_n X 1 dX4_length_23 rfl rfl ?_
    refine g_getI X (C := RX1) (T := TX1) (N := 4) 1 dX4_length_24 (keepSh.b0 (keepC_sh (vp_in_lt hi3))) (keepSh.k0 (keepC_sh (vp_in_lt hi3))) rfl rfl inG1 (Nat.le_of_ble_eq_true rfl) rfl q86 ?_
    refine g_if_eq X 42 dX4_length_27 (by decide) (fun hc => ?_) (fun hc => ?_)
    · have h := h.1 hc
      refine g_dconst0 X dX4_length_42 ?_
      exact g_dret X hr dX4_length_43 h
    · have h := h.2 hc
      refine g_iload X 0 dX4_length_30 rfl ?_
      refine g_iconst X (3 : Int32) dX4_length_32 (by decide) ?_
      refine g_icmp_eq X 42 dX4_length_33 (by decide) (fun hc => ?_) (fun hc => ?_)
      · have h := h.1 hc
        refine g_dconst0 X dX4_length_42 ?_
        exact g_dret X hr dX4_length_43 h
      · have h := h.2 hc
        refine g_iload X 0 dX4_length_36 rfl ?_
        refine g_iconst X (2 : Int32) dX4_length_38 (by decide) ?_
        refine g_icmp_ne X 44 dX4_length_39 (by decide) (fun hc => ?_) (fun hc => ?_)
        · have h := h.1 hc
          refine g_iload X 0 dX4_length_44 rfl ?_
          refine g_iconst X (1 : Int32) dX4_length_46 (by decide) ?_
          refine g_icmp_ne X 54 dX4_length_47 (by decide) (fun hc => ?_) (fun hc => ?_)
          · have h := h.1 hc
            refine g_aload_n X 1 dX4_length_54 rfl rfl ?_
            refine g_callVI X (C := RX1) (T := TX1) (N := 4) (n := 0) [] [] dX4_length_55 (c_X1_isBelow l D cA shC (keepC_sh (vp_in_lt hi3)) h) q462 q454 q455 q49 q456 (keepSh.b0 (keepC_sh (vp_in_lt hi3))) (keepSh.k0 (keepC_sh (vp_in_lt hi3))) rfl ⟨rfl, by decide, by decide, by decide +kernel⟩ rfl rfl (Nat.le_of_ble_eq_true rfl) rfl rfl ⟨(Nat.le_of_ble_eq_true rfl), (Nat.le_of_ble_eq_true rfl)⟩ (Nat.le_of_ble_eq_true rfl) (Nat.le_of_ble_eq_true rfl) (fun r7 σ6 h => ?_)
            refine g_if_eq X 63 dX4_length_58 (by decide) (fun hc => ?_) (fun hc => ?_)
            · have h := h.1 hc
              refine g_aload_n X 2 dX4_length_63 rfl rfl ?_
              refine g_getR X (C := RX4) (T := TX4) (N := 7) 3 dX4_length_64 (Nat.le_of_ble_eq_true rfl) rfl rfl rfl inG4 (Nat.le_of_ble_eq_true rfl) rfl rfl q208 ?_
              refine g_aload_n X 1 dX4_length_67 rfl rfl ?_
              refine g_callVV X (C := RX3) (T := TX3) (N := 1) (n := 1) [.ref (keepC (ix x1))] [] dX4_length_68 (c_X3_load l D cA (keepC_sh (vp_in_lt hi3)) h) q449 q450 q451 q50 q452 (Nat.le_of_ble_eq_true rfl) rfl rfl ⟨rfl, by decide, by decide, by decide +kernel⟩ rfl rfl (Nat.le_of_ble_eq_true rfl) rfl rfl ⟨(Nat.le_of_ble_eq_true rfl), (Nat.le_of_ble_eq_true rfl)⟩ (Nat.le_of_ble_eq_true rfl) (Nat.le_of_ble_eq_true rfl) (fun σ8 h => ?_)
              refine g_aload_n X 2 dX4_length_71 rfl rfl ?_
              refine g_getR X (C := RX4) (T := TX4) (N := 7) 3 dX4_length_72 (Nat.le_of_ble_eq_true rfl) rfl rfl rfl inG4 (Nat.le_of_ble_eq_true rfl) rfl rfl q208 ?_
              refine g_iload_n X 4 dX4_length_75 rfl rfl ?_
              refine g_if_eq X 83 dX4_length_76 (by decide) (fun hc => ?_) (fun hc => ?_)
              · have h := h.1 hc
                refine g_iconst X (1 : Int32) dX4_length_83 (by decide) ?_
                refine g_weak [] rfl ?_
                exact b_X4_length_84 X hr h
              · have h := h.2 hc
                refine g_iconst X (2 : Int32) dX4_length_79 (by decide) ?_
                refine g_goto X 84 dX4_length_80 (by decide) ?_
                refine g_weak [] rfl ?_
                exact b_X4_length_84 X hr h
            · have h := h.2 hc
              refine g_dconst0 X dX4_length_61 ?_
              exact g_dret X hr dX4_length_62 h
          · have h := h.2 hc
            refine g_callSD X (n := 0) [] [] dX4_length_50 (c_X4_endless l D cA shC h) q448 q288 q47 q289 ⟨by decide, by decide, by decide +kernel⟩ rfl rfl (Nat.le_of_ble_eq_true rfl) rfl rfl ⟨(Nat.le_of_ble_eq_true rfl), (Nat.le_of_ble_eq_true rfl)⟩ (Nat.le_of_ble_eq_true rfl) (Nat.le_of_ble_eq_true rfl) (fun r12 σ11 h => ?_)
            exact g_dret X hr dX4_length_53 h
        · have h := h.2 hc
          refine g_dconst0 X dX4_length_42 ?_
          exact g_dret X hr dX4_length_43 h
  · have h := h.2 hc
    refine g_dconst0 X dX4_length_8 ?_
    exact g_dret X hr dX4_length_9 h
theorem c_X4_length (l : Launch) (D : va_G) (cA : Nat → ClassId) {x1 : Int32} {x2 : Int32} {σ : St} {Q : UInt64 → St → Prop} (h : w_X4_length Q x1 x2 σ) : CtD l yX4_length cX4_length 5 (some .double) rmX4_length D cA shC [.ref 0, .int x1, .int x2] σ Q := by
  refine CtD.of (own := RX4) rfl (by decide +kernel) [(0, .ref 0), (1, .int x1), (2, .int x2)] rfl (Nat.le_of_ble_eq_true rfl) ?_
  intro p e s m args below meth c ad0 A X hr
  exact b_X4_length_0 X hr  h
def rmX4_sign : Room := { frames := 2, cells := 0, slots := 0, locals := 41 }
def w_X4_sign (Q : Int32 → St → Prop) (x1 : Int32) (σ : St) : Prop := w_X4_findingOf (fun r2 σ1 => ((r2 = 0 → vp_in x1 6 ∧ w_X1_isBelow (keepC (ix x1)) (fun r5 σ4 => ((r5 = 0 → w_X1_isNought (keepC (ix x1)) (fun r7 σ6 => ((r7 = 0 → (Q (1 : Int32) σ6)) ∧ (¬ r7 = 0 → (Q (0 : Int32) σ6)))) σ4) ∧ (¬ r5 = 0 → (Q (2 : Int32) σ4)))) σ1) ∧ (¬ r2 = 0 → (Q r2 σ1)))) x1 σ
set_option maxRecDepth 100000 in
set_option maxHeartbeats 4000000 in
theorem b_X4_sign_0 {p : Program} {l : Launch} {e : Env} {s : State} {m : MethodId} {args : Array Value} {below : List Frame} {meth : Method} {c : Code} {D : va_G} {cA : Nat → ClassId} {A : Nat → Prop} {ad0 : Nat → Nat} {Q : Int32 → St → Prop} {x1 : Int32} {σ : St} (X : Cx p rmX4_sign s m args meth c cX4_sign 4 RX4 D cA A) (hr : meth.sig.returnType = some .int) (h : w_X4_sign Q x1 σ) : G p l e rmX4_sign s m args below meth c 4 D cA A (MQ below (va_Qi Q (EndW D cA ad0 shC) A) args s 0 0 A) 0 0 (fun ad => ad = ad0) shC σ [(0, .ref 0), (1, .int x1)] 0 [] := by
  unfold w_X4_sign at h
  refine g_aload_n X 0 dX4_sign_0 rfl rfl ?_
  refine g_iload_n X 1 dX4_sign_1 rfl rfl ?_
  refine g_callVI X (C := RX4) (T := TX4) (N := 7) (n := 1) [.int x1] [] dX4_sign_2 (c_X4_findingOf l D cA h) q425 q427 q10 q47 q428 (Nat.le_of_ble_eq_true rfl) rfl rfl ⟨rfl, by decide, by decide, by decide +kernel⟩ rfl rfl (Nat.le_of_ble_eq_true rfl) rfl rfl ⟨(Nat.le_of_ble_eq_true rfl), (Nat.le_of_ble_eq_true rfl)⟩ (Nat.le_of_ble_eq_true rfl) (Nat.le_of_ble_eq_true rfl) (fun r2 σ1 h => ?_)
  refine g_istore_n X [(2, .int r2), (0, .ref 0), (1, .int x1)] dX4_sign_5 rfl (Nat.le_of_ble_eq_true rfl) rfl ?_
  refine g_iload_n X 0 dX4_sign_6 rfl rfl ?_
  refine g_if_eq X 12 dX4_sign_7 (by decide) (fun hc => ?_) (fun hc => ?_)
  · have h := h.1 hc
    refine g_aload_n X 1 dX4_sign_12 rfl rfl ?_
    refine g_getR X (C := RX4) (T := TX4) (N := 7) 1 dX4_sign_13 (Nat.le_of_ble_eq_true rfl) rfl rfl rfl inG4 (Nat.le_of_ble_eq_true rfl) rfl rfl q206 ?_
    refine g_iload_n X 2 dX4_sign_16 rfl rfl ?_
    obtain ⟨hi3, h⟩ := h
    refine g_aald X (C := RX1) (t := 1) dX4_sign_17 (Nat.le_of_ble_eq_true rfl) rfl rfl hi3 (keepC_r (vp_in_lt hi3)) ?_
    refine g_astore_n X [(3, .ref (keepC (ix x1))), (2, .int r2), (0, .ref 0), (1, .int x1)] dX4_sign_18 rfl (Nat.le_of_ble_eq_true rfl) rfl ?_
    refine g_aload_n X 0 dX4_sign_19 rfl rfl ?_
    refine g_callVI X (C := RX1) (T := TX1) (N := 4) (n := 0) [] [] dX4_sign_20 (c_X1_isBelow l D cA shC (keepC_sh (vp_in_lt hi3)) h) q462 q454 q455 q49 q456 (keepSh.b0 (keepC_sh (vp_in_lt hi3))) (keepSh.k0 (keepC_sh (vp_in_lt hi3))) rfl ⟨rfl, by decide, by decide, by decide +kernel⟩ rfl rfl (Nat.le_of_ble_eq_true rfl) rfl rfl ⟨(Nat.le_of_ble_eq_true rfl), (Nat.le_of_ble_eq_true rfl)⟩ (Nat.le_of_ble_eq_true rfl) (Nat.le_of_ble_eq_true rfl) (fun r5 σ4 h => ?_)
    refine g_if_eq X 28 dX4_sign_23 (by decide) (fun hc => ?_) (fun hc => ?_)
    · have h := h.1 hc
      refine g_aload_n X 0 dX4_sign_28 rfl rfl ?_
      refine g_callVI X (C := RX1) (T := TX1) (N := 4) (n := 0) [] [] dX4_sign_29 (c_X1_isNought l D cA shC (keepC_sh (vp_in_lt hi3)) h) q513 q514 q515 q49 q516 (keepSh.b0 (keepC_sh (vp_in_lt hi3))) (keepSh.k0 (keepC_sh (vp_in_lt hi3))) rfl ⟨rfl, by decide, by decide, by decide +kernel⟩ rfl rfl (Nat.le_of_ble_eq_true rfl) rfl rfl ⟨(Nat.le_of_ble_eq_true rfl), (Nat.le_of_ble_eq_true rfl)⟩ (Nat.le_of_ble_eq_true rfl) (Nat.le_of_ble_eq_true rfl) (fun r7 σ6 h => ?_)
      refine g_if_eq X 39 dX4_sign_32 (by decide) (fun hc => ?_) (fun hc => ?_)
      · have h := h.1 hc
        refine g_iconst X (1 : Int32) dX4_sign_39 (by decide) ?_
        exact g_iret X hr dX4_sign_40 rfl h
      · have h := h.2 hc
        refine g_iconst X (0 : Int32) dX4_sign_35 (by decide) ?_
        refine g_goto X 40 dX4_sign_36 (by decide) ?_
        exact g_iret X hr dX4_sign_40 rfl h
    · have h := h.2 hc
      refine g_iconst X (2 : Int32) dX4_sign_26 (by decide) ?_
      exact g_iret X hr dX4_sign_27 rfl h
  · have h := h.2 hc
    refine g_iload_n X 0 dX4_sign_10 rfl rfl ?_
    exact g_iret X hr dX4_sign_11 rfl h
theorem c_X4_sign (l : Launch) (D : va_G) (cA : Nat → ClassId) {x1 : Int32} {σ : St} {Q : Int32 → St → Prop} (h : w_X4_sign Q x1 σ) : CtI l yX4_sign cX4_sign 4 (some .int) rmX4_sign D cA shC [.ref 0, .int x1] σ Q := by
  refine CtI.of (own := RX4) rfl (by decide +kernel) [(0, .ref 0), (1, .int x1)] rfl (Nat.le_of_ble_eq_true rfl) ?_
  intro p e s m args below meth c ad0 A X hr
  exact b_X4_sign_0 X hr  h
def rmX4_high : Room := { frames := 4, cells := 0, slots := 0, locals := 85 }
def w_X4_high (Q : Int32 → St → Prop) (x1 : Int32) (σ : St) : Prop := w_X4_findingOf (fun r2 σ1 => ((r2 = 0 → vp_in x1 6 ∧ w_X3_load (fun σ4 => w_X3_topBit (fun r6 σ5 => ((0 ≤ r6 → (Q (r6 + (-2148 : Int32)) σ5)) ∧ (¬ 0 ≤ r6 → (Q (-10000 : Int32) σ5)))) σ4) (keepC (ix x1)) σ1) ∧ (¬ r2 = 0 → (Q (r2 + (-9999 : Int32)) σ1)))) x1 σ
set_option maxRecDepth 100000 in
set_option maxHeartbeats 4000000 in
theorem b_X4_high_0 {p : Program} {l : Launch} {e : Env} {s : State} {m : MethodId} {args : Array Value} {below : List Frame} {meth : Method} {c : Code} {D : va_G} {cA : Nat → ClassId} {A : Nat → Prop} {ad0 : Nat → Nat} {Q : Int32 → St → Prop} {x1 : Int32} {σ : St} (X : Cx p rmX4_high s m args meth c cX4_high 4 RX4 D cA A) (hr : meth.sig.returnType = some .int) (h : w_X4_high Q x1 σ) : G p l e rmX4_high s m args below meth c 4 D cA A (MQ below (va_Qi Q (EndW D cA ad0 shC) A) args s 0 0 A) 0 0 (fun ad => ad = ad0) shC σ [(0, .ref 0), (1, .int x1)] 0 [] := by
  unfold w_X4_high at h
  refine g_aload_n X 0 dX4_high_0 rfl rfl ?_
  refine g_iload_n X 1 dX4_high_1 rfl rfl ?_
  refine g_callVI X (C := RX4) (T := TX4) (N := 7) (n := 1) [.int x1] [] dX4_high_2 (c_X4_findingOf l D cA h) q425 q427 q10 q47 q428 (Nat.le_of_ble_eq_true rfl) rfl rfl ⟨rfl, by decide, by decide, by decide +kernel⟩ rfl rfl (Nat.le_of_ble_eq_true rfl) rfl rfl ⟨(Nat.le_of_ble_eq_true rfl), (Nat.le_of_ble_eq_true rfl)⟩ (Nat.le_of_ble_eq_true rfl) (Nat.le_of_ble_eq_true rfl) (fun r2 σ1 h => ?_)
  refine g_istore_n X [(2, .int r2), (0, .ref 0), (1, .int x1)] dX4_high_5 rfl (Nat.le_of_ble_eq_true rfl) rfl ?_
  refine g_iload_n X 0 dX4_high_6 rfl rfl ?_
  refine g_if_eq X 16 dX4_high_7 (by decide) (fun hc => ?_) (fun hc => ?_)
  · have h := h.1 hc
    refine g_aload_n X 1 dX4_high_16 rfl rfl ?_
    refine g_getR X (C := RX4) (T := TX4) (N := 7) 3 dX4_high_17 (Nat.le_of_ble_eq_true rfl) rfl rfl rfl inG4 (Nat.le_of_ble_eq_true rfl) rfl rfl q208 ?_
    refine g_aload_n X 1 dX4_high_20 rfl rfl ?_
    refine g_getR X (C := RX4) (T := TX4) (N := 7) 1 dX4_high_21 (Nat.le_of_ble_eq_true rfl) rfl rfl rfl inG4 (Nat.le_of_ble_eq_true rfl) rfl rfl q206 ?_
    refine g_iload_n X 2 dX4_high_24 rfl rfl ?_
    obtain ⟨hi3, h⟩ := h
    refine g_aald X (C := RX1) (t := 1) dX4_high_25 (Nat.le_of_ble_eq_true rfl) rfl rfl hi3 (keepC_r (vp_in_lt hi3)) ?_
    refine g_callVV X (C := RX3) (T := TX3) (N := 1) (n := 1) [.ref (keepC (ix x1))] [] dX4_high_26 (c_X3_load l D cA (keepC_sh (vp_in_lt hi3)) h) q449 q450 q451 q50 q452 (Nat.le_of_ble_eq_true rfl) rfl rfl ⟨rfl, by decide, by decide, by decide +kernel⟩ rfl rfl (Nat.le_of_ble_eq_true rfl) rfl rfl ⟨(Nat.le_of_ble_eq_true rfl), (Nat.le_of_ble_eq_true rfl)⟩ (Nat.le_of_ble_eq_true rfl) (Nat.le_of_ble_eq_true rfl) (fun σ4 h => ?_)
    refine g_aload_n X 1 dX4_high_29 rfl rfl ?_
    refine g_getR X (C := RX4) (T := TX4) (N := 7) 3 dX4_high_30 (Nat.le_of_ble_eq_true rfl) rfl rfl rfl inG4 (Nat.le_of_ble_eq_true rfl) rfl rfl q208 ?_
    refine g_callVI X (C := RX3) (T := TX3) (N := 1) (n := 0) [] [] dX4_high_33 (c_X3_topBit l D cA h) q521 q468 q469 q50 q470 (Nat.le_of_ble_eq_true rfl) rfl rfl ⟨rfl, by decide, by decide, by decide +kernel⟩ rfl rfl (Nat.le_of_ble_eq_true rfl) rfl rfl ⟨(Nat.le_of_ble_eq_true rfl), (Nat.le_of_ble_eq_true rfl)⟩ (Nat.le_of_ble_eq_true rfl) (Nat.le_of_ble_eq_true rfl) (fun r6 σ5 h => ?_)
    refine g_istore_n X [(3, .int r6), (2, .int r2), (0, .ref 0), (1, .int x1)] dX4_high_36 rfl (Nat.le_of_ble_eq_true rfl) rfl ?_
    refine g_iload_n X 0 dX4_high_37 rfl rfl ?_
    refine g_if_ge X 47 dX4_high_38 (by decide) (fun hc => ?_) (fun hc => ?_)
    · have h := h.1 hc
      refine g_iload_n X 0 dX4_high_47 rfl rfl ?_
      refine g_sipush X (-2148 : Int32) dX4_high_48 (by decide) ?_
      refine g_iadd X dX4_high_51 ?_
      exact g_iret X hr dX4_high_52 rfl h
    · have h := h.2 hc
      refine g_sipush X (-10000 : Int32) dX4_high_41 (by decide) ?_
      refine g_goto X 52 dX4_high_44 (by decide) ?_
      exact g_iret X hr dX4_high_52 rfl h
  · have h := h.2 hc
    refine g_iload_n X 0 dX4_high_10 rfl rfl ?_
    refine g_sipush X (-9999 : Int32) dX4_high_11 (by decide) ?_
    refine g_iadd X dX4_high_14 ?_
    exact g_iret X hr dX4_high_15 rfl h
theorem c_X4_high (l : Launch) (D : va_G) (cA : Nat → ClassId) {x1 : Int32} {σ : St} {Q : Int32 → St → Prop} (h : w_X4_high Q x1 σ) : CtI l yX4_high cX4_high 4 (some .int) rmX4_high D cA shC [.ref 0, .int x1] σ Q := by
  refine CtI.of (own := RX4) rfl (by decide +kernel) [(0, .ref 0), (1, .int x1)] rfl (Nat.le_of_ble_eq_true rfl) ?_
  intro p e s m args below meth c ad0 A X hr
  exact b_X4_high_0 X hr  h
def rmX4_bit : Room := { frames := 2, cells := 0, slots := 0, locals := 47 }
def w_X4_bit (Q : Int32 → St → Prop) (x1 : Int32) (x2 : Int32) (σ : St) : Prop := w_X4_isKeeper (fun r2 σ1 => ((r2 = 0 → (Q (-3 : Int32) σ1)) ∧ (¬ r2 = 0 → ((x2 < (-2148 : Int32) → (Q (-3 : Int32) σ1)) ∧ (¬ x2 < (-2148 : Int32) → ((x2 ≤ (2200 : Int32) → vp_in x1 6 ∧ ((¬ (gI σ1 (keepC (ix x1)) 0) = 0 → w_X3_load (fun σ4 => w_X3_bitAt (fun r6 σ5 => (Q r6 σ5)) (x2 - (-2148 : Int32)) σ4) (keepC (ix x1)) σ1) ∧ ((gI σ1 (keepC (ix x1)) 0) = 0 → (Q (-11 : Int32) σ1)))) ∧ (¬ x2 ≤ (2200 : Int32) → (Q (-3 : Int32) σ1)))))))) x1 σ
set_option maxRecDepth 100000 in
set_option maxHeartbeats 4000000 in
theorem b_X4_bit_0 {p : Program} {l : Launch} {e : Env} {s : State} {m : MethodId} {args : Array Value} {below : List Frame} {meth : Method} {c : Code} {D : va_G} {cA : Nat → ClassId} {A : Nat → Prop} {ad0 : Nat → Nat} {Q : Int32 → St → Prop} {x1 : Int32} {x2 : Int32} {σ : St} (X : Cx p rmX4_bit s m args meth c cX4_bit 4 RX4 D cA A) (hr : meth.sig.returnType = some .int) (h : w_X4_bit Q x1 x2 σ) : G p l e rmX4_bit s m args below meth c 4 D cA A (MQ below (va_Qi Q (EndW D cA ad0 shC) A) args s 0 0 A) 0 0 (fun ad => ad = ad0) shC σ [(0, .ref 0), (1, .int x1), (2, .int x2)] 0 [] := by
  unfold w_X4_bit at h
  refine g_iload_n X 1 dX4_bit_0 rfl rfl ?_
  refine g_callSI X (n := 1) [.int x1] [] dX4_bit_1 (c_X4_isKeeper l D cA shC h) q312 q313 q47 q314 ⟨by decide, by decide, by decide +kernel⟩ rfl rfl (Nat.le_of_ble_eq_true rfl) rfl rfl ⟨(Nat.le_of_ble_eq_true rfl), (Nat.le_of_ble_eq_true rfl)⟩ (Nat.le_of_ble_eq_true rfl) (Nat.le_of_ble_eq_true rfl) (fun r2 σ1 h => ?_)
  refine g_if_eq X 21 dX4_bit_4 (by decide) (fun hc => ?_) (fun hc => ?_)
  · have h := h.1 hc
    refine g_bipush X (-3 : Int32) dX4_bit_21 (by decide) ?_
    exact g_iret X hr dX4_bit_23 rfl h
  · have h := h.2 hc
    refine g_iload_n X 2 dX4_bit_7 rfl rfl ?_
    refine g_sipush X (-2148 : Int32) dX4_bit_8 (by decide) ?_
    refine g_icmp_lt X 21 dX4_bit_11 (by decide) (fun hc => ?_) (fun hc => ?_)
    · have h := h.1 hc
      refine g_bipush X (-3 : Int32) dX4_bit_21 (by decide) ?_
      exact g_iret X hr dX4_bit_23 rfl h
    · have h := h.2 hc
      refine g_iload_n X 2 dX4_bit_14 rfl rfl ?_
      refine g_sipush X (2200 : Int32) dX4_bit_15 (by decide) ?_
      refine g_icmp_le X 24 dX4_bit_18 (by decide) (fun hc => ?_) (fun hc => ?_)
      · have h := h.1 hc
        refine g_aload_n X 0 dX4_bit_24 rfl rfl ?_
        refine g_getR X (C := RX4) (T := TX4) (N := 7) 1 dX4_bit_25 (Nat.le_of_ble_eq_true rfl) rfl rfl rfl inG4 (Nat.le_of_ble_eq_true rfl) rfl rfl q206 ?_
        refine g_iload_n X 1 dX4_bit_28 rfl rfl ?_
        obtain ⟨hi3, h⟩ := h
        refine g_aald X (C := RX1) (t := 1) dX4_bit_29 (Nat.le_of_ble_eq_true rfl) rfl rfl hi3 (keepC_r (vp_in_lt hi3)) ?_
        refine g_astore_n X [(3, .ref (keepC (ix x1))), (0, .ref 0), (1, .int x1), (2, .int x2)] dX4_bit_30 rfl (Nat.le_of_ble_eq_true rfl) rfl ?_
        refine g_aload_n X 0 dX4_bit_31 rfl rfl ?_
        refine g_getI X (C := RX1) (T := TX1) (N := 4) 0 dX4_bit_32 (keepSh.b0 (keepC_sh (vp_in_lt hi3))) (keepSh.k0 (keepC_sh (vp_in_lt hi3))) rfl rfl inG1 (Nat.le_of_ble_eq_true rfl) rfl q84 ?_
        refine g_if_ne X 41 dX4_bit_35 (by decide) (fun hc => ?_) (fun hc => ?_)
        · have h := h.1 hc
          refine g_aload_n X 1 dX4_bit_41 rfl rfl ?_
          refine g_getR X (C := RX4) (T := TX4) (N := 7) 3 dX4_bit_42 (Nat.le_of_ble_eq_true rfl) rfl rfl rfl inG4 (Nat.le_of_ble_eq_true rfl) rfl rfl q208 ?_
          refine g_aload_n X 0 dX4_bit_45 rfl rfl ?_
          refine g_callVV X (C := RX3) (T := TX3) (N := 1) (n := 1) [.ref (keepC (ix x1))] [] dX4_bit_46 (c_X3_load l D cA (keepC_sh (vp_in_lt hi3)) h) q449 q450 q451 q50 q452 (Nat.le_of_ble_eq_true rfl) rfl rfl ⟨rfl, by decide, by decide, by decide +kernel⟩ rfl rfl (Nat.le_of_ble_eq_true rfl) rfl rfl ⟨(Nat.le_of_ble_eq_true rfl), (Nat.le_of_ble_eq_true rfl)⟩ (Nat.le_of_ble_eq_true rfl) (Nat.le_of_ble_eq_true rfl) (fun σ4 h => ?_)
          refine g_aload_n X 1 dX4_bit_49 rfl rfl ?_
          refine g_getR X (C := RX4) (T := TX4) (N := 7) 3 dX4_bit_50 (Nat.le_of_ble_eq_true rfl) rfl rfl rfl inG4 (Nat.le_of_ble_eq_true rfl) rfl rfl q208 ?_
          refine g_iload_n X 3 dX4_bit_53 rfl rfl ?_
          refine g_sipush X (-2148 : Int32) dX4_bit_54 (by decide) ?_
          refine g_isub X dX4_bit_57 ?_
          refine g_callVI X (C := RX3) (T := TX3) (N := 1) (n := 1) [.int (x2 - (-2148 : Int32))] [] dX4_bit_58 (c_X3_bitAt l D cA h) q526 q482 q483 q50 q484 (Nat.le_of_ble_eq_true rfl) rfl rfl ⟨rfl, by decide, by decide, by decide +kernel⟩ rfl rfl (Nat.le_of_ble_eq_true rfl) rfl rfl ⟨(Nat.le_of_ble_eq_true rfl), (Nat.le_of_ble_eq_true rfl)⟩ (Nat.le_of_ble_eq_true rfl) (Nat.le_of_ble_eq_true rfl) (fun r6 σ5 h => ?_)
          exact g_iret X hr dX4_bit_61 rfl h
        · have h := h.2 hc
          refine g_bipush X (-11 : Int32) dX4_bit_38 (by decide) ?_
          exact g_iret X hr dX4_bit_40 rfl h
      · have h := h.2 hc
        refine g_bipush X (-3 : Int32) dX4_bit_21 (by decide) ?_
        exact g_iret X hr dX4_bit_23 rfl h
theorem c_X4_bit (l : Launch) (D : va_G) (cA : Nat → ClassId) {x1 : Int32} {x2 : Int32} {σ : St} {Q : Int32 → St → Prop} (h : w_X4_bit Q x1 x2 σ) : CtI l yX4_bit cX4_bit 4 (some .int) rmX4_bit D cA shC [.ref 0, .int x1, .int x2] σ Q := by
  refine CtI.of (own := RX4) rfl (by decide +kernel) [(0, .ref 0), (1, .int x1), (2, .int x2)] rfl (Nat.le_of_ble_eq_true rfl) ?_
  intro p e s m args below meth c ad0 A X hr
  exact b_X4_bit_0 X hr  h
def rmX4_order : Room := { frames := 1, cells := 0, slots := 0, locals := 22 }
def w_X4_order (Q : Int32 → St → Prop) (x1 : Int32) (x2 : Int32) (σ : St) : Prop := w_X4_isKeeper (fun r2 σ1 => ((r2 = 0 → (Q (-3 : Int32) σ1)) ∧ (¬ r2 = 0 → w_X4_isKeeper (fun r4 σ3 => ((¬ r4 = 0 → vp_in x1 6 ∧ vp_in x2 6 ∧ (((gI σ3 (keepC (ix x1)) 0) = 0 → (Q (-11 : Int32) σ3)) ∧ (¬ (gI σ3 (keepC (ix x1)) 0) = 0 → ((¬ (gI σ3 (keepC (ix x2)) 0) = 0 → w_X1_comparedWith (keepC (ix x1)) (fun r8 σ7 => ((¬ r8 = 0 → ((0 ≤ r8 → (Q (3 : Int32) σ7)) ∧ (¬ 0 ≤ r8 → (Q (2 : Int32) σ7)))) ∧ (r8 = 0 → (Q (1 : Int32) σ7)))) (keepC (ix x2)) σ3) ∧ ((gI σ3 (keepC (ix x2)) 0) = 0 → (Q (-11 : Int32) σ3)))))) ∧ (r4 = 0 → (Q (-3 : Int32) σ3)))) x2 σ1))) x1 σ
set_option maxRecDepth 100000 in
set_option maxHeartbeats 4000000 in
theorem b_X4_order_0 {p : Program} {l : Launch} {e : Env} {s : State} {m : MethodId} {args : Array Value} {below : List Frame} {meth : Method} {c : Code} {D : va_G} {cA : Nat → ClassId} {A : Nat → Prop} {ad0 : Nat → Nat} {Q : Int32 → St → Prop} {x1 : Int32} {x2 : Int32} {σ : St} (X : Cx p rmX4_order s m args meth c cX4_order 6 RX4 D cA A) (hr : meth.sig.returnType = some .int) (h : w_X4_order Q x1 x2 σ) : G p l e rmX4_order s m args below meth c 6 D cA A (MQ below (va_Qi Q (EndW D cA ad0 shC) A) args s 0 0 A) 0 0 (fun ad => ad = ad0) shC σ [(0, .ref 0), (1, .int x1), (2, .int x2)] 0 [] := by
  unfold w_X4_order at h
  refine g_iload_n X 1 dX4_order_0 rfl rfl ?_
  refine g_callSI X (n := 1) [.int x1] [] dX4_order_1 (c_X4_isKeeper l D cA shC h) q312 q313 q47 q314 ⟨by decide, by decide, by decide +kernel⟩ rfl rfl (Nat.le_of_ble_eq_true rfl) rfl rfl ⟨(Nat.le_of_ble_eq_true rfl), (Nat.le_of_ble_eq_true rfl)⟩ (Nat.le_of_ble_eq_true rfl) (Nat.le_of_ble_eq_true rfl) (fun r2 σ1 h => ?_)
  refine g_if_eq X 14 dX4_order_4 (by decide) (fun hc => ?_) (fun hc => ?_)
  · have h := h.1 hc
    refine g_bipush X (-3 : Int32) dX4_order_14 (by decide) ?_
    exact g_iret X hr dX4_order_16 rfl h
  · have h := h.2 hc
    refine g_iload_n X 2 dX4_order_7 rfl rfl ?_
    refine g_callSI X (n := 1) [.int x2] [] dX4_order_8 (c_X4_isKeeper l D cA shC h) q312 q313 q47 q314 ⟨by decide, by decide, by decide +kernel⟩ rfl rfl (Nat.le_of_ble_eq_true rfl) rfl rfl ⟨(Nat.le_of_ble_eq_true rfl), (Nat.le_of_ble_eq_true rfl)⟩ (Nat.le_of_ble_eq_true rfl) (Nat.le_of_ble_eq_true rfl) (fun r4 σ3 h => ?_)
    refine g_if_ne X 17 dX4_order_11 (by decide) (fun hc => ?_) (fun hc => ?_)
    · have h := h.1 hc
      refine g_aload_n X 0 dX4_order_17 rfl rfl ?_
      refine g_getR X (C := RX4) (T := TX4) (N := 7) 1 dX4_order_18 (Nat.le_of_ble_eq_true rfl) rfl rfl rfl inG4 (Nat.le_of_ble_eq_true rfl) rfl rfl q206 ?_
      refine g_iload_n X 1 dX4_order_21 rfl rfl ?_
      obtain ⟨hi5, h⟩ := h
      refine g_aald X (C := RX1) (t := 1) dX4_order_22 (Nat.le_of_ble_eq_true rfl) rfl rfl hi5 (keepC_r (vp_in_lt hi5)) ?_
      refine g_astore_n X [(3, .ref (keepC (ix x1))), (0, .ref 0), (1, .int x1), (2, .int x2)] dX4_order_23 rfl (Nat.le_of_ble_eq_true rfl) rfl ?_
      refine g_aload_n X 1 dX4_order_24 rfl rfl ?_
      refine g_getR X (C := RX4) (T := TX4) (N := 7) 1 dX4_order_25 (Nat.le_of_ble_eq_true rfl) rfl rfl rfl inG4 (Nat.le_of_ble_eq_true rfl) rfl rfl q206 ?_
      refine g_iload_n X 3 dX4_order_28 rfl rfl ?_
      obtain ⟨hi6, h⟩ := h
      refine g_aald X (C := RX1) (t := 1) dX4_order_29 (Nat.le_of_ble_eq_true rfl) rfl rfl hi6 (keepC_r (vp_in_lt hi6)) ?_
      refine g_astore X [(4, .ref (keepC (ix x2))), (3, .ref (keepC (ix x1))), (0, .ref 0), (1, .int x1), (2, .int x2)] dX4_order_30 (Nat.le_of_ble_eq_true rfl) rfl ?_
      refine g_aload_n X 1 dX4_order_32 rfl rfl ?_
      refine g_getI X (C := RX1) (T := TX1) (N := 4) 0 dX4_order_33 (keepSh.b0 (keepC_sh (vp_in_lt hi5))) (keepSh.k0 (keepC_sh (vp_in_lt hi5))) rfl rfl inG1 (Nat.le_of_ble_eq_true rfl) rfl q84 ?_
      refine g_if_eq X 47 dX4_order_36 (by decide) (fun hc => ?_) (fun hc => ?_)
      · have h := h.1 hc
        refine g_bipush X (-11 : Int32) dX4_order_47 (by decide) ?_
        exact g_iret X hr dX4_order_49 rfl h
      · have h := h.2 hc
        refine g_aload X 0 dX4_order_39 rfl ?_
        refine g_getI X (C := RX1) (T := TX1) (N := 4) 0 dX4_order_41 (keepSh.b0 (keepC_sh (vp_in_lt hi6))) (keepSh.k0 (keepC_sh (vp_in_lt hi6))) rfl rfl inG1 (Nat.le_of_ble_eq_true rfl) rfl q84 ?_
        refine g_if_ne X 50 dX4_order_44 (by decide) (fun hc => ?_) (fun hc => ?_)
        · have h := h.1 hc
          refine g_aload_n X 1 dX4_order_50 rfl rfl ?_
          refine g_aload X 0 dX4_order_51 rfl ?_
          refine g_callVI X (C := RX1) (T := TX1) (N := 4) (n := 1) [.ref (keepC (ix x2))] [] dX4_order_53 (c_X1_comparedWith l D cA shC (keepC_sh (vp_in_lt hi5)) (keepC_sh (vp_in_lt hi6)) h) q531 q532 q533 q49 q534 (keepSh.b0 (keepC_sh (vp_in_lt hi5))) (keepSh.k0 (keepC_sh (vp_in_lt hi5))) rfl ⟨rfl, by decide, by decide, by decide +kernel⟩ rfl rfl (Nat.le_of_ble_eq_true rfl) rfl rfl ⟨(Nat.le_of_ble_eq_true rfl), (Nat.le_of_ble_eq_true rfl)⟩ (Nat.le_of_ble_eq_true rfl) (Nat.le_of_ble_eq_true rfl) (fun r8 σ7 h => ?_)
          refine g_istore X [(5, .int r8), (4, .ref (keepC (ix x2))), (3, .ref (keepC (ix x1))), (0, .ref 0), (1, .int x1), (2, .int x2)] dX4_order_56 (Nat.le_of_ble_eq_true rfl) rfl ?_
          refine g_iload X 0 dX4_order_58 rfl ?_
          refine g_if_ne X 65 dX4_order_60 (by decide) (fun hc => ?_) (fun hc => ?_)
          · have h := h.1 hc
            refine g_iload X 0 dX4_order_65 rfl ?_
            refine g_if_ge X 74 dX4_order_67 (by decide) (fun hc => ?_) (fun hc => ?_)
            · have h := h.1 hc
              refine g_iconst X (3 : Int32) dX4_order_74 (by decide) ?_
              exact g_iret X hr dX4_order_75 rfl h
            · have h := h.2 hc
              refine g_iconst X (2 : Int32) dX4_order_70 (by decide) ?_
              refine g_goto X 75 dX4_order_71 (by decide) ?_
              exact g_iret X hr dX4_order_75 rfl h
          · have h := h.2 hc
            refine g_iconst X (1 : Int32) dX4_order_63 (by decide) ?_
            exact g_iret X hr dX4_order_64 rfl h
        · have h := h.2 hc
          refine g_bipush X (-11 : Int32) dX4_order_47 (by decide) ?_
          exact g_iret X hr dX4_order_49 rfl h
    · have h := h.2 hc
      refine g_bipush X (-3 : Int32) dX4_order_14 (by decide) ?_
      exact g_iret X hr dX4_order_16 rfl h
theorem c_X4_order (l : Launch) (D : va_G) (cA : Nat → ClassId) {x1 : Int32} {x2 : Int32} {σ : St} {Q : Int32 → St → Prop} (h : w_X4_order Q x1 x2 σ) : CtI l yX4_order cX4_order 6 (some .int) rmX4_order D cA shC [.ref 0, .int x1, .int x2] σ Q := by
  refine CtI.of (own := RX4) rfl (by decide +kernel) [(0, .ref 0), (1, .int x1), (2, .int x2)] rfl (Nat.le_of_ble_eq_true rfl) ?_
  intro p e s m args below meth c ad0 A X hr
  exact b_X4_order_0 X hr  h
def rmX4_undo : Room := { frames := 3, cells := 0, slots := 0, locals := 82 }
def w_X4_undo (Q : Int32 → St → Prop) (σ : St) : Prop := ((¬ (gI σ 3 2) = 0 → w_X0_latestKeeper (fun r2 σ1 => w_X4_isKeeper (fun r4 σ3 => ((¬ r4 = 0 → vp_in r2 6 ∧ w_X0_takeBack (fun σ6 => (Q r2 σ6)) (keepC (ix r2)) σ3) ∧ (r4 = 0 → (Q (-1 : Int32) σ3)))) r2 σ1) σ) ∧ ((gI σ 3 2) = 0 → (Q (-1 : Int32) σ)))
set_option maxRecDepth 100000 in
set_option maxHeartbeats 4000000 in
theorem b_X4_undo_0 {p : Program} {l : Launch} {e : Env} {s : State} {m : MethodId} {args : Array Value} {below : List Frame} {meth : Method} {c : Code} {D : va_G} {cA : Nat → ClassId} {A : Nat → Prop} {ad0 : Nat → Nat} {Q : Int32 → St → Prop} {σ : St} (X : Cx p rmX4_undo s m args meth c cX4_undo 2 RX4 D cA A) (hr : meth.sig.returnType = some .int) (h : w_X4_undo Q  σ) : G p l e rmX4_undo s m args below meth c 2 D cA A (MQ below (va_Qi Q (EndW D cA ad0 shC) A) args s 0 0 A) 0 0 (fun ad => ad = ad0) shC σ [(0, .ref 0)] 0 [] := by
  unfold w_X4_undo at h
  refine g_aload_n X 0 dX4_undo_0 rfl rfl ?_
  refine g_getR X (C := RX4) (T := TX4) (N := 7) 2 dX4_undo_1 (Nat.le_of_ble_eq_true rfl) rfl rfl rfl inG4 (Nat.le_of_ble_eq_true rfl) rfl rfl q207 ?_
  refine g_getI X (C := RX0) (T := TX0) (N := 4) 2 dX4_undo_4 (Nat.le_of_ble_eq_true rfl) rfl rfl rfl inG0 (Nat.le_of_ble_eq_true rfl) rfl q105 ?_
  refine g_if_ne X 12 dX4_undo_7 (by decide) (fun hc => ?_) (fun hc => ?_)
  · have h := h.1 hc
    refine g_aload_n X 0 dX4_undo_12 rfl rfl ?_
    refine g_getR X (C := RX4) (T := TX4) (N := 7) 2 dX4_undo_13 (Nat.le_of_ble_eq_true rfl) rfl rfl rfl inG4 (Nat.le_of_ble_eq_true rfl) rfl rfl q207 ?_
    refine g_callVI X (C := RX0) (T := TX0) (N := 4) (n := 0) [] [] dX4_undo_16 (c_X0_latestKeeper l D cA h) q539 q540 q541 q48 q542 (Nat.le_of_ble_eq_true rfl) rfl rfl ⟨rfl, by decide, by decide, by decide +kernel⟩ rfl rfl (Nat.le_of_ble_eq_true rfl) rfl rfl ⟨(Nat.le_of_ble_eq_true rfl), (Nat.le_of_ble_eq_true rfl)⟩ (Nat.le_of_ble_eq_true rfl) (Nat.le_of_ble_eq_true rfl) (fun r2 σ1 h => ?_)
    refine g_istore_n X [(1, .int r2), (0, .ref 0)] dX4_undo_19 rfl (Nat.le_of_ble_eq_true rfl) rfl ?_
    refine g_iload_n X 0 dX4_undo_20 rfl rfl ?_
    refine g_callSI X (n := 1) [.int r2] [] dX4_undo_21 (c_X4_isKeeper l D cA shC h) q312 q313 q47 q314 ⟨by decide, by decide, by decide +kernel⟩ rfl rfl (Nat.le_of_ble_eq_true rfl) rfl rfl ⟨(Nat.le_of_ble_eq_true rfl), (Nat.le_of_ble_eq_true rfl)⟩ (Nat.le_of_ble_eq_true rfl) (Nat.le_of_ble_eq_true rfl) (fun r4 σ3 h => ?_)
    refine g_if_ne X 29 dX4_undo_24 (by decide) (fun hc => ?_) (fun hc => ?_)
    · have h := h.1 hc
      refine g_aload_n X 1 dX4_undo_29 rfl rfl ?_
      refine g_getR X (C := RX4) (T := TX4) (N := 7) 2 dX4_undo_30 (Nat.le_of_ble_eq_true rfl) rfl rfl rfl inG4 (Nat.le_of_ble_eq_true rfl) rfl rfl q207 ?_
      refine g_aload_n X 1 dX4_undo_33 rfl rfl ?_
      refine g_getR X (C := RX4) (T := TX4) (N := 7) 1 dX4_undo_34 (Nat.le_of_ble_eq_true rfl) rfl rfl rfl inG4 (Nat.le_of_ble_eq_true rfl) rfl rfl q206 ?_
      refine g_iload_n X 0 dX4_undo_37 rfl rfl ?_
      obtain ⟨hi5, h⟩ := h
      refine g_aald X (C := RX1) (t := 1) dX4_undo_38 (Nat.le_of_ble_eq_true rfl) rfl rfl hi5 (keepC_r (vp_in_lt hi5)) ?_
      refine g_callVV X (C := RX0) (T := TX0) (N := 4) (n := 1) [.ref (keepC (ix r2))] [] dX4_undo_39 (c_X0_takeBack l D cA (keepC_sh (vp_in_lt hi5)) h) q543 q544 q545 q48 q546 (Nat.le_of_ble_eq_true rfl) rfl rfl ⟨rfl, by decide, by decide, by decide +kernel⟩ rfl rfl (Nat.le_of_ble_eq_true rfl) rfl rfl ⟨(Nat.le_of_ble_eq_true rfl), (Nat.le_of_ble_eq_true rfl)⟩ (Nat.le_of_ble_eq_true rfl) (Nat.le_of_ble_eq_true rfl) (fun σ6 h => ?_)
      refine g_iload_n X 0 dX4_undo_42 rfl rfl ?_
      exact g_iret X hr dX4_undo_43 rfl h
    · have h := h.2 hc
      refine g_iconst X (-1 : Int32) dX4_undo_27 (by decide) ?_
      exact g_iret X hr dX4_undo_28 rfl h
  · have h := h.2 hc
    refine g_iconst X (-1 : Int32) dX4_undo_10 (by decide) ?_
    exact g_iret X hr dX4_undo_11 rfl h
theorem c_X4_undo (l : Launch) (D : va_G) (cA : Nat → ClassId) {σ : St} {Q : Int32 → St → Prop} (h : w_X4_undo Q  σ) : CtI l yX4_undo cX4_undo 2 (some .int) rmX4_undo D cA shC [.ref 0] σ Q := by
  refine CtI.of (own := RX4) rfl (by decide +kernel) [(0, .ref 0)] rfl (Nat.le_of_ble_eq_true rfl) ?_
  intro p e s m args below meth c ad0 A X hr
  exact b_X4_undo_0 X hr  h
def rmX4_rowsThere : Room := { frames := 0, cells := 0, slots := 0, locals := 0 }
def w_X4_rowsThere_13 (Q : Int32 → St → Prop) : Nat → Int32 → Int32 → Int32 → St → Prop
  | 0, _, _, _, _ => False
  | n + 1, x1, x3, x4, σ => ((x3 ≤ x4 → (Q x1 σ)) ∧ (¬ x3 ≤ x4 → vp_in x4 12 ∧ (((gI σ (rowC (ix x4)) 0) = 0 → ∀ y2 : Int32, y2 = (x1 + (0 : Int32)) → ∀ y3 : Int32, y3 = x4 + (1 : Int32) → (w_X4_rowsThere_13 Q n y2 x3 y3 σ)) ∧ (¬ (gI σ (rowC (ix x4)) 0) = 0 → ∀ y4 : Int32, y4 = (x1 + (1 : Int32)) → ∀ y5 : Int32, y5 = x4 + (1 : Int32) → (w_X4_rowsThere_13 Q n y4 x3 y5 σ)))))
set_option maxRecDepth 100000 in
set_option maxHeartbeats 4000000 in
theorem b_X4_rowsThere_13 {p : Program} {l : Launch} {e : Env} {s : State} {m : MethodId} {args : Array Value} {below : List Frame} {meth : Method} {c : Code} {D : va_G} {cA : Nat → ClassId} {A : Nat → Prop} {ad0 : Nat → Nat} {Q : Int32 → St → Prop} (X : Cx p rmX4_rowsThere s m args meth c cX4_rowsThere 6 RX4 D cA A) (hr : meth.sig.returnType = some .int) : ∀ (n : Nat) (x1 : Int32) (x3 : Int32) (x4 : Int32) (σ : St), w_X4_rowsThere_13 Q n x1 x3 x4 σ → G p l e rmX4_rowsThere s m args below meth c 6 D cA A (MQ below (va_Qi Q (EndW D cA ad0 shC) A) args s 0 0 A) 0 0 (fun ad => ad = ad0) shC σ [(1, .int x1), (2, .ref 1), (3, .int x3), (4, .int x4)] 13 [] := by
  intro n
  induction n with
  | zero => intro x1 x3 x4 σ h; exact h.elim
  | succ n ih =>
    intro x1 x3 x4 σ h
    rw [w_X4_rowsThere_13] at h
    refine g_iload X 3 dX4_rowsThere_13 rfl ?_
    refine g_iload_n X 2 dX4_rowsThere_15 rfl rfl ?_
    refine g_icmp_ge X 47 dX4_rowsThere_16 (by decide) (fun hc => ?_) (fun hc => ?_)
    · have h := h.1 hc
      refine g_iload_n X 0 dX4_rowsThere_47 rfl rfl ?_
      exact g_iret X hr dX4_rowsThere_48 rfl h
    · have h := h.2 hc
      refine g_aload_n X 1 dX4_rowsThere_19 rfl rfl ?_
      refine g_iload X 3 dX4_rowsThere_20 rfl ?_
      obtain ⟨hi1, h⟩ := h
      refine g_aald X (C := RX2) (t := 0) dX4_rowsThere_22 (Nat.le_of_ble_eq_true rfl) rfl rfl hi1 (rowC_r (vp_in_lt hi1)) ?_
      refine g_astore X [(5, .ref (rowC (ix x4))), (1, .int x1), (2, .ref 1), (3, .int x3), (4, .int x4)] dX4_rowsThere_23 (Nat.le_of_ble_eq_true rfl) rfl ?_
      refine g_iload_n X 1 dX4_rowsThere_25 rfl rfl ?_
      refine g_aload X 0 dX4_rowsThere_26 rfl ?_
      refine g_getI X (C := RX2) (T := TX2) (N := 6) 0 dX4_rowsThere_28 (rowSh.b0 (rowC_sh (vp_in_lt hi1))) (rowSh.k0 (rowC_sh (vp_in_lt hi1))) rfl rfl inG2 (Nat.le_of_ble_eq_true rfl) rfl q132 ?_
      refine g_if_eq X 38 dX4_rowsThere_31 (by decide) (fun hc => ?_) (fun hc => ?_)
      · have h := h.1 hc
        refine g_iconst X (0 : Int32) dX4_rowsThere_38 (by decide) ?_
        refine g_iadd X dX4_rowsThere_39 ?_
        refine g_nameI (fun y2 ey2 => ?_)
        have h := h y2 ey2
        refine g_istore_n X [(1, .int y2), (5, .ref (rowC (ix x4))), (2, .ref 1), (3, .int x3), (4, .int x4)] dX4_rowsThere_40 rfl (Nat.le_of_ble_eq_true rfl) rfl ?_
        obtain ⟨y3, ey3⟩ : ∃ y : Int32, y = x4 + (1 : Int32) := ⟨_, rfl⟩
        have h := h y3 ey3
        refine g_iinc X 4 (1 : Int32) [(4, .int y3), (1, .int y2), (5, .ref (rowC (ix x4))), (2, .ref 1), (3, .int x3)] dX4_rowsThere_41 rfl (by decide) (Nat.le_of_ble_eq_true rfl) (by rw [ey3]; rfl) ?_
        refine g_goto X 13 dX4_rowsThere_44 (by decide) ?_
        refine g_weak [1, 3, 4, 0] rfl ?_
        exact ih _ _ _ _ h
      · have h := h.2 hc
        refine g_iconst X (1 : Int32) dX4_rowsThere_34 (by decide) ?_
        refine g_goto X 39 dX4_rowsThere_35 (by decide) ?_
        refine g_iadd X dX4_rowsThere_39 ?_
        refine g_nameI (fun y4 ey4 => ?_)
        have h := h y4 ey4
        refine g_istore_n X [(1, .int y4), (5, .ref (rowC (ix x4))), (2, .ref 1), (3, .int x3), (4, .int x4)] dX4_rowsThere_40 rfl (Nat.le_of_ble_eq_true rfl) rfl ?_
        obtain ⟨y5, ey5⟩ : ∃ y : Int32, y = x4 + (1 : Int32) := ⟨_, rfl⟩
        have h := h y5 ey5
        refine g_iinc X 4 (1 : Int32) [(4, .int y5), (1, .int y4), (5, .ref (rowC (ix x4))), (2, .ref 1), (3, .int x3)] dX4_rowsThere_41 rfl (by decide) (Nat.le_of_ble_eq_true rfl) (by rw [ey5]; rfl) ?_
        refine g_goto X 13 dX4_rowsThere_44 (by decide) ?_
        refine g_weak [1, 3, 4, 0] rfl ?_
        exact ih _ _ _ _ h
def w_X4_rowsThere (Q : Int32 → St → Prop) (σ : St) : Prop := (∃ fu6 : Nat, w_X4_rowsThere_13 Q fu6 (0 : Int32) (12 : Int32) (0 : Int32) σ)
set_option maxRecDepth 100000 in
set_option maxHeartbeats 4000000 in
theorem b_X4_rowsThere_0 {p : Program} {l : Launch} {e : Env} {s : State} {m : MethodId} {args : Array Value} {below : List Frame} {meth : Method} {c : Code} {D : va_G} {cA : Nat → ClassId} {A : Nat → Prop} {ad0 : Nat → Nat} {Q : Int32 → St → Prop} {σ : St} (X : Cx p rmX4_rowsThere s m args meth c cX4_rowsThere 6 RX4 D cA A) (hr : meth.sig.returnType = some .int) (h : w_X4_rowsThere Q  σ) : G p l e rmX4_rowsThere s m args below meth c 6 D cA A (MQ below (va_Qi Q (EndW D cA ad0 shC) A) args s 0 0 A) 0 0 (fun ad => ad = ad0) shC σ [(0, .ref 0)] 0 [] := by
  unfold w_X4_rowsThere at h
  refine g_iconst X (0 : Int32) dX4_rowsThere_0 (by decide) ?_
  refine g_istore_n X [(1, .int (0 : Int32)), (0, .ref 0)] dX4_rowsThere_1 rfl (Nat.le_of_ble_eq_true rfl) rfl ?_
  refine g_aload_n X 1 dX4_rowsThere_2 rfl rfl ?_
  refine g_getR X (C := RX4) (T := TX4) (N := 7) 0 dX4_rowsThere_3 (Nat.le_of_ble_eq_true rfl) rfl rfl rfl inG4 (Nat.le_of_ble_eq_true rfl) rfl rfl q205 ?_
  refine g_astore_n X [(2, .ref 1), (1, .int (0 : Int32)), (0, .ref 0)] dX4_rowsThere_6 rfl (Nat.le_of_ble_eq_true rfl) rfl ?_
  refine g_aload_n X 0 dX4_rowsThere_7 rfl rfl ?_
  refine g_alenq X (C := RX2) (t := 0) (12 : Int32) dX4_rowsThere_8 (Nat.le_of_ble_eq_true rfl) rfl rfl (by decide) ?_
  refine g_istore_n X [(3, .int (12 : Int32)), (2, .ref 1), (1, .int (0 : Int32)), (0, .ref 0)] dX4_rowsThere_9 rfl (Nat.le_of_ble_eq_true rfl) rfl ?_
  refine g_iconst X (0 : Int32) dX4_rowsThere_10 (by decide) ?_
  refine g_istore X [(4, .int (0 : Int32)), (3, .int (12 : Int32)), (2, .ref 1), (1, .int (0 : Int32)), (0, .ref 0)] dX4_rowsThere_11 (Nat.le_of_ble_eq_true rfl) rfl ?_
  refine g_weak [3, 2, 1, 0] rfl ?_
  obtain ⟨fu6, h⟩ := h
  exact b_X4_rowsThere_13 X hr fu6 _ _ _ _ h
theorem c_X4_rowsThere (l : Launch) (D : va_G) (cA : Nat → ClassId) {σ : St} {Q : Int32 → St → Prop} (h : w_X4_rowsThere Q  σ) : CtI l yX4_rowsThere cX4_rowsThere 6 (some .int) rmX4_rowsThere D cA shC [.ref 0] σ Q := by
  refine CtI.of (own := RX4) rfl (by decide +kernel) [(0, .ref 0)] rfl (Nat.le_of_ble_eq_true rfl) ?_
  intro p e s m args below meth c ad0 A X hr
  exact b_X4_rowsThere_0 X hr  h
def rmX4_keepersThere : Room := { frames := 1, cells := 0, slots := 0, locals := 20 }
def w_X4_keepersThere_14 (Q : Int32 → St → Prop) : Nat → Int32 → Int32 → Int32 → Int32 → St → Prop
  | 0, _, _, _, _, _ => False
  | n + 1, x1, x2, x4, x5, σ => ((x4 ≤ x5 → (Q x2 σ)) ∧ (¬ x4 ≤ x5 → vp_in x5 6 ∧ (((gI σ (keepC (ix x5)) 0) = 0 → ∀ y2 : Int32, y2 = x5 + (1 : Int32) → (w_X4_keepersThere_14 Q n x1 x2 x4 y2 σ)) ∧ (¬ (gI σ (keepC (ix x5)) 0) = 0 → ((x1 = 0 → ∀ y3 : Int32, y3 = x2 + (1 : Int32) → ∀ y4 : Int32, y4 = x5 + (1 : Int32) → (w_X4_keepersThere_14 Q n x1 y3 x4 y4 σ)) ∧ (¬ x1 = 0 → w_X1_state (keepC (ix x5)) (fun r6 σ5 => ((¬ r6 = (3 : Int32) → ∀ y7 : Int32, y7 = x5 + (1 : Int32) → (w_X4_keepersThere_14 Q n x1 x2 x4 y7 σ5)) ∧ (r6 = (3 : Int32) → ∀ y8 : Int32, y8 = x2 + (1 : Int32) → ∀ y9 : Int32, y9 = x5 + (1 : Int32) → (w_X4_keepersThere_14 Q n x1 y8 x4 y9 σ5)))) σ))))))
set_option maxRecDepth 100000 in
set_option maxHeartbeats 4000000 in
theorem b_X4_keepersThere_14 {p : Program} {l : Launch} {e : Env} {s : State} {m : MethodId} {args : Array Value} {below : List Frame} {meth : Method} {c : Code} {D : va_G} {cA : Nat → ClassId} {A : Nat → Prop} {ad0 : Nat → Nat} {Q : Int32 → St → Prop} (X : Cx p rmX4_keepersThere s m args meth c cX4_keepersThere 7 RX4 D cA A) (hr : meth.sig.returnType = some .int) : ∀ (n : Nat) (x1 : Int32) (x2 : Int32) (x4 : Int32) (x5 : Int32) (σ : St), w_X4_keepersThere_14 Q n x1 x2 x4 x5 σ → G p l e rmX4_keepersThere s m args below meth c 7 D cA A (MQ below (va_Qi Q (EndW D cA ad0 shC) A) args s 0 0 A) 0 0 (fun ad => ad = ad0) shC σ [(1, .int x1), (2, .int x2), (3, .ref 2), (4, .int x4), (5, .int x5)] 14 [] := by
  intro n
  induction n with
  | zero => intro x1 x2 x4 x5 σ h; exact h.elim
  | succ n ih =>
    intro x1 x2 x4 x5 σ h
    rw [w_X4_keepersThere_14] at h
    refine g_iload X 4 dX4_keepersThere_14 rfl ?_
    refine g_iload X 3 dX4_keepersThere_16 rfl ?_
    refine g_icmp_ge X 57 dX4_keepersThere_18 (by decide) (fun hc => ?_) (fun hc => ?_)
    · have h := h.1 hc
      refine g_iload_n X 1 dX4_keepersThere_57 rfl rfl ?_
      exact g_iret X hr dX4_keepersThere_58 rfl h
    · have h := h.2 hc
      refine g_aload_n X 2 dX4_keepersThere_21 rfl rfl ?_
      refine g_iload X 4 dX4_keepersThere_22 rfl ?_
      obtain ⟨hi1, h⟩ := h
      refine g_aald X (C := RX1) (t := 1) dX4_keepersThere_24 (Nat.le_of_ble_eq_true rfl) rfl rfl hi1 (keepC_r (vp_in_lt hi1)) ?_
      refine g_astore X [(6, .ref (keepC (ix x5))), (1, .int x1), (2, .int x2), (3, .ref 2), (4, .int x4), (5, .int x5)] dX4_keepersThere_25 (Nat.le_of_ble_eq_true rfl) rfl ?_
      refine g_aload X 0 dX4_keepersThere_27 rfl ?_
      refine g_getI X (C := RX1) (T := TX1) (N := 4) 0 dX4_keepersThere_29 (keepSh.b0 (keepC_sh (vp_in_lt hi1))) (keepSh.k0 (keepC_sh (vp_in_lt hi1))) rfl rfl inG1 (Nat.le_of_ble_eq_true rfl) rfl q84 ?_
      refine g_if_eq X 51 dX4_keepersThere_32 (by decide) (fun hc => ?_) (fun hc => ?_)
      · have h := h.1 hc
        obtain ⟨y2, ey2⟩ : ∃ y : Int32, y = x5 + (1 : Int32) := ⟨_, rfl⟩
        have h := h y2 ey2
        refine g_iinc X 5 (1 : Int32) [(5, .int y2), (6, .ref (keepC (ix x5))), (1, .int x1), (2, .int x2), (3, .ref 2), (4, .int x4)] dX4_keepersThere_51 rfl (by decide) (Nat.le_of_ble_eq_true rfl) (by rw [ey2]; rfl) ?_
        refine g_goto X 14 dX4_keepersThere_54 (by decide) ?_
        refine g_weak [2, 3, 4, 5, 0] rfl ?_
        exact ih _ _ _ _ _ h
      · have h := h.2 hc
        refine g_iload_n X 1 dX4_keepersThere_35 rfl rfl ?_
        refine g_if_eq X 48 dX4_keepersThere_36 (by decide) (fun hc => ?_) (fun hc => ?_)
        · have h := h.1 hc
          obtain ⟨y3, ey3⟩ : ∃ y : Int32, y = x2 + (1 : Int32) := ⟨_, rfl⟩
          have h := h y3 ey3
          refine g_iinc X 2 (1 : Int32) [(2, .int y3), (6, .ref (keepC (ix x5))), (1, .int x1), (3, .ref 2), (4, .int x4), (5, .int x5)] dX4_keepersThere_48 rfl (by decide) (Nat.le_of_ble_eq_true rfl) (by rw [ey3]; rfl) ?_
          obtain ⟨y4, ey4⟩ : ∃ y : Int32, y = x5 + (1 : Int32) := ⟨_, rfl⟩
          have h := h y4 ey4
          refine g_iinc X 5 (1 : Int32) [(5, .int y4), (2, .int y3), (6, .ref (keepC (ix x5))), (1, .int x1), (3, .ref 2), (4, .int x4)] dX4_keepersThere_51 rfl (by decide) (Nat.le_of_ble_eq_true rfl) (by rw [ey4]; rfl) ?_
          refine g_goto X 14 dX4_keepersThere_54 (by decide) ?_
          refine g_weak [3, 1, 4, 5, 0] rfl ?_
          exact ih _ _ _ _ _ h
        · have h := h.2 hc
          refine g_aload X 0 dX4_keepersThere_39 rfl ?_
          refine g_callVI X (C := RX1) (T := TX1) (N := 4) (n := 0) [] [] dX4_keepersThere_41 (c_X1_state l D cA shC (keepC_sh (vp_in_lt hi1)) h) q429 q430 q431 q49 q432 (keepSh.b0 (keepC_sh (vp_in_lt hi1))) (keepSh.k0 (keepC_sh (vp_in_lt hi1))) rfl ⟨rfl, by decide, by decide, by decide +kernel⟩ rfl rfl (Nat.le_of_ble_eq_true rfl) rfl rfl ⟨(Nat.le_of_ble_eq_true rfl), (Nat.le_of_ble_eq_true rfl)⟩ (Nat.le_of_ble_eq_true rfl) (Nat.le_of_ble_eq_true rfl) (fun r6 σ5 h => ?_)
          refine g_iconst X (3 : Int32) dX4_keepersThere_44 (by decide) ?_
          refine g_icmp_ne X 51 dX4_keepersThere_45 (by decide) (fun hc => ?_) (fun hc => ?_)
          · have h := h.1 hc
            obtain ⟨y7, ey7⟩ : ∃ y : Int32, y = x5 + (1 : Int32) := ⟨_, rfl⟩
            have h := h y7 ey7
            refine g_iinc X 5 (1 : Int32) [(5, .int y7), (6, .ref (keepC (ix x5))), (1, .int x1), (2, .int x2), (3, .ref 2), (4, .int x4)] dX4_keepersThere_51 rfl (by decide) (Nat.le_of_ble_eq_true rfl) (by rw [ey7]; rfl) ?_
            refine g_goto X 14 dX4_keepersThere_54 (by decide) ?_
            refine g_weak [2, 3, 4, 5, 0] rfl ?_
            exact ih _ _ _ _ _ h
          · have h := h.2 hc
            obtain ⟨y8, ey8⟩ : ∃ y : Int32, y = x2 + (1 : Int32) := ⟨_, rfl⟩
            have h := h y8 ey8
            refine g_iinc X 2 (1 : Int32) [(2, .int y8), (6, .ref (keepC (ix x5))), (1, .int x1), (3, .ref 2), (4, .int x4), (5, .int x5)] dX4_keepersThere_48 rfl (by decide) (Nat.le_of_ble_eq_true rfl) (by rw [ey8]; rfl) ?_
            obtain ⟨y9, ey9⟩ : ∃ y : Int32, y = x5 + (1 : Int32) := ⟨_, rfl⟩
            have h := h y9 ey9
            refine g_iinc X 5 (1 : Int32) [(5, .int y9), (2, .int y8), (6, .ref (keepC (ix x5))), (1, .int x1), (3, .ref 2), (4, .int x4)] dX4_keepersThere_51 rfl (by decide) (Nat.le_of_ble_eq_true rfl) (by rw [ey9]; rfl) ?_
            refine g_goto X 14 dX4_keepersThere_54 (by decide) ?_
            refine g_weak [3, 1, 4, 5, 0] rfl ?_
            exact ih _ _ _ _ _ h
def w_X4_keepersThere (Q : Int32 → St → Prop) (x1 : Int32) (σ : St) : Prop := (∃ fu10 : Nat, w_X4_keepersThere_14 Q fu10 x1 (0 : Int32) (6 : Int32) (0 : Int32) σ)
set_option maxRecDepth 100000 in
set_option maxHeartbeats 4000000 in
theorem b_X4_keepersThere_0 {p : Program} {l : Launch} {e : Env} {s : State} {m : MethodId} {args : Array Value} {below : List Frame} {meth : Method} {c : Code} {D : va_G} {cA : Nat → ClassId} {A : Nat → Prop} {ad0 : Nat → Nat} {Q : Int32 → St → Prop} {x1 : Int32} {σ : St} (X : Cx p rmX4_keepersThere s m args meth c cX4_keepersThere 7 RX4 D cA A) (hr : meth.sig.returnType = some .int) (h : w_X4_keepersThere Q x1 σ) : G p l e rmX4_keepersThere s m args below meth c 7 D cA A (MQ below (va_Qi Q (EndW D cA ad0 shC) A) args s 0 0 A) 0 0 (fun ad => ad = ad0) shC σ [(0, .ref 0), (1, .int x1)] 0 [] := by
  unfold w_X4_keepersThere at h
  refine g_iconst X (0 : Int32) dX4_keepersThere_0 (by decide) ?_
  refine g_istore_n X [(2, .int (0 : Int32)), (0, .ref 0), (1, .int x1)] dX4_keepersThere_1 rfl (Nat.le_of_ble_eq_true rfl) rfl ?_
  refine g_aload_n X 1 dX4_keepersThere_2 rfl rfl ?_
  refine g_getR X (C := RX4) (T := TX4) (N := 7) 1 dX4_keepersThere_3 (Nat.le_of_ble_eq_true rfl) rfl rfl rfl inG4 (Nat.le_of_ble_eq_true rfl) rfl rfl q206 ?_
  refine g_astore_n X [(3, .ref 2), (2, .int (0 : Int32)), (0, .ref 0), (1, .int x1)] dX4_keepersThere_6 rfl (Nat.le_of_ble_eq_true rfl) rfl ?_
  refine g_aload_n X 0 dX4_keepersThere_7 rfl rfl ?_
  refine g_alenq X (C := RX1) (t := 1) (6 : Int32) dX4_keepersThere_8 (Nat.le_of_ble_eq_true rfl) rfl rfl (by decide) ?_
  refine g_istore X [(4, .int (6 : Int32)), (3, .ref 2), (2, .int (0 : Int32)), (0, .ref 0), (1, .int x1)] dX4_keepersThere_9 (Nat.le_of_ble_eq_true rfl) rfl ?_
  refine g_iconst X (0 : Int32) dX4_keepersThere_11 (by decide) ?_
  refine g_istore X [(5, .int (0 : Int32)), (4, .int (6 : Int32)), (3, .ref 2), (2, .int (0 : Int32)), (0, .ref 0), (1, .int x1)] dX4_keepersThere_12 (Nat.le_of_ble_eq_true rfl) rfl ?_
  refine g_weak [5, 3, 2, 1, 0] rfl ?_
  obtain ⟨fu10, h⟩ := h
  exact b_X4_keepersThere_14 X hr fu10 _ _ _ _ _ h
theorem c_X4_keepersThere (l : Launch) (D : va_G) (cA : Nat → ClassId) {x1 : Int32} {σ : St} {Q : Int32 → St → Prop} (h : w_X4_keepersThere Q x1 σ) : CtI l yX4_keepersThere cX4_keepersThere 7 (some .int) rmX4_keepersThere D cA shC [.ref 0, .int x1] σ Q := by
  refine CtI.of (own := RX4) rfl (by decide +kernel) [(0, .ref 0), (1, .int x1)] rfl (Nat.le_of_ble_eq_true rfl) ?_
  intro p e s m args below meth c ad0 A X hr
  exact b_X4_keepersThere_0 X hr  h
def rmX4_placesThere : Room := { frames := 0, cells := 0, slots := 0, locals := 0 }
def w_X4_placesThere_13 (Q : Int32 → St → Prop) : Nat → Int32 → Int32 → Int32 → St → Prop
  | 0, _, _, _, _ => False
  | n + 1, x1, x3, x4, σ => ((x3 ≤ x4 → (Q x1 σ)) ∧ (¬ x3 ≤ x4 → vp_in x4 12 ∧ (((gI σ (rowC (ix x4)) 0) = 0 → ∀ y2 : Int32, y2 = (x1 + (0 : Int32)) → ∀ y3 : Int32, y3 = x4 + (1 : Int32) → (w_X4_placesThere_13 Q n y2 x3 y3 σ)) ∧ (¬ (gI σ (rowC (ix x4)) 0) = 0 → ∀ y4 : Int32, y4 = (x1 + (gI σ (rowC (ix x4)) 2)) → ∀ y5 : Int32, y5 = x4 + (1 : Int32) → (w_X4_placesThere_13 Q n y4 x3 y5 σ)))))
set_option maxRecDepth 100000 in
set_option maxHeartbeats 4000000 in
theorem b_X4_placesThere_13 {p : Program} {l : Launch} {e : Env} {s : State} {m : MethodId} {args : Array Value} {below : List Frame} {meth : Method} {c : Code} {D : va_G} {cA : Nat → ClassId} {A : Nat → Prop} {ad0 : Nat → Nat} {Q : Int32 → St → Prop} (X : Cx p rmX4_placesThere s m args meth c cX4_placesThere 6 RX4 D cA A) (hr : meth.sig.returnType = some .int) : ∀ (n : Nat) (x1 : Int32) (x3 : Int32) (x4 : Int32) (σ : St), w_X4_placesThere_13 Q n x1 x3 x4 σ → G p l e rmX4_placesThere s m args below meth c 6 D cA A (MQ below (va_Qi Q (EndW D cA ad0 shC) A) args s 0 0 A) 0 0 (fun ad => ad = ad0) shC σ [(1, .int x1), (2, .ref 1), (3, .int x3), (4, .int x4)] 13 [] := by
  intro n
  induction n with
  | zero => intro x1 x3 x4 σ h; exact h.elim
  | succ n ih =>
    intro x1 x3 x4 σ h
    rw [w_X4_placesThere_13] at h
    refine g_iload X 3 dX4_placesThere_13 rfl ?_
    refine g_iload_n X 2 dX4_placesThere_15 rfl rfl ?_
    refine g_icmp_ge X 51 dX4_placesThere_16 (by decide) (fun hc => ?_) (fun hc => ?_)
    · have h := h.1 hc
      refine g_iload_n X 0 dX4_placesThere_51 rfl rfl ?_
      exact g_iret X hr dX4_placesThere_52 rfl h
    · have h := h.2 hc
      refine g_aload_n X 1 dX4_placesThere_19 rfl rfl ?_
      refine g_iload X 3 dX4_placesThere_20 rfl ?_
      obtain ⟨hi1, h⟩ := h
      refine g_aald X (C := RX2) (t := 0) dX4_placesThere_22 (Nat.le_of_ble_eq_true rfl) rfl rfl hi1 (rowC_r (vp_in_lt hi1)) ?_
      refine g_astore X [(5, .ref (rowC (ix x4))), (1, .int x1), (2, .ref 1), (3, .int x3), (4, .int x4)] dX4_placesThere_23 (Nat.le_of_ble_eq_true rfl) rfl ?_
      refine g_iload_n X 1 dX4_placesThere_25 rfl rfl ?_
      refine g_aload X 0 dX4_placesThere_26 rfl ?_
      refine g_getI X (C := RX2) (T := TX2) (N := 6) 0 dX4_placesThere_28 (rowSh.b0 (rowC_sh (vp_in_lt hi1))) (rowSh.k0 (rowC_sh (vp_in_lt hi1))) rfl rfl inG2 (Nat.le_of_ble_eq_true rfl) rfl q132 ?_
      refine g_if_eq X 42 dX4_placesThere_31 (by decide) (fun hc => ?_) (fun hc => ?_)
      · have h := h.1 hc
        refine g_iconst X (0 : Int32) dX4_placesThere_42 (by decide) ?_
        refine g_iadd X dX4_placesThere_43 ?_
        refine g_nameI (fun y2 ey2 => ?_)
        have h := h y2 ey2
        refine g_istore_n X [(1, .int y2), (5, .ref (rowC (ix x4))), (2, .ref 1), (3, .int x3), (4, .int x4)] dX4_placesThere_44 rfl (Nat.le_of_ble_eq_true rfl) rfl ?_
        obtain ⟨y3, ey3⟩ : ∃ y : Int32, y = x4 + (1 : Int32) := ⟨_, rfl⟩
        have h := h y3 ey3
        refine g_iinc X 4 (1 : Int32) [(4, .int y3), (1, .int y2), (5, .ref (rowC (ix x4))), (2, .ref 1), (3, .int x3)] dX4_placesThere_45 rfl (by decide) (Nat.le_of_ble_eq_true rfl) (by rw [ey3]; rfl) ?_
        refine g_goto X 13 dX4_placesThere_48 (by decide) ?_
        refine g_weak [1, 3, 4, 0] rfl ?_
        exact ih _ _ _ _ h
      · have h := h.2 hc
        refine g_aload X 0 dX4_placesThere_34 rfl ?_
        refine g_getI X (C := RX2) (T := TX2) (N := 6) 2 dX4_placesThere_36 (rowSh.b0 (rowC_sh (vp_in_lt hi1))) (rowSh.k0 (rowC_sh (vp_in_lt hi1))) rfl rfl inG2 (Nat.le_of_ble_eq_true rfl) rfl q136 ?_
        refine g_goto X 43 dX4_placesThere_39 (by decide) ?_
        refine g_iadd X dX4_placesThere_43 ?_
        refine g_nameI (fun y4 ey4 => ?_)
        have h := h y4 ey4
        refine g_istore_n X [(1, .int y4), (5, .ref (rowC (ix x4))), (2, .ref 1), (3, .int x3), (4, .int x4)] dX4_placesThere_44 rfl (Nat.le_of_ble_eq_true rfl) rfl ?_
        obtain ⟨y5, ey5⟩ : ∃ y : Int32, y = x4 + (1 : Int32) := ⟨_, rfl⟩
        have h := h y5 ey5
        refine g_iinc X 4 (1 : Int32) [(4, .int y5), (1, .int y4), (5, .ref (rowC (ix x4))), (2, .ref 1), (3, .int x3)] dX4_placesThere_45 rfl (by decide) (Nat.le_of_ble_eq_true rfl) (by rw [ey5]; rfl) ?_
        refine g_goto X 13 dX4_placesThere_48 (by decide) ?_
        refine g_weak [1, 3, 4, 0] rfl ?_
        exact ih _ _ _ _ h
def w_X4_placesThere (Q : Int32 → St → Prop) (σ : St) : Prop := (∃ fu6 : Nat, w_X4_placesThere_13 Q fu6 (0 : Int32) (12 : Int32) (0 : Int32) σ)
set_option maxRecDepth 100000 in
set_option maxHeartbeats 4000000 in
theorem b_X4_placesThere_0 {p : Program} {l : Launch} {e : Env} {s : State} {m : MethodId} {args : Array Value} {below : List Frame} {meth : Method} {c : Code} {D : va_G} {cA : Nat → ClassId} {A : Nat → Prop} {ad0 : Nat → Nat} {Q : Int32 → St → Prop} {σ : St} (X : Cx p rmX4_placesThere s m args meth c cX4_placesThere 6 RX4 D cA A) (hr : meth.sig.returnType = some .int) (h : w_X4_placesThere Q  σ) : G p l e rmX4_placesThere s m args below meth c 6 D cA A (MQ below (va_Qi Q (EndW D cA ad0 shC) A) args s 0 0 A) 0 0 (fun ad => ad = ad0) shC σ [(0, .ref 0)] 0 [] := by
  unfold w_X4_placesThere at h
  refine g_iconst X (0 : Int32) dX4_placesThere_0 (by decide) ?_
  refine g_istore_n X [(1, .int (0 : Int32)), (0, .ref 0)] dX4_placesThere_1 rfl (Nat.le_of_ble_eq_true rfl) rfl ?_
  refine g_aload_n X 1 dX4_placesThere_2 rfl rfl ?_
  refine g_getR X (C := RX4) (T := TX4) (N := 7) 0 dX4_placesThere_3 (Nat.le_of_ble_eq_true rfl) rfl rfl rfl inG4 (Nat.le_of_ble_eq_true rfl) rfl rfl q205 ?_
  refine g_astore_n X [(2, .ref 1), (1, .int (0 : Int32)), (0, .ref 0)] dX4_placesThere_6 rfl (Nat.le_of_ble_eq_true rfl) rfl ?_
  refine g_aload_n X 0 dX4_placesThere_7 rfl rfl ?_
  refine g_alenq X (C := RX2) (t := 0) (12 : Int32) dX4_placesThere_8 (Nat.le_of_ble_eq_true rfl) rfl rfl (by decide) ?_
  refine g_istore_n X [(3, .int (12 : Int32)), (2, .ref 1), (1, .int (0 : Int32)), (0, .ref 0)] dX4_placesThere_9 rfl (Nat.le_of_ble_eq_true rfl) rfl ?_
  refine g_iconst X (0 : Int32) dX4_placesThere_10 (by decide) ?_
  refine g_istore X [(4, .int (0 : Int32)), (3, .int (12 : Int32)), (2, .ref 1), (1, .int (0 : Int32)), (0, .ref 0)] dX4_placesThere_11 (Nat.le_of_ble_eq_true rfl) rfl ?_
  refine g_weak [3, 2, 1, 0] rfl ?_
  obtain ⟨fu6, h⟩ := h
  exact b_X4_placesThere_13 X hr fu6 _ _ _ _ h
theorem c_X4_placesThere (l : Launch) (D : va_G) (cA : Nat → ClassId) {σ : St} {Q : Int32 → St → Prop} (h : w_X4_placesThere Q  σ) : CtI l yX4_placesThere cX4_placesThere 6 (some .int) rmX4_placesThere D cA shC [.ref 0] σ Q := by
  refine CtI.of (own := RX4) rfl (by decide +kernel) [(0, .ref 0)] rfl (Nat.le_of_ble_eq_true rfl) ?_
  intro p e s m args below meth c ad0 A X hr
  exact b_X4_placesThere_0 X hr  h
def rmX4_count : Room := { frames := 2, cells := 0, slots := 0, locals := 46 }
def w_X4_count (Q : Int32 → St → Prop) (x1 : Int32) (σ : St) : Prop := ((x1 = 0 → w_X4_rowsThere (fun r2 σ1 => (Q r2 σ1)) σ) ∧ (x1 = 1 → w_X4_keepersThere (fun r4 σ3 => (Q r4 σ3)) (0 : Int32) σ) ∧ (x1 = 2 → (Q (gI σ 3 2) σ)) ∧ (x1 = 3 → w_X4_placesThere (fun r6 σ5 => (Q r6 σ5)) σ) ∧ (x1 = 4 → (Q (gI σ 0 6) σ)) ∧ (x1 = 5 → w_X4_keepersThere (fun r8 σ7 => (Q r8 σ7)) (1 : Int32) σ) ∧ (¬ x1 = 0 → ¬ x1 = 1 → ¬ x1 = 2 → ¬ x1 = 3 → ¬ x1 = 4 → ¬ x1 = 5 → (Q (-3 : Int32) σ)))
set_option maxRecDepth 100000 in
set_option maxHeartbeats 4000000 in
theorem b_X4_count_0 {p : Program} {l : Launch} {e : Env} {s : State} {m : MethodId} {args : Array Value} {below : List Frame} {meth : Method} {c : Code} {D : va_G} {cA : Nat → ClassId} {A : Nat → Prop} {ad0 : Nat → Nat} {Q : Int32 → St → Prop} {x1 : Int32} {σ : St} (X : Cx p rmX4_count s m args meth c cX4_count 2 RX4 D cA A) (hr : meth.sig.returnType = some .int) (h : w_X4_count Q x1 σ) : G p l e rmX4_count s m args below meth c 2 D cA A (MQ below (va_Qi Q (EndW D cA ad0 shC) A) args s 0 0 A) 0 0 (fun ad => ad = ad0) shC σ [(0, .ref 0), (1, .int x1)] 0 [] := by
  unfold w_X4_count at h
  refine g_iload_n X 1 dX4_count_0 rfl rfl ?_
  by_cases hc0 : x1 = 0
  · have h := h.1 hc0
    refine g_tabIn X 40 (39) dX4_count_1 (by rw [hc0]; decide) (by rw [hc0]; decide) (by rw [hc0]; rfl) (by decide) ?_
    refine g_aload_n X 0 dX4_count_40 rfl rfl ?_
    refine g_callVI X (C := RX4) (T := TX4) (N := 7) (n := 0) [] [] dX4_count_41 (c_X4_rowsThere l D cA h) q551 q553 q15 q47 q554 (Nat.le_of_ble_eq_true rfl) rfl rfl ⟨rfl, by decide, by decide, by decide +kernel⟩ rfl rfl (Nat.le_of_ble_eq_true rfl) rfl rfl ⟨(Nat.le_of_ble_eq_true rfl), (Nat.le_of_ble_eq_true rfl)⟩ (Nat.le_of_ble_eq_true rfl) (Nat.le_of_ble_eq_true rfl) (fun r2 σ1 h => ?_)
    exact g_iret X hr dX4_count_44 rfl h
  by_cases hc1 : x1 = 1
  · have h := h.2.1 hc1
    refine g_tabIn X 45 (44) dX4_count_1 (by rw [hc1]; decide) (by rw [hc1]; decide) (by rw [hc1]; rfl) (by decide) ?_
    refine g_aload_n X 0 dX4_count_45 rfl rfl ?_
    refine g_iconst X (0 : Int32) dX4_count_46 (by decide) ?_
    refine g_callVI X (C := RX4) (T := TX4) (N := 7) (n := 1) [.int (0 : Int32)] [] dX4_count_47 (c_X4_keepersThere l D cA h) q555 q557 q16 q47 q558 (Nat.le_of_ble_eq_true rfl) rfl rfl ⟨rfl, by decide, by decide, by decide +kernel⟩ rfl rfl (Nat.le_of_ble_eq_true rfl) rfl rfl ⟨(Nat.le_of_ble_eq_true rfl), (Nat.le_of_ble_eq_true rfl)⟩ (Nat.le_of_ble_eq_true rfl) (Nat.le_of_ble_eq_true rfl) (fun r4 σ3 h => ?_)
    exact g_iret X hr dX4_count_50 rfl h
  by_cases hc2 : x1 = 2
  · have h := h.2.2.1 hc2
    refine g_tabIn X 51 (50) dX4_count_1 (by rw [hc2]; decide) (by rw [hc2]; decide) (by rw [hc2]; rfl) (by decide) ?_
    refine g_aload_n X 0 dX4_count_51 rfl rfl ?_
    refine g_getR X (C := RX4) (T := TX4) (N := 7) 2 dX4_count_52 (Nat.le_of_ble_eq_true rfl) rfl rfl rfl inG4 (Nat.le_of_ble_eq_true rfl) rfl rfl q207 ?_
    refine g_getI X (C := RX0) (T := TX0) (N := 4) 2 dX4_count_55 (Nat.le_of_ble_eq_true rfl) rfl rfl rfl inG0 (Nat.le_of_ble_eq_true rfl) rfl q105 ?_
    exact g_iret X hr dX4_count_58 rfl h
  by_cases hc3 : x1 = 3
  · have h := h.2.2.2.1 hc3
    refine g_tabIn X 59 (58) dX4_count_1 (by rw [hc3]; decide) (by rw [hc3]; decide) (by rw [hc3]; rfl) (by decide) ?_
    refine g_aload_n X 0 dX4_count_59 rfl rfl ?_
    refine g_callVI X (C := RX4) (T := TX4) (N := 7) (n := 0) [] [] dX4_count_60 (c_X4_placesThere l D cA h) q559 q561 q17 q47 q562 (Nat.le_of_ble_eq_true rfl) rfl rfl ⟨rfl, by decide, by decide, by decide +kernel⟩ rfl rfl (Nat.le_of_ble_eq_true rfl) rfl rfl ⟨(Nat.le_of_ble_eq_true rfl), (Nat.le_of_ble_eq_true rfl)⟩ (Nat.le_of_ble_eq_true rfl) (Nat.le_of_ble_eq_true rfl) (fun r6 σ5 h => ?_)
    exact g_iret X hr dX4_count_63 rfl h
  by_cases hc4 : x1 = 4
  · have h := h.2.2.2.2.1 hc4
    refine g_tabIn X 64 (63) dX4_count_1 (by rw [hc4]; decide) (by rw [hc4]; decide) (by rw [hc4]; rfl) (by decide) ?_
    refine g_aload_n X 0 dX4_count_64 rfl rfl ?_
    refine g_getI X (C := RX4) (T := TX4) (N := 7) 6 dX4_count_65 (Nat.le_of_ble_eq_true rfl) rfl rfl rfl inG4 (Nat.le_of_ble_eq_true rfl) rfl q211 ?_
    exact g_iret X hr dX4_count_68 rfl h
  by_cases hc5 : x1 = 5
  · have h := h.2.2.2.2.2.1 hc5
    refine g_tabIn X 69 (68) dX4_count_1 (by rw [hc5]; decide) (by rw [hc5]; decide) (by rw [hc5]; rfl) (by decide) ?_
    refine g_aload_n X 0 dX4_count_69 rfl rfl ?_
    refine g_iconst X (1 : Int32) dX4_count_70 (by decide) ?_
    refine g_callVI X (C := RX4) (T := TX4) (N := 7) (n := 1) [.int (1 : Int32)] [] dX4_count_71 (c_X4_keepersThere l D cA h) q555 q557 q16 q47 q558 (Nat.le_of_ble_eq_true rfl) rfl rfl ⟨rfl, by decide, by decide, by decide +kernel⟩ rfl rfl (Nat.le_of_ble_eq_true rfl) rfl rfl ⟨(Nat.le_of_ble_eq_true rfl), (Nat.le_of_ble_eq_true rfl)⟩ (Nat.le_of_ble_eq_true rfl) (Nat.le_of_ble_eq_true rfl) (fun r8 σ7 h => ?_)
    exact g_iret X hr dX4_count_74 rfl h
  have h := h.2.2.2.2.2.2 hc0 hc1 hc2 hc3 hc4 hc5
  refine g_tabOut X 75 dX4_count_1 (by have e0 := lv_neT (a := 0) hc0 rfl; have e1 := lv_neT (a := 1) hc1 rfl; have e2 := lv_neT (a := 2) hc2 rfl; have e3 := lv_neT (a := 3) hc3 rfl; have e4 := lv_neT (a := 4) hc4 rfl; have e5 := lv_neT (a := 5) hc5 rfl; omega) (by decide) ?_
  refine g_bipush X (-3 : Int32) dX4_count_75 (by decide) ?_
  exact g_iret X hr dX4_count_77 rfl h
theorem c_X4_count (l : Launch) (D : va_G) (cA : Nat → ClassId) {x1 : Int32} {σ : St} {Q : Int32 → St → Prop} (h : w_X4_count Q x1 σ) : CtI l yX4_count cX4_count 2 (some .int) rmX4_count D cA shC [.ref 0, .int x1] σ Q := by
  refine CtI.of (own := RX4) rfl (by decide +kernel) [(0, .ref 0), (1, .int x1)] rfl (Nat.le_of_ble_eq_true rfl) ?_
  intro p e s m args below meth c ad0 A X hr
  exact b_X4_count_0 X hr  h
