def rmX5_in : Room := { frames := 0, cells := 0, slots := 0, locals := 0 }
def w_X5_in (Q : Int32 → St → Prop) (x0 : Int64) (x2 : Int64) (x4 : Int64) (σ : St) : Prop := ((x0 < x2 → (Q (0 : Int32) σ)) ∧ (¬ x0 < x2 → ((x4 < x0 → (Q (0 : Int32) σ)) ∧ (¬ x4 < x0 → (Q (1 : Int32) σ)))))
set_option maxRecDepth 100000 in
set_option maxHeartbeats 4000000 in
theorem b_X5_in_0 {p : Program} {l : Launch} {e : Env} {s : State} {m : MethodId} {args : Array Value} {below : List Frame} {meth : Method} {c : Code} {D : va_G} {cA : Nat → ClassId} {A : Nat → Prop} {ad0 : Nat → Nat} {sh : SH} {Q : Int32 → St → Prop} {x0 : Int64} {x2 : Int64} {x4 : Int64} {σ : St} (X : Cx p rmX5_in s m args meth c cX5_in 6 RX5 D cA A) (hr : meth.sig.returnType = some .boolean) (h : w_X5_in Q x0 x2 x4 σ) : G p l e rmX5_in s m args below meth c 6 D cA A (MQ below (va_Qi Q (EndW D cA ad0 sh) A) args s 0 0 A) 0 0 (fun ad => ad = ad0) sh σ [(0, .long x0), (2, .long x2), (4, .long x4)] 0 [] := by
  unfold w_X5_in at h
  refine g_lload_n X 0 dX5_in_0 rfl rfl ?_
  refine g_lload_n X 1 dX5_in_1 rfl rfl ?_
  refine g_lcmp X dX5_in_2 ?_
  refine g_if_lt X 17 dX5_in_3 (by decide) (fun hc => ?_) (fun hc => ?_)
  · have h := h.1 (lgc_lt.mp hc)
    refine g_iconst X (0 : Int32) dX5_in_17 (by decide) ?_
    exact g_iret X hr dX5_in_18 (by decide) h
  · have h := h.2 (fun z => hc (lgc_lt.mpr z))
    refine g_lload_n X 0 dX5_in_6 rfl rfl ?_
    refine g_lload X 2 dX5_in_7 rfl ?_
    refine g_lcmp X dX5_in_9 ?_
    refine g_if_gt X 17 dX5_in_10 (by decide) (fun hc => ?_) (fun hc => ?_)
    · have h := h.1 (lgc_gt.mp hc)
      refine g_iconst X (0 : Int32) dX5_in_17 (by decide) ?_
      exact g_iret X hr dX5_in_18 (by decide) h
    · have h := h.2 (fun z => hc (lgc_gt.mpr z))
      refine g_iconst X (1 : Int32) dX5_in_13 (by decide) ?_
      refine g_goto X 18 dX5_in_14 (by decide) ?_
      exact g_iret X hr dX5_in_18 (by decide) h
theorem c_X5_in (l : Launch) (D : va_G) (cA : Nat → ClassId) (sh : SH) {x0 : Int64} {x2 : Int64} {x4 : Int64} {σ : St} {Q : Int32 → St → Prop} (h : w_X5_in Q x0 x2 x4 σ) : CtI l yX5_in cX5_in 6 (some .boolean) rmX5_in D cA sh [.long x0, .long x2, .long x4] σ Q := by
  refine CtI.of (own := RX5) rfl (by decide +kernel) [(0, .long x0), (2, .long x2), (4, .long x4)] rfl (Nat.le_of_ble_eq_true rfl) ?_
  intro p e s m args below meth c ad0 A X hr
  exact b_X5_in_0 X hr  h
def rmX5_isRow : Room := { frames := 1, cells := 0, slots := 0, locals := 25 }
def w_X5_isRow (Q : Int32 → St → Prop) (x0 : Int32) (σ : St) : Prop := w_X5_in (fun r2 σ1 => (bz r2 ∧ Q r2 σ1)) (x0.toInt64) (0 : Int64) (11 : Int64) σ
set_option maxRecDepth 100000 in
set_option maxHeartbeats 4000000 in
theorem b_X5_isRow_0 {p : Program} {l : Launch} {e : Env} {s : State} {m : MethodId} {args : Array Value} {below : List Frame} {meth : Method} {c : Code} {D : va_G} {cA : Nat → ClassId} {A : Nat → Prop} {ad0 : Nat → Nat} {sh : SH} {Q : Int32 → St → Prop} {x0 : Int32} {σ : St} (X : Cx p rmX5_isRow s m args meth c cX5_isRow 1 RX5 D cA A) (hr : meth.sig.returnType = some .boolean) (h : w_X5_isRow Q x0 σ) : G p l e rmX5_isRow s m args below meth c 1 D cA A (MQ below (va_Qi Q (EndW D cA ad0 sh) A) args s 0 0 A) 0 0 (fun ad => ad = ad0) sh σ [(0, .int x0)] 0 [] := by
  unfold w_X5_isRow at h
  refine g_iload_n X 0 dX5_isRow_0 rfl rfl ?_
  refine g_i2l X dX5_isRow_1 ?_
  refine g_lconst X (0 : Int64) dX5_isRow_2 (by decide) ?_
  refine g_ldc2 X q647 dX5_isRow_3 ?_
  refine g_callSI X (n := 3) [.long (x0.toInt64), .long (0 : Int64), .long (11 : Int64)] [] dX5_isRow_6 (c_X5_in l D cA sh h) q648 q649 q57 q650 ⟨by decide, by decide, by decide +kernel⟩ rfl rfl (Nat.le_of_ble_eq_true rfl) rfl rfl ⟨(Nat.le_of_ble_eq_true rfl), (Nat.le_of_ble_eq_true rfl)⟩ (Nat.le_of_ble_eq_true rfl) (Nat.le_of_ble_eq_true rfl) (fun r2 σ1 h => ?_)
  obtain ⟨hc, h⟩ := h
  exact g_iret X hr dX5_isRow_9 (bz_narrow hc) h
theorem c_X5_isRow (l : Launch) (D : va_G) (cA : Nat → ClassId) (sh : SH) {x0 : Int32} {σ : St} {Q : Int32 → St → Prop} (h : w_X5_isRow Q x0 σ) : CtI l yX5_isRow cX5_isRow 1 (some .boolean) rmX5_isRow D cA sh [.int x0] σ Q := by
  refine CtI.of (own := RX5) rfl (by decide +kernel) [(0, .int x0)] rfl (Nat.le_of_ble_eq_true rfl) ?_
  intro p e s m args below meth c ad0 A X hr
  exact b_X5_isRow_0 X hr  h
def rmX5_isThere : Room := { frames := 0, cells := 0, slots := 0, locals := 0 }
def w_X5_isThere (Q : Int32 → St → Prop) (x1 : Int32) (σ : St) : Prop := vp_in x1 12 ∧ (((gI σ 1 (ix x1)) = (-1 : Int32) → (Q (0 : Int32) σ)) ∧ (¬ (gI σ 1 (ix x1)) = (-1 : Int32) → (Q (1 : Int32) σ)))
set_option maxRecDepth 100000 in
set_option maxHeartbeats 4000000 in
theorem b_X5_isThere_0 {p : Program} {l : Launch} {e : Env} {s : State} {m : MethodId} {args : Array Value} {below : List Frame} {meth : Method} {c : Code} {D : va_G} {cA : Nat → ClassId} {A : Nat → Prop} {ad0 : Nat → Nat} {Q : Int32 → St → Prop} {x1 : Int32} {σ : St} (X : Cx p rmX5_isThere s m args meth c cX5_isThere 2 RX5 D cA A) (hr : meth.sig.returnType = some .boolean) (h : w_X5_isThere Q x1 σ) : G p l e rmX5_isThere s m args below meth c 2 D cA A (MQ below (va_Qi Q (EndW D cA ad0 shR) A) args s 0 0 A) 0 0 (fun ad => ad = ad0) shR σ [(0, .ref 0), (1, .int x1)] 0 [] := by
  unfold w_X5_isThere at h
  refine g_aload_n X 0 dX5_isThere_0 rfl rfl ?_
  refine g_getR X (C := RX5) (T := TX5) (N := 23) 1 dX5_isThere_1 (Nat.le_of_ble_eq_true rfl) rfl rfl rfl inG5 (Nat.le_of_ble_eq_true rfl) rfl rfl q570 ?_
  refine g_iload_n X 1 dX5_isThere_4 rfl rfl ?_
  obtain ⟨hi1, h⟩ := h
  refine g_iald X dX5_isThere_5 (Nat.le_of_ble_eq_true rfl) rfl hi1 ?_
  refine g_iconst X (-1 : Int32) dX5_isThere_6 (by decide) ?_
  refine g_icmp_eq X 14 dX5_isThere_7 (by decide) (fun hc => ?_) (fun hc => ?_)
  · have h := h.1 hc
    refine g_iconst X (0 : Int32) dX5_isThere_14 (by decide) ?_
    exact g_iret X hr dX5_isThere_15 (by decide) h
  · have h := h.2 hc
    refine g_iconst X (1 : Int32) dX5_isThere_10 (by decide) ?_
    refine g_goto X 15 dX5_isThere_11 (by decide) ?_
    exact g_iret X hr dX5_isThere_15 (by decide) h
theorem c_X5_isThere (l : Launch) (D : va_G) (cA : Nat → ClassId) {x1 : Int32} {σ : St} {Q : Int32 → St → Prop} (h : w_X5_isThere Q x1 σ) : CtI l yX5_isThere cX5_isThere 2 (some .boolean) rmX5_isThere D cA shR [.ref 0, .int x1] σ Q := by
  refine CtI.of (own := RX5) rfl (by decide +kernel) [(0, .ref 0), (1, .int x1)] rfl (Nat.le_of_ble_eq_true rfl) ?_
  intro p e s m args below meth c ad0 A X hr
  exact b_X5_isThere_0 X hr  h
def rmX5_isReal : Room := { frames := 0, cells := 0, slots := 0, locals := 0 }
def w_X5_isReal (Q : Int32 → St → Prop) (x1 : Int32) (σ : St) : Prop := vp_in x1 12 ∧ (((gI σ 1 (ix x1)) < (4 : Int32) → (Q (0 : Int32) σ)) ∧ (¬ (gI σ 1 (ix x1)) < (4 : Int32) → (Q (1 : Int32) σ)))
set_option maxRecDepth 100000 in
set_option maxHeartbeats 4000000 in
theorem b_X5_isReal_0 {p : Program} {l : Launch} {e : Env} {s : State} {m : MethodId} {args : Array Value} {below : List Frame} {meth : Method} {c : Code} {D : va_G} {cA : Nat → ClassId} {A : Nat → Prop} {ad0 : Nat → Nat} {Q : Int32 → St → Prop} {x1 : Int32} {σ : St} (X : Cx p rmX5_isReal s m args meth c cX5_isReal 2 RX5 D cA A) (hr : meth.sig.returnType = some .boolean) (h : w_X5_isReal Q x1 σ) : G p l e rmX5_isReal s m args below meth c 2 D cA A (MQ below (va_Qi Q (EndW D cA ad0 shR) A) args s 0 0 A) 0 0 (fun ad => ad = ad0) shR σ [(0, .ref 0), (1, .int x1)] 0 [] := by
  unfold w_X5_isReal at h
  refine g_aload_n X 0 dX5_isReal_0 rfl rfl ?_
  refine g_getR X (C := RX5) (T := TX5) (N := 23) 1 dX5_isReal_1 (Nat.le_of_ble_eq_true rfl) rfl rfl rfl inG5 (Nat.le_of_ble_eq_true rfl) rfl rfl q570 ?_
  refine g_iload_n X 1 dX5_isReal_4 rfl rfl ?_
  obtain ⟨hi1, h⟩ := h
  refine g_iald X dX5_isReal_5 (Nat.le_of_ble_eq_true rfl) rfl hi1 ?_
  refine g_iconst X (4 : Int32) dX5_isReal_6 (by decide) ?_
  refine g_icmp_lt X 14 dX5_isReal_7 (by decide) (fun hc => ?_) (fun hc => ?_)
  · have h := h.1 hc
    refine g_iconst X (0 : Int32) dX5_isReal_14 (by decide) ?_
    exact g_iret X hr dX5_isReal_15 (by decide) h
  · have h := h.2 hc
    refine g_iconst X (1 : Int32) dX5_isReal_10 (by decide) ?_
    refine g_goto X 15 dX5_isReal_11 (by decide) ?_
    exact g_iret X hr dX5_isReal_15 (by decide) h
theorem c_X5_isReal (l : Launch) (D : va_G) (cA : Nat → ClassId) {x1 : Int32} {σ : St} {Q : Int32 → St → Prop} (h : w_X5_isReal Q x1 σ) : CtI l yX5_isReal cX5_isReal 2 (some .boolean) rmX5_isReal D cA shR [.ref 0, .int x1] σ Q := by
  refine CtI.of (own := RX5) rfl (by decide +kernel) [(0, .ref 0), (1, .int x1)] rfl (Nat.le_of_ble_eq_true rfl) ?_
  intro p e s m args below meth c ad0 A X hr
  exact b_X5_isReal_0 X hr  h
def rmX5_isPlace : Room := { frames := 1, cells := 0, slots := 0, locals := 25 }
def w_X5_isPlace (Q : Int32 → St → Prop) (x1 : Int32) (x2 : Int32) (σ : St) : Prop := vp_in x1 12 ∧ w_X5_in (fun r3 σ2 => (bz r3 ∧ Q r3 σ2)) (x2.toInt64) (0 : Int64) (((gI σ 2 (ix x1)) - (1 : Int32)).toInt64) σ
set_option maxRecDepth 100000 in
set_option maxHeartbeats 4000000 in
theorem b_X5_isPlace_0 {p : Program} {l : Launch} {e : Env} {s : State} {m : MethodId} {args : Array Value} {below : List Frame} {meth : Method} {c : Code} {D : va_G} {cA : Nat → ClassId} {A : Nat → Prop} {ad0 : Nat → Nat} {Q : Int32 → St → Prop} {x1 : Int32} {x2 : Int32} {σ : St} (X : Cx p rmX5_isPlace s m args meth c cX5_isPlace 3 RX5 D cA A) (hr : meth.sig.returnType = some .boolean) (h : w_X5_isPlace Q x1 x2 σ) : G p l e rmX5_isPlace s m args below meth c 3 D cA A (MQ below (va_Qi Q (EndW D cA ad0 shR) A) args s 0 0 A) 0 0 (fun ad => ad = ad0) shR σ [(0, .ref 0), (1, .int x1), (2, .int x2)] 0 [] := by
  unfold w_X5_isPlace at h
  refine g_iload_n X 2 dX5_isPlace_0 rfl rfl ?_
  refine g_i2l X dX5_isPlace_1 ?_
  refine g_lconst X (0 : Int64) dX5_isPlace_2 (by decide) ?_
  refine g_aload_n X 0 dX5_isPlace_3 rfl rfl ?_
  refine g_getR X (C := RX5) (T := TX5) (N := 23) 2 dX5_isPlace_4 (Nat.le_of_ble_eq_true rfl) rfl rfl rfl inG5 (Nat.le_of_ble_eq_true rfl) rfl rfl q571 ?_
  refine g_iload_n X 1 dX5_isPlace_7 rfl rfl ?_
  obtain ⟨hi1, h⟩ := h
  refine g_iald X dX5_isPlace_8 (Nat.le_of_ble_eq_true rfl) rfl hi1 ?_
  refine g_iconst X (1 : Int32) dX5_isPlace_9 (by decide) ?_
  refine g_isub X dX5_isPlace_10 ?_
  refine g_i2l X dX5_isPlace_11 ?_
  refine g_callSI X (n := 3) [.long (x2.toInt64), .long (0 : Int64), .long (((gI σ 2 (ix x1)) - (1 : Int32)).toInt64)] [] dX5_isPlace_12 (c_X5_in l D cA shR h) q648 q649 q57 q650 ⟨by decide, by decide, by decide +kernel⟩ rfl rfl (Nat.le_of_ble_eq_true rfl) rfl rfl ⟨(Nat.le_of_ble_eq_true rfl), (Nat.le_of_ble_eq_true rfl)⟩ (Nat.le_of_ble_eq_true rfl) (Nat.le_of_ble_eq_true rfl) (fun r3 σ2 h => ?_)
  obtain ⟨hc, h⟩ := h
  exact g_iret X hr dX5_isPlace_15 (bz_narrow hc) h
theorem c_X5_isPlace (l : Launch) (D : va_G) (cA : Nat → ClassId) {x1 : Int32} {x2 : Int32} {σ : St} {Q : Int32 → St → Prop} (h : w_X5_isPlace Q x1 x2 σ) : CtI l yX5_isPlace cX5_isPlace 3 (some .boolean) rmX5_isPlace D cA shR [.ref 0, .int x1, .int x2] σ Q := by
  refine CtI.of (own := RX5) rfl (by decide +kernel) [(0, .ref 0), (1, .int x1), (2, .int x2)] rfl (Nat.le_of_ble_eq_true rfl) ?_
  intro p e s m args below meth c ad0 A X hr
  exact b_X5_isPlace_0 X hr  h
def rmX5_arePlaces : Room := { frames := 1, cells := 0, slots := 0, locals := 25 }
def w_X5_arePlaces (Q : Int32 → St → Prop) (x1 : Int32) (x2 : Int32) (x3 : Int32) (σ : St) : Prop := vp_in x1 12 ∧ w_X5_in (fun r3 σ2 => ((r3 = 0 → (Q (0 : Int32) σ2)) ∧ (¬ r3 = 0 → vp_in x1 12 ∧ w_X5_in (fun r6 σ5 => ((r6 = 0 → (Q (0 : Int32) σ5)) ∧ (¬ r6 = 0 → (Q (1 : Int32) σ5)))) (x2.toInt64) (0 : Int64) (((gI σ2 2 (ix x1)) - x3).toInt64) σ2))) (x3.toInt64) (0 : Int64) ((gI σ 2 (ix x1)).toInt64) σ
set_option maxRecDepth 100000 in
set_option maxHeartbeats 4000000 in
theorem b_X5_arePlaces_0 {p : Program} {l : Launch} {e : Env} {s : State} {m : MethodId} {args : Array Value} {below : List Frame} {meth : Method} {c : Code} {D : va_G} {cA : Nat → ClassId} {A : Nat → Prop} {ad0 : Nat → Nat} {Q : Int32 → St → Prop} {x1 : Int32} {x2 : Int32} {x3 : Int32} {σ : St} (X : Cx p rmX5_arePlaces s m args meth c cX5_arePlaces 4 RX5 D cA A) (hr : meth.sig.returnType = some .boolean) (h : w_X5_arePlaces Q x1 x2 x3 σ) : G p l e rmX5_arePlaces s m args below meth c 4 D cA A (MQ below (va_Qi Q (EndW D cA ad0 shR) A) args s 0 0 A) 0 0 (fun ad => ad = ad0) shR σ [(0, .ref 0), (1, .int x1), (2, .int x2), (3, .int x3)] 0 [] := by
  unfold w_X5_arePlaces at h
  refine g_iload_n X 3 dX5_arePlaces_0 rfl rfl ?_
  refine g_i2l X dX5_arePlaces_1 ?_
  refine g_lconst X (0 : Int64) dX5_arePlaces_2 (by decide) ?_
  refine g_aload_n X 0 dX5_arePlaces_3 rfl rfl ?_
  refine g_getR X (C := RX5) (T := TX5) (N := 23) 2 dX5_arePlaces_4 (Nat.le_of_ble_eq_true rfl) rfl rfl rfl inG5 (Nat.le_of_ble_eq_true rfl) rfl rfl q571 ?_
  refine g_iload_n X 1 dX5_arePlaces_7 rfl rfl ?_
  obtain ⟨hi1, h⟩ := h
  refine g_iald X dX5_arePlaces_8 (Nat.le_of_ble_eq_true rfl) rfl hi1 ?_
  refine g_i2l X dX5_arePlaces_9 ?_
  refine g_callSI X (n := 3) [.long (x3.toInt64), .long (0 : Int64), .long ((gI σ 2 (ix x1)).toInt64)] [] dX5_arePlaces_10 (c_X5_in l D cA shR h) q648 q649 q57 q650 ⟨by decide, by decide, by decide +kernel⟩ rfl rfl (Nat.le_of_ble_eq_true rfl) rfl rfl ⟨(Nat.le_of_ble_eq_true rfl), (Nat.le_of_ble_eq_true rfl)⟩ (Nat.le_of_ble_eq_true rfl) (Nat.le_of_ble_eq_true rfl) (fun r3 σ2 h => ?_)
  refine g_if_eq X 38 dX5_arePlaces_13 (by decide) (fun hc => ?_) (fun hc => ?_)
  · have h := h.1 hc
    refine g_iconst X (0 : Int32) dX5_arePlaces_38 (by decide) ?_
    exact g_iret X hr dX5_arePlaces_39 (by decide) h
  · have h := h.2 hc
    refine g_iload_n X 2 dX5_arePlaces_16 rfl rfl ?_
    refine g_i2l X dX5_arePlaces_17 ?_
    refine g_lconst X (0 : Int64) dX5_arePlaces_18 (by decide) ?_
    refine g_aload_n X 0 dX5_arePlaces_19 rfl rfl ?_
    refine g_getR X (C := RX5) (T := TX5) (N := 23) 2 dX5_arePlaces_20 (Nat.le_of_ble_eq_true rfl) rfl rfl rfl inG5 (Nat.le_of_ble_eq_true rfl) rfl rfl q571 ?_
    refine g_iload_n X 1 dX5_arePlaces_23 rfl rfl ?_
    obtain ⟨hi4, h⟩ := h
    refine g_iald X dX5_arePlaces_24 (Nat.le_of_ble_eq_true rfl) rfl hi4 ?_
    refine g_iload_n X 3 dX5_arePlaces_25 rfl rfl ?_
    refine g_isub X dX5_arePlaces_26 ?_
    refine g_i2l X dX5_arePlaces_27 ?_
    refine g_callSI X (n := 3) [.long (x2.toInt64), .long (0 : Int64), .long (((gI σ2 2 (ix x1)) - x3).toInt64)] [] dX5_arePlaces_28 (c_X5_in l D cA shR h) q648 q649 q57 q650 ⟨by decide, by decide, by decide +kernel⟩ rfl rfl (Nat.le_of_ble_eq_true rfl) rfl rfl ⟨(Nat.le_of_ble_eq_true rfl), (Nat.le_of_ble_eq_true rfl)⟩ (Nat.le_of_ble_eq_true rfl) (Nat.le_of_ble_eq_true rfl) (fun r6 σ5 h => ?_)
    refine g_if_eq X 38 dX5_arePlaces_31 (by decide) (fun hc => ?_) (fun hc => ?_)
    · have h := h.1 hc
      refine g_iconst X (0 : Int32) dX5_arePlaces_38 (by decide) ?_
      exact g_iret X hr dX5_arePlaces_39 (by decide) h
    · have h := h.2 hc
      refine g_iconst X (1 : Int32) dX5_arePlaces_34 (by decide) ?_
      refine g_goto X 39 dX5_arePlaces_35 (by decide) ?_
      exact g_iret X hr dX5_arePlaces_39 (by decide) h
theorem c_X5_arePlaces (l : Launch) (D : va_G) (cA : Nat → ClassId) {x1 : Int32} {x2 : Int32} {x3 : Int32} {σ : St} {Q : Int32 → St → Prop} (h : w_X5_arePlaces Q x1 x2 x3 σ) : CtI l yX5_arePlaces cX5_arePlaces 4 (some .boolean) rmX5_arePlaces D cA shR [.ref 0, .int x1, .int x2, .int x3] σ Q := by
  refine CtI.of (own := RX5) rfl (by decide +kernel) [(0, .ref 0), (1, .int x1), (2, .int x2), (3, .int x3)] rfl (Nat.le_of_ble_eq_true rfl) ?_
  intro p e s m args below meth c ad0 A X hr
  exact b_X5_arePlaces_0 X hr  h
def rmX5_row : Room := { frames := 2, cells := 0, slots := 0, locals := 45 }
def w_X5_row_60 (Q : Int32 → St → Prop) : Nat → Int32 → Int32 → Int32 → St → Prop
  | 0, _, _, _, _ => False
  | n + 1, x1, x3, x4, σ => (((((40 : Int32) * x1) + (40 : Int32)) ≤ x4 → (Q x3 σ)) ∧ (¬ (((40 : Int32) * x1) + (40 : Int32)) ≤ x4 → vp_in x4 480 ∧ ∀ σ12 : St, σ12 = uJ σ 3 (ix x4) (0 : Int64) → vp_in x4 480 ∧ ∀ σ14 : St, σ14 = uD σ12 4 (ix x4) FP.dconst0 → vp_in x4 480 ∧ ∀ σ16 : St, σ16 = uI σ14 5 (ix x4) (0 : Int32) → ∀ y17 : Int32, y17 = x4 + (1 : Int32) → (w_X5_row_60 Q n x1 x3 y17 σ16)))
set_option maxRecDepth 100000 in
set_option maxHeartbeats 4000000 in
theorem b_X5_row_60 {p : Program} {l : Launch} {e : Env} {s : State} {m : MethodId} {args : Array Value} {below : List Frame} {meth : Method} {c : Code} {D : va_G} {cA : Nat → ClassId} {A : Nat → Prop} {ad0 : Nat → Nat} {Q : Int32 → St → Prop} (X : Cx p rmX5_row s m args meth c cX5_row 5 RX5 D cA A) (hr : meth.sig.returnType = some .int) : ∀ (n : Nat) (x1 : Int32) (x3 : Int32) (x4 : Int32) (σ : St), w_X5_row_60 Q n x1 x3 x4 σ → G p l e rmX5_row s m args below meth c 5 D cA A (MQ below (va_Qi Q (EndW D cA ad0 shR) A) args s 0 0 A) 0 0 (fun ad => ad = ad0) shR σ [(0, .ref 0), (1, .int x1), (3, .int x3), (4, .int x4)] 60 [] := by
  intro n
  induction n with
  | zero => intro x1 x3 x4 σ h; exact h.elim
  | succ n ih =>
    intro x1 x3 x4 σ h
    rw [w_X5_row_60] at h
    refine g_iload X 3 dX5_row_60 rfl ?_
    refine g_bipush X (40 : Int32) dX5_row_62 (by decide) ?_
    refine g_iload_n X 1 dX5_row_64 rfl rfl ?_
    refine g_imul X dX5_row_65 ?_
    refine g_bipush X (40 : Int32) dX5_row_66 (by decide) ?_
    refine g_iadd X dX5_row_68 ?_
    refine g_icmp_ge X 102 dX5_row_69 (by decide) (fun hc => ?_) (fun hc => ?_)
    · have h := h.1 hc
      refine g_iload_n X 2 dX5_row_102 rfl rfl ?_
      exact g_iret X hr dX5_row_103 rfl h
    · have h := h.2 hc
      refine g_aload_n X 0 dX5_row_72 rfl rfl ?_
      refine g_getR X (C := RX5) (T := TX5) (N := 23) 3 dX5_row_73 (Nat.le_of_ble_eq_true rfl) rfl rfl rfl inG5 (Nat.le_of_ble_eq_true rfl) rfl rfl q572 ?_
      refine g_iload X 3 dX5_row_76 rfl ?_
      refine g_lconst X (0 : Int64) dX5_row_78 (by decide) ?_
      obtain ⟨hi11, h⟩ := h
      refine g_last X dX5_row_79 (Nat.le_of_ble_eq_true rfl) rfl hi11 ?_
      refine g_nameS (fun σ12 eσ12 => ?_)
      have h := h σ12 eσ12
      refine g_aload_n X 0 dX5_row_80 rfl rfl ?_
      refine g_getR X (C := RX5) (T := TX5) (N := 23) 4 dX5_row_81 (Nat.le_of_ble_eq_true rfl) rfl rfl rfl inG5 (Nat.le_of_ble_eq_true rfl) rfl rfl q573 ?_
      refine g_iload X 3 dX5_row_84 rfl ?_
      refine g_dconst0 X dX5_row_86 ?_
      obtain ⟨hi13, h⟩ := h
      refine g_dast X dX5_row_87 (Nat.le_of_ble_eq_true rfl) rfl hi13 ?_
      refine g_nameS (fun σ14 eσ14 => ?_)
      have h := h σ14 eσ14
      refine g_aload_n X 0 dX5_row_88 rfl rfl ?_
      refine g_getR X (C := RX5) (T := TX5) (N := 23) 5 dX5_row_89 (Nat.le_of_ble_eq_true rfl) rfl rfl rfl inG5 (Nat.le_of_ble_eq_true rfl) rfl rfl q574 ?_
      refine g_iload X 3 dX5_row_92 rfl ?_
      refine g_iconst X (0 : Int32) dX5_row_94 (by decide) ?_
      obtain ⟨hi15, h⟩ := h
      refine g_iast X dX5_row_95 (Nat.le_of_ble_eq_true rfl) rfl hi15 ?_
      refine g_nameS (fun σ16 eσ16 => ?_)
      have h := h σ16 eσ16
      obtain ⟨y17, ey17⟩ : ∃ y : Int32, y = x4 + (1 : Int32) := ⟨_, rfl⟩
      have h := h y17 ey17
      refine g_iinc X 3 (1 : Int32) [(4, .int y17), (0, .ref 0), (1, .int x1), (3, .int x3)] dX5_row_96 rfl (by decide) (Nat.le_of_ble_eq_true rfl) (by rw [ey17]; rfl) ?_
      refine g_goto X 60 dX5_row_99 (by decide) ?_
      refine g_weak [1, 2, 3, 0] rfl ?_
      exact ih _ _ _ _ h
def w_X5_row (Q : Int32 → St → Prop) (x1 : Int32) (x2 : Int32) (x3 : Int32) (σ : St) : Prop := ∀ σ1 : St, σ1 = uI σ 0 0 (0 : Int32) → w_X5_isRow (fun r3 σ2 => ((r3 = 0 → (Q (-3 : Int32) σ2)) ∧ (¬ r3 = 0 → w_X5_in (fun r5 σ4 => ((r5 = 0 → (Q (-3 : Int32) σ4)) ∧ (¬ r5 = 0 → ((x3 ≤ (40 : Int32) → ((0 ≤ x3 → vp_in x1 12 ∧ ∀ σ7 : St, σ7 = uI σ4 1 (ix x1) x2 → vp_in x1 12 ∧ ∀ σ9 : St, σ9 = uI σ7 2 (ix x1) x3 → ∀ y10 : Int32, y10 = ((40 : Int32) * x1) → (∃ fu18 : Nat, w_X5_row_60 Q fu18 x1 x3 y10 σ9)) ∧ (¬ 0 ≤ x3 → (Q (-14 : Int32) σ4)))) ∧ (¬ x3 ≤ (40 : Int32) → (Q (-3 : Int32) σ4)))))) (x2.toInt64) (0 : Int64) (5 : Int64) σ2))) x1 σ1
set_option maxRecDepth 100000 in
set_option maxHeartbeats 4000000 in
theorem b_X5_row_0 {p : Program} {l : Launch} {e : Env} {s : State} {m : MethodId} {args : Array Value} {below : List Frame} {meth : Method} {c : Code} {D : va_G} {cA : Nat → ClassId} {A : Nat → Prop} {ad0 : Nat → Nat} {Q : Int32 → St → Prop} {x1 : Int32} {x2 : Int32} {x3 : Int32} {σ : St} (X : Cx p rmX5_row s m args meth c cX5_row 5 RX5 D cA A) (hr : meth.sig.returnType = some .int) (h : w_X5_row Q x1 x2 x3 σ) : G p l e rmX5_row s m args below meth c 5 D cA A (MQ below (va_Qi Q (EndW D cA ad0 shR) A) args s 0 0 A) 0 0 (fun ad => ad = ad0) shR σ [(0, .ref 0), (1, .int x1), (2, .int x2), (3, .int x3)] 0 [] := by
  unfold w_X5_row at h
  refine g_aload_n X 0 dX5_row_0 rfl rfl ?_
  refine g_iconst X (0 : Int32) dX5_row_1 (by decide) ?_
  refine g_putI X (C := RX5) (T := TX5) (N := 23) (ty0 := tyX5) 0 dX5_row_2 (Nat.le_of_ble_eq_true rfl) rfl rfl rfl inG5 tyX5_ok nmX5 (Nat.le_of_ble_eq_true rfl) rfl rfl q569 rfl rfl ?_
  refine g_nameS (fun σ1 eσ1 => ?_)
  have h := h σ1 eσ1
  refine g_iload_n X 1 dX5_row_5 rfl rfl ?_
  refine g_callSI X (n := 1) [.int x1] [] dX5_row_6 (c_X5_isRow l D cA shR h) q644 q645 q57 q646 ⟨by decide, by decide, by decide +kernel⟩ rfl rfl (Nat.le_of_ble_eq_true rfl) rfl rfl ⟨(Nat.le_of_ble_eq_true rfl), (Nat.le_of_ble_eq_true rfl)⟩ (Nat.le_of_ble_eq_true rfl) (Nat.le_of_ble_eq_true rfl) (fun r3 σ2 h => ?_)
  refine g_if_eq X 30 dX5_row_9 (by decide) (fun hc => ?_) (fun hc => ?_)
  · have h := h.1 hc
    refine g_bipush X (-3 : Int32) dX5_row_30 (by decide) ?_
    exact g_iret X hr dX5_row_32 rfl h
  · have h := h.2 hc
    refine g_iload_n X 2 dX5_row_12 rfl rfl ?_
    refine g_i2l X dX5_row_13 ?_
    refine g_lconst X (0 : Int64) dX5_row_14 (by decide) ?_
    refine g_ldc2 X q651 dX5_row_15 ?_
    refine g_callSI X (n := 3) [.long (x2.toInt64), .long (0 : Int64), .long (5 : Int64)] [] dX5_row_18 (c_X5_in l D cA shR h) q648 q649 q57 q650 ⟨by decide, by decide, by decide +kernel⟩ rfl rfl (Nat.le_of_ble_eq_true rfl) rfl rfl ⟨(Nat.le_of_ble_eq_true rfl), (Nat.le_of_ble_eq_true rfl)⟩ (Nat.le_of_ble_eq_true rfl) (Nat.le_of_ble_eq_true rfl) (fun r5 σ4 h => ?_)
    refine g_if_eq X 30 dX5_row_21 (by decide) (fun hc => ?_) (fun hc => ?_)
    · have h := h.1 hc
      refine g_bipush X (-3 : Int32) dX5_row_30 (by decide) ?_
      exact g_iret X hr dX5_row_32 rfl h
    · have h := h.2 hc
      refine g_iload_n X 3 dX5_row_24 rfl rfl ?_
      refine g_bipush X (40 : Int32) dX5_row_25 (by decide) ?_
      refine g_icmp_le X 33 dX5_row_27 (by decide) (fun hc => ?_) (fun hc => ?_)
      · have h := h.1 hc
        refine g_iload_n X 3 dX5_row_33 rfl rfl ?_
        refine g_if_ge X 40 dX5_row_34 (by decide) (fun hc => ?_) (fun hc => ?_)
        · have h := h.1 hc
          refine g_aload_n X 0 dX5_row_40 rfl rfl ?_
          refine g_getR X (C := RX5) (T := TX5) (N := 23) 1 dX5_row_41 (Nat.le_of_ble_eq_true rfl) rfl rfl rfl inG5 (Nat.le_of_ble_eq_true rfl) rfl rfl q570 ?_
          refine g_iload_n X 1 dX5_row_44 rfl rfl ?_
          refine g_iload_n X 2 dX5_row_45 rfl rfl ?_
          obtain ⟨hi6, h⟩ := h
          refine g_iast X dX5_row_46 (Nat.le_of_ble_eq_true rfl) rfl hi6 ?_
          refine g_nameS (fun σ7 eσ7 => ?_)
          have h := h σ7 eσ7
          refine g_aload_n X 0 dX5_row_47 rfl rfl ?_
          refine g_getR X (C := RX5) (T := TX5) (N := 23) 2 dX5_row_48 (Nat.le_of_ble_eq_true rfl) rfl rfl rfl inG5 (Nat.le_of_ble_eq_true rfl) rfl rfl q571 ?_
          refine g_iload_n X 1 dX5_row_51 rfl rfl ?_
          refine g_iload_n X 3 dX5_row_52 rfl rfl ?_
          obtain ⟨hi8, h⟩ := h
          refine g_iast X dX5_row_53 (Nat.le_of_ble_eq_true rfl) rfl hi8 ?_
          refine g_nameS (fun σ9 eσ9 => ?_)
          have h := h σ9 eσ9
          refine g_bipush X (40 : Int32) dX5_row_54 (by decide) ?_
          refine g_iload_n X 1 dX5_row_56 rfl rfl ?_
          refine g_imul X dX5_row_57 ?_
          refine g_nameI (fun y10 ey10 => ?_)
          have h := h y10 ey10
          refine g_istore X [(4, .int y10), (0, .ref 0), (1, .int x1), (2, .int x2), (3, .int x3)] dX5_row_58 (Nat.le_of_ble_eq_true rfl) rfl ?_
          refine g_weak [1, 2, 4, 0] rfl ?_
          obtain ⟨fu18, h⟩ := h
          exact b_X5_row_60 X hr fu18 _ _ _ _ h
        · have h := h.2 hc
          refine g_bipush X (-14 : Int32) dX5_row_37 (by decide) ?_
          exact g_iret X hr dX5_row_39 rfl h
      · have h := h.2 hc
        refine g_bipush X (-3 : Int32) dX5_row_30 (by decide) ?_
        exact g_iret X hr dX5_row_32 rfl h
theorem c_X5_row (l : Launch) (D : va_G) (cA : Nat → ClassId) {x1 : Int32} {x2 : Int32} {x3 : Int32} {σ : St} {Q : Int32 → St → Prop} (h : w_X5_row Q x1 x2 x3 σ) : CtI l yX5_row cX5_row 5 (some .int) rmX5_row D cA shR [.ref 0, .int x1, .int x2, .int x3] σ Q := by
  refine CtI.of (own := RX5) rfl (by decide +kernel) [(0, .ref 0), (1, .int x1), (2, .int x2), (3, .int x3)] rfl (Nat.le_of_ble_eq_true rfl) ?_
  intro p e s m args below meth c ad0 A X hr
  exact b_X5_row_0 X hr  h
def rmX5_lose : Room := { frames := 2, cells := 0, slots := 0, locals := 45 }
def w_X5_lose (Q : Int32 → St → Prop) (x1 : Int32) (σ : St) : Prop := ∀ σ1 : St, σ1 = uI σ 0 0 (0 : Int32) → w_X5_isRow (fun r3 σ2 => ((¬ r3 = 0 → w_X5_isThere (fun r5 σ4 => ((¬ r5 = 0 → vp_in x1 12 ∧ ∀ σ7 : St, σ7 = uI σ4 1 (ix x1) (-1 : Int32) → vp_in x1 12 ∧ ∀ y9 : Int32, y9 = (gI σ7 2 (ix x1)) → vp_in x1 12 ∧ ∀ σ11 : St, σ11 = uI σ7 2 (ix x1) (0 : Int32) → (Q y9 σ11)) ∧ (r5 = 0 → (Q (-11 : Int32) σ4)))) x1 σ2) ∧ (r3 = 0 → (Q (-3 : Int32) σ2)))) x1 σ1
set_option maxRecDepth 100000 in
set_option maxHeartbeats 4000000 in
theorem b_X5_lose_0 {p : Program} {l : Launch} {e : Env} {s : State} {m : MethodId} {args : Array Value} {below : List Frame} {meth : Method} {c : Code} {D : va_G} {cA : Nat → ClassId} {A : Nat → Prop} {ad0 : Nat → Nat} {Q : Int32 → St → Prop} {x1 : Int32} {σ : St} (X : Cx p rmX5_lose s m args meth c cX5_lose 3 RX5 D cA A) (hr : meth.sig.returnType = some .int) (h : w_X5_lose Q x1 σ) : G p l e rmX5_lose s m args below meth c 3 D cA A (MQ below (va_Qi Q (EndW D cA ad0 shR) A) args s 0 0 A) 0 0 (fun ad => ad = ad0) shR σ [(0, .ref 0), (1, .int x1)] 0 [] := by
  unfold w_X5_lose at h
  refine g_aload_n X 0 dX5_lose_0 rfl rfl ?_
  refine g_iconst X (0 : Int32) dX5_lose_1 (by decide) ?_
  refine g_putI X (C := RX5) (T := TX5) (N := 23) (ty0 := tyX5) 0 dX5_lose_2 (Nat.le_of_ble_eq_true rfl) rfl rfl rfl inG5 tyX5_ok nmX5 (Nat.le_of_ble_eq_true rfl) rfl rfl q569 rfl rfl ?_
  refine g_nameS (fun σ1 eσ1 => ?_)
  have h := h σ1 eσ1
  refine g_iload_n X 1 dX5_lose_5 rfl rfl ?_
  refine g_callSI X (n := 1) [.int x1] [] dX5_lose_6 (c_X5_isRow l D cA shR h) q644 q645 q57 q646 ⟨by decide, by decide, by decide +kernel⟩ rfl rfl (Nat.le_of_ble_eq_true rfl) rfl rfl ⟨(Nat.le_of_ble_eq_true rfl), (Nat.le_of_ble_eq_true rfl)⟩ (Nat.le_of_ble_eq_true rfl) (Nat.le_of_ble_eq_true rfl) (fun r3 σ2 h => ?_)
  refine g_if_ne X 15 dX5_lose_9 (by decide) (fun hc => ?_) (fun hc => ?_)
  · have h := h.1 hc
    refine g_aload_n X 0 dX5_lose_15 rfl rfl ?_
    refine g_iload_n X 1 dX5_lose_16 rfl rfl ?_
    refine g_callVI X (C := RX5) (T := TX5) (N := 23) (n := 1) [.int x1] [] dX5_lose_17 (c_X5_isThere l D cA h) q656 q658 q18 q57 q659 (Nat.le_of_ble_eq_true rfl) rfl rfl ⟨rfl, by decide, by decide, by decide +kernel⟩ rfl rfl (Nat.le_of_ble_eq_true rfl) rfl rfl ⟨(Nat.le_of_ble_eq_true rfl), (Nat.le_of_ble_eq_true rfl)⟩ (Nat.le_of_ble_eq_true rfl) (Nat.le_of_ble_eq_true rfl) (fun r5 σ4 h => ?_)
    refine g_if_ne X 26 dX5_lose_20 (by decide) (fun hc => ?_) (fun hc => ?_)
    · have h := h.1 hc
      refine g_aload_n X 0 dX5_lose_26 rfl rfl ?_
      refine g_getR X (C := RX5) (T := TX5) (N := 23) 1 dX5_lose_27 (Nat.le_of_ble_eq_true rfl) rfl rfl rfl inG5 (Nat.le_of_ble_eq_true rfl) rfl rfl q570 ?_
      refine g_iload_n X 1 dX5_lose_30 rfl rfl ?_
      refine g_iconst X (-1 : Int32) dX5_lose_31 (by decide) ?_
      obtain ⟨hi6, h⟩ := h
      refine g_iast X dX5_lose_32 (Nat.le_of_ble_eq_true rfl) rfl hi6 ?_
      refine g_nameS (fun σ7 eσ7 => ?_)
      have h := h σ7 eσ7
      refine g_aload_n X 0 dX5_lose_33 rfl rfl ?_
      refine g_getR X (C := RX5) (T := TX5) (N := 23) 2 dX5_lose_34 (Nat.le_of_ble_eq_true rfl) rfl rfl rfl inG5 (Nat.le_of_ble_eq_true rfl) rfl rfl q571 ?_
      refine g_iload_n X 1 dX5_lose_37 rfl rfl ?_
      obtain ⟨hi8, h⟩ := h
      refine g_iald X dX5_lose_38 (Nat.le_of_ble_eq_true rfl) rfl hi8 ?_
      refine g_nameI (fun y9 ey9 => ?_)
      have h := h y9 ey9
      refine g_istore_n X [(2, .int y9), (0, .ref 0), (1, .int x1)] dX5_lose_39 rfl (Nat.le_of_ble_eq_true rfl) rfl ?_
      refine g_aload_n X 1 dX5_lose_40 rfl rfl ?_
      refine g_getR X (C := RX5) (T := TX5) (N := 23) 2 dX5_lose_41 (Nat.le_of_ble_eq_true rfl) rfl rfl rfl inG5 (Nat.le_of_ble_eq_true rfl) rfl rfl q571 ?_
      refine g_iload_n X 2 dX5_lose_44 rfl rfl ?_
      refine g_iconst X (0 : Int32) dX5_lose_45 (by decide) ?_
      obtain ⟨hi10, h⟩ := h
      refine g_iast X dX5_lose_46 (Nat.le_of_ble_eq_true rfl) rfl hi10 ?_
      refine g_nameS (fun σ11 eσ11 => ?_)
      have h := h σ11 eσ11
      refine g_iload_n X 0 dX5_lose_47 rfl rfl ?_
      exact g_iret X hr dX5_lose_48 rfl h
    · have h := h.2 hc
      refine g_bipush X (-11 : Int32) dX5_lose_23 (by decide) ?_
      exact g_iret X hr dX5_lose_25 rfl h
  · have h := h.2 hc
    refine g_bipush X (-3 : Int32) dX5_lose_12 (by decide) ?_
    exact g_iret X hr dX5_lose_14 rfl h
theorem c_X5_lose (l : Launch) (D : va_G) (cA : Nat → ClassId) {x1 : Int32} {σ : St} {Q : Int32 → St → Prop} (h : w_X5_lose Q x1 σ) : CtI l yX5_lose cX5_lose 3 (some .int) rmX5_lose D cA shR [.ref 0, .int x1] σ Q := by
  refine CtI.of (own := RX5) rfl (by decide +kernel) [(0, .ref 0), (1, .int x1)] rfl (Nat.le_of_ble_eq_true rfl) ?_
  intro p e s m args below meth c ad0 A X hr
  exact b_X5_lose_0 X hr  h
def rmX5_made : Room := { frames := 0, cells := 0, slots := 0, locals := 0 }
def w_X5_made_27 (Q : UInt64 → St → Prop) : Nat → Int32 → UInt64 → Int32 → St → Prop
  | 0, _, _, _, _ => False
  | n + 1, x2, x3, x5, σ => ((x5 ≤ x2 → (Q x3 σ)) ∧ (¬ x5 ≤ x2 → vf_n64 (FP.dmul x3 (4602678819172646912 : UInt64)) ∧ ∀ y2 : UInt64, y2 = (FP.dmul x3 (4602678819172646912 : UInt64)) → ∀ y3 : Int32, y3 = x5 + (-1 : Int32) → (w_X5_made_27 Q n x2 y2 y3 σ)))
set_option maxRecDepth 100000 in
set_option maxHeartbeats 4000000 in
theorem b_X5_made_27 {p : Program} {l : Launch} {e : Env} {s : State} {m : MethodId} {args : Array Value} {below : List Frame} {meth : Method} {c : Code} {D : va_G} {cA : Nat → ClassId} {A : Nat → Prop} {ad0 : Nat → Nat} {sh : SH} {Q : UInt64 → St → Prop} (X : Cx p rmX5_made s m args meth c cX5_made 6 RX5 D cA A) (hr : meth.sig.returnType = some .double) : ∀ (n : Nat) (x2 : Int32) (x3 : UInt64) (x5 : Int32) (σ : St), w_X5_made_27 Q n x2 x3 x5 σ → G p l e rmX5_made s m args below meth c 6 D cA A (MQ below (va_Qd Q (EndW D cA ad0 sh) A) args s 0 0 A) 0 0 (fun ad => ad = ad0) sh σ [(2, .int x2), (3, .double x3), (5, .int x5)] 27 [] := by
  intro n
  induction n with
  | zero => intro x2 x3 x5 σ h; exact h.elim
  | succ n ih =>
    intro x2 x3 x5 σ h
    rw [w_X5_made_27] at h
    refine g_iload X 2 dX5_made_27 rfl ?_
    refine g_iload_n X 0 dX5_made_29 rfl rfl ?_
    refine g_icmp_le X 45 dX5_made_30 (by decide) (fun hc => ?_) (fun hc => ?_)
    · have h := h.1 hc
      refine g_dload_n X 1 dX5_made_45 rfl rfl ?_
      exact g_dret X hr dX5_made_46 h
    · have h := h.2 hc
      refine g_dload_n X 1 dX5_made_33 rfl rfl ?_
      refine g_ldc2d X q676 dX5_made_34 ?_
      obtain ⟨hc, h⟩ := h
      refine g_dmul X dX5_made_37 hc ?_
      refine g_nameD (fun y2 ey2 => ?_)
      have h := h y2 ey2
      refine g_dstore_n X [(3, .double y2), (2, .int x2), (5, .int x5)] dX5_made_38 rfl (Nat.le_of_ble_eq_true rfl) rfl ?_
      obtain ⟨y3, ey3⟩ : ∃ y : Int32, y = x5 + (-1 : Int32) := ⟨_, rfl⟩
      have h := h y3 ey3
      refine g_iinc X 2 (-1 : Int32) [(5, .int y3), (3, .double y2), (2, .int x2)] dX5_made_39 rfl (by decide) (Nat.le_of_ble_eq_true rfl) (by rw [ey3]; rfl) ?_
      refine g_goto X 27 dX5_made_42 (by decide) ?_
      refine g_weak [2, 1, 0] rfl ?_
      exact ih _ _ _ _ h
def w_X5_made_6 (Q : UInt64 → St → Prop) : Nat → Int32 → UInt64 → Int32 → St → Prop
  | 0, _, _, _, _ => False
  | n + 1, x2, x3, x5, σ => ((x2 ≤ x5 → (∃ fu4 : Nat, w_X5_made_27 Q fu4 x2 x3 (0 : Int32) σ)) ∧ (¬ x2 ≤ x5 → vf_n64 (FP.dmul x3 (4611686018427387904 : UInt64)) ∧ ∀ y5 : UInt64, y5 = (FP.dmul x3 (4611686018427387904 : UInt64)) → ∀ y6 : Int32, y6 = x5 + (1 : Int32) → (w_X5_made_6 Q n x2 y5 y6 σ)))
set_option maxRecDepth 100000 in
set_option maxHeartbeats 4000000 in
theorem b_X5_made_6 {p : Program} {l : Launch} {e : Env} {s : State} {m : MethodId} {args : Array Value} {below : List Frame} {meth : Method} {c : Code} {D : va_G} {cA : Nat → ClassId} {A : Nat → Prop} {ad0 : Nat → Nat} {sh : SH} {Q : UInt64 → St → Prop} (X : Cx p rmX5_made s m args meth c cX5_made 6 RX5 D cA A) (hr : meth.sig.returnType = some .double) : ∀ (n : Nat) (x2 : Int32) (x3 : UInt64) (x5 : Int32) (σ : St), w_X5_made_6 Q n x2 x3 x5 σ → G p l e rmX5_made s m args below meth c 6 D cA A (MQ below (va_Qd Q (EndW D cA ad0 sh) A) args s 0 0 A) 0 0 (fun ad => ad = ad0) sh σ [(2, .int x2), (3, .double x3), (5, .int x5)] 6 [] := by
  intro n
  induction n with
  | zero => intro x2 x3 x5 σ h; exact h.elim
  | succ n ih =>
    intro x2 x3 x5 σ h
    rw [w_X5_made_6] at h
    refine g_iload X 2 dX5_made_6 rfl ?_
    refine g_iload_n X 0 dX5_made_8 rfl rfl ?_
    refine g_icmp_ge X 24 dX5_made_9 (by decide) (fun hc => ?_) (fun hc => ?_)
    · have h := h.1 hc
      refine g_iconst X (0 : Int32) dX5_made_24 (by decide) ?_
      refine g_istore X [(5, .int (0 : Int32)), (2, .int x2), (3, .double x3)] dX5_made_25 (Nat.le_of_ble_eq_true rfl) rfl ?_
      refine g_weak [1, 2, 0] rfl ?_
      obtain ⟨fu4, h⟩ := h
      exact b_X5_made_27 X hr fu4 _ _ _ _ h
    · have h := h.2 hc
      refine g_dload_n X 1 dX5_made_12 rfl rfl ?_
      refine g_ldc2d X q675 dX5_made_13 ?_
      obtain ⟨hc, h⟩ := h
      refine g_dmul X dX5_made_16 hc ?_
      refine g_nameD (fun y5 ey5 => ?_)
      have h := h y5 ey5
      refine g_dstore_n X [(3, .double y5), (2, .int x2), (5, .int x5)] dX5_made_17 rfl (Nat.le_of_ble_eq_true rfl) rfl ?_
      obtain ⟨y6, ey6⟩ : ∃ y : Int32, y = x5 + (1 : Int32) := ⟨_, rfl⟩
      have h := h y6 ey6
      refine g_iinc X 2 (1 : Int32) [(5, .int y6), (3, .double y5), (2, .int x2)] dX5_made_18 rfl (by decide) (Nat.le_of_ble_eq_true rfl) (by rw [ey6]; rfl) ?_
      refine g_goto X 6 dX5_made_21 (by decide) ?_
      refine g_weak [2, 1, 0] rfl ?_
      exact ih _ _ _ _ h
def w_X5_made (Q : UInt64 → St → Prop) (x0 : Int64) (x2 : Int32) (σ : St) : Prop := ∀ y1 : UInt64, y1 = (FP.l2d x0) → (∃ fu7 : Nat, w_X5_made_6 Q fu7 x2 y1 (0 : Int32) σ)
set_option maxRecDepth 100000 in
set_option maxHeartbeats 4000000 in
theorem b_X5_made_0 {p : Program} {l : Launch} {e : Env} {s : State} {m : MethodId} {args : Array Value} {below : List Frame} {meth : Method} {c : Code} {D : va_G} {cA : Nat → ClassId} {A : Nat → Prop} {ad0 : Nat → Nat} {sh : SH} {Q : UInt64 → St → Prop} {x0 : Int64} {x2 : Int32} {σ : St} (X : Cx p rmX5_made s m args meth c cX5_made 6 RX5 D cA A) (hr : meth.sig.returnType = some .double) (h : w_X5_made Q x0 x2 σ) : G p l e rmX5_made s m args below meth c 6 D cA A (MQ below (va_Qd Q (EndW D cA ad0 sh) A) args s 0 0 A) 0 0 (fun ad => ad = ad0) sh σ [(0, .long x0), (2, .int x2)] 0 [] := by
  unfold w_X5_made at h
  refine g_lload_n X 0 dX5_made_0 rfl rfl ?_
  refine g_l2d X dX5_made_1 ?_
  refine g_nameD (fun y1 ey1 => ?_)
  have h := h y1 ey1
  refine g_dstore_n X [(3, .double y1), (0, .long x0), (2, .int x2)] dX5_made_2 rfl (Nat.le_of_ble_eq_true rfl) rfl ?_
  refine g_iconst X (0 : Int32) dX5_made_3 (by decide) ?_
  refine g_istore X [(5, .int (0 : Int32)), (3, .double y1), (0, .long x0), (2, .int x2)] dX5_made_4 (Nat.le_of_ble_eq_true rfl) rfl ?_
  refine g_weak [3, 1, 0] rfl ?_
  obtain ⟨fu7, h⟩ := h
  exact b_X5_made_6 X hr fu7 _ _ _ _ h
theorem c_X5_made (l : Launch) (D : va_G) (cA : Nat → ClassId) (sh : SH) {x0 : Int64} {x2 : Int32} {σ : St} {Q : UInt64 → St → Prop} (h : w_X5_made Q x0 x2 σ) : CtD l yX5_made cX5_made 6 (some .double) rmX5_made D cA sh [.long x0, .int x2] σ Q := by
  refine CtD.of (own := RX5) rfl (by decide +kernel) [(0, .long x0), (2, .int x2)] rfl (Nat.le_of_ble_eq_true rfl) ?_
  intro p e s m args below meth c ad0 A X hr
  exact b_X5_made_0 X hr  h
def rmX5_putFloat : Room := { frames := 1, cells := 0, slots := 0, locals := 25 }
def w_X5_putFloat_61 (Q : St → Prop) (s0 : UInt64) (s1 : Int32) (σ : St) : Prop := vp_in s1 480 ∧ ∀ σ7 : St, σ7 = uD σ 4 (ix s1) s0 → (Q σ7)
set_option maxRecDepth 100000 in
set_option maxHeartbeats 4000000 in
theorem b_X5_putFloat_61 {p : Program} {l : Launch} {e : Env} {s : State} {m : MethodId} {args : Array Value} {below : List Frame} {meth : Method} {c : Code} {D : va_G} {cA : Nat → ClassId} {A : Nat → Prop} {ad0 : Nat → Nat} {Q : St → Prop} {s0 : UInt64} {s1 : Int32} {σ : St} (X : Cx p rmX5_putFloat s m args meth c cX5_putFloat 6 RX5 D cA A) (hr : meth.sig.returnType = none) (h : w_X5_putFloat_61 Q s0 s1 σ) : G p l e rmX5_putFloat s m args below meth c 6 D cA A (MQ below (va_Qv Q (EndW D cA ad0 shR) A) args s 0 0 A) 0 0 (fun ad => ad = ad0) shR σ [] 61 [.double s0, .int s1, .ref 4] := by
  unfold w_X5_putFloat_61 at h
  obtain ⟨hi6, h⟩ := h
  refine g_dast X dX5_putFloat_61 (Nat.le_of_ble_eq_true rfl) rfl hi6 ?_
  refine g_nameS (fun σ7 eσ7 => ?_)
  have h := h σ7 eσ7
  exact g_vret X hr dX5_putFloat_62 h
def w_X5_putFloat_39 (Q : St → Prop) (x1 : Int32) (x2 : UInt64) (s0 : Int32) (s1 : Int32) (σ : St) : Prop := vp_in s1 480 ∧ ∀ σ4 : St, σ4 = uI σ 5 (ix s1) s0 → vp_in x1 480 ∧ ((¬ (gI σ4 5 (ix x1)) = 0 → (w_X5_putFloat_61 Q FP.dconst0 x1 σ4)) ∧ ((gI σ4 5 (ix x1)) = 0 → vf_n32 (FP.d2f x2) ∧ vf_n64 (FP.f2d (FP.d2f x2)) ∧ (w_X5_putFloat_61 Q (FP.f2d (FP.d2f x2)) x1 σ4)))
set_option maxRecDepth 100000 in
set_option maxHeartbeats 4000000 in
theorem b_X5_putFloat_39 {p : Program} {l : Launch} {e : Env} {s : State} {m : MethodId} {args : Array Value} {below : List Frame} {meth : Method} {c : Code} {D : va_G} {cA : Nat → ClassId} {A : Nat → Prop} {ad0 : Nat → Nat} {Q : St → Prop} {x1 : Int32} {x2 : UInt64} {s0 : Int32} {s1 : Int32} {σ : St} (X : Cx p rmX5_putFloat s m args meth c cX5_putFloat 6 RX5 D cA A) (hr : meth.sig.returnType = none) (h : w_X5_putFloat_39 Q x1 x2 s0 s1 σ) : G p l e rmX5_putFloat s m args below meth c 6 D cA A (MQ below (va_Qv Q (EndW D cA ad0 shR) A) args s 0 0 A) 0 0 (fun ad => ad = ad0) shR σ [(0, .ref 0), (1, .int x1), (2, .double x2)] 39 [.int s0, .int s1, .ref 5] := by
  unfold w_X5_putFloat_39 at h
  obtain ⟨hi3, h⟩ := h
  refine g_iast X dX5_putFloat_39 (Nat.le_of_ble_eq_true rfl) rfl hi3 ?_
  refine g_nameS (fun σ4 eσ4 => ?_)
  have h := h σ4 eσ4
  refine g_aload_n X 0 dX5_putFloat_40 rfl rfl ?_
  refine g_getR X (C := RX5) (T := TX5) (N := 23) 4 dX5_putFloat_41 (Nat.le_of_ble_eq_true rfl) rfl rfl rfl inG5 (Nat.le_of_ble_eq_true rfl) rfl rfl q573 ?_
  refine g_iload_n X 1 dX5_putFloat_44 rfl rfl ?_
  refine g_aload_n X 0 dX5_putFloat_45 rfl rfl ?_
  refine g_getR X (C := RX5) (T := TX5) (N := 23) 5 dX5_putFloat_46 (Nat.le_of_ble_eq_true rfl) rfl rfl rfl inG5 (Nat.le_of_ble_eq_true rfl) rfl rfl q574 ?_
  refine g_iload_n X 1 dX5_putFloat_49 rfl rfl ?_
  obtain ⟨hi5, h⟩ := h
  refine g_iald X dX5_putFloat_50 (Nat.le_of_ble_eq_true rfl) rfl hi5 ?_
  refine g_if_ne X 60 dX5_putFloat_51 (by decide) (fun hc => ?_) (fun hc => ?_)
  · have h := h.1 hc
    refine g_dconst0 X dX5_putFloat_60 ?_
    refine g_weak [] rfl ?_
    exact b_X5_putFloat_61 X hr h
  · have h := h.2 hc
    refine g_dload_n X 2 dX5_putFloat_54 rfl rfl ?_
    obtain ⟨hc, h⟩ := h
    refine g_d2f X dX5_putFloat_55 hc ?_
    obtain ⟨hc, h⟩ := h
    refine g_f2d X dX5_putFloat_56 hc ?_
    refine g_goto X 61 dX5_putFloat_57 (by decide) ?_
    refine g_weak [] rfl ?_
    exact b_X5_putFloat_61 X hr h
def w_X5_putFloat (Q : St → Prop) (x1 : Int32) (x2 : UInt64) (σ : St) : Prop := w_X5_made (fun r2 σ1 => (((dcmpF x2 r2 .l) < 0 → ((0 < (dcmpF x2 (FP.dneg r2) .g) → (w_X5_putFloat_39 Q x1 x2 (0 : Int32) x1 σ1)) ∧ (¬ 0 < (dcmpF x2 (FP.dneg r2) .g) → (w_X5_putFloat_39 Q x1 x2 (2 : Int32) x1 σ1)))) ∧ (¬ (dcmpF x2 r2 .l) < 0 → (w_X5_putFloat_39 Q x1 x2 (1 : Int32) x1 σ1)))) (33554431 : Int64) (103 : Int32) σ
set_option maxRecDepth 100000 in
set_option maxHeartbeats 4000000 in
theorem b_X5_putFloat_0 {p : Program} {l : Launch} {e : Env} {s : State} {m : MethodId} {args : Array Value} {below : List Frame} {meth : Method} {c : Code} {D : va_G} {cA : Nat → ClassId} {A : Nat → Prop} {ad0 : Nat → Nat} {Q : St → Prop} {x1 : Int32} {x2 : UInt64} {σ : St} (X : Cx p rmX5_putFloat s m args meth c cX5_putFloat 6 RX5 D cA A) (hr : meth.sig.returnType = none) (h : w_X5_putFloat Q x1 x2 σ) : G p l e rmX5_putFloat s m args below meth c 6 D cA A (MQ below (va_Qv Q (EndW D cA ad0 shR) A) args s 0 0 A) 0 0 (fun ad => ad = ad0) shR σ [(0, .ref 0), (1, .int x1), (2, .double x2)] 0 [] := by
  unfold w_X5_putFloat at h
  refine g_ldc2 X q681 dX5_putFloat_0 ?_
  refine g_bipush X (103 : Int32) dX5_putFloat_3 (by decide) ?_
  refine g_callSD X (n := 2) [.long (33554431 : Int64), .int (103 : Int32)] [] dX5_putFloat_5 (c_X5_made l D cA shR h) q672 q673 q57 q674 ⟨by decide, by decide, by decide +kernel⟩ rfl rfl (Nat.le_of_ble_eq_true rfl) rfl rfl ⟨(Nat.le_of_ble_eq_true rfl), (Nat.le_of_ble_eq_true rfl)⟩ (Nat.le_of_ble_eq_true rfl) (Nat.le_of_ble_eq_true rfl) (fun r2 σ1 h => ?_)
  refine g_dstore X [(4, .double r2), (0, .ref 0), (1, .int x1), (2, .double x2)] dX5_putFloat_8 (Nat.le_of_ble_eq_true rfl) rfl ?_
  refine g_aload_n X 1 dX5_putFloat_10 rfl rfl ?_
  refine g_getR X (C := RX5) (T := TX5) (N := 23) 5 dX5_putFloat_11 (Nat.le_of_ble_eq_true rfl) rfl rfl rfl inG5 (Nat.le_of_ble_eq_true rfl) rfl rfl q574 ?_
  refine g_iload_n X 2 dX5_putFloat_14 rfl rfl ?_
  refine g_dload_n X 3 dX5_putFloat_15 rfl rfl ?_
  refine g_dload X 0 dX5_putFloat_16 rfl ?_
  refine g_dcmp X dX5_putFloat_18 ?_
  refine g_if_lt X 26 dX5_putFloat_19 (by decide) (fun hc => ?_) (fun hc => ?_)
  · have h := h.1 hc
    refine g_dload_n X 3 dX5_putFloat_26 rfl rfl ?_
    refine g_dload X 0 dX5_putFloat_27 rfl ?_
    refine g_dneg X dX5_putFloat_29 ?_
    refine g_dcmp X dX5_putFloat_30 ?_
    refine g_if_gt X 38 dX5_putFloat_31 (by decide) (fun hc => ?_) (fun hc => ?_)
    · have h := h.1 hc
      refine g_iconst X (0 : Int32) dX5_putFloat_38 (by decide) ?_
      refine g_weak [1, 2, 3] rfl ?_
      exact b_X5_putFloat_39 X hr h
    · have h := h.2 hc
      refine g_iconst X (2 : Int32) dX5_putFloat_34 (by decide) ?_
      refine g_goto X 39 dX5_putFloat_35 (by decide) ?_
      refine g_weak [1, 2, 3] rfl ?_
      exact b_X5_putFloat_39 X hr h
  · have h := h.2 hc
    refine g_iconst X (1 : Int32) dX5_putFloat_22 (by decide) ?_
    refine g_goto X 39 dX5_putFloat_23 (by decide) ?_
    refine g_weak [1, 2, 3] rfl ?_
    exact b_X5_putFloat_39 X hr h
theorem c_X5_putFloat (l : Launch) (D : va_G) (cA : Nat → ClassId) {x1 : Int32} {x2 : UInt64} {σ : St} {Q : St → Prop} (h : w_X5_putFloat Q x1 x2 σ) : CtV l yX5_putFloat cX5_putFloat 6 (none) rmX5_putFloat D cA shR [.ref 0, .int x1, .double x2] σ Q := by
  refine CtV.of (own := RX5) rfl (by decide +kernel) [(0, .ref 0), (1, .int x1), (2, .double x2)] rfl (Nat.le_of_ble_eq_true rfl) ?_
  intro p e s m args below meth c ad0 A X hr
  exact b_X5_putFloat_0 X hr  h
def rmX5_put : Room := { frames := 2, cells := 0, slots := 0, locals := 50 }
def w_X5_put (Q : Int32 → St → Prop) (x1 : Int32) (x2 : Int32) (x3 : Int64) (x5 : Int32) (σ : St) : Prop := ∀ σ1 : St, σ1 = uI σ 0 0 (0 : Int32) → w_X5_isRow (fun r3 σ2 => ((r3 = 0 → (Q (-3 : Int32) σ2)) ∧ (¬ r3 = 0 → w_X5_in (fun r5 σ4 => ((r5 = 0 → (Q (-3 : Int32) σ4)) ∧ (¬ r5 = 0 → w_X5_in (fun r7 σ6 => ((¬ r7 = 0 → w_X5_isThere (fun r9 σ8 => ((¬ r9 = 0 → w_X5_isPlace (fun r11 σ10 => ((¬ r11 = 0 → ∀ y12 : Int32, y12 = (((40 : Int32) * x1) + x2) → vp_in x1 12 ∧ ∀ y14 : Int32, y14 = (gI σ10 1 (ix x1)) → ((y14 = 0 → vp_in y12 480 ∧ ∀ σ16 : St, σ16 = uJ σ10 3 (ix y12) (((x3.toInt32).toInt8.toInt32).toInt64) → (Q (0 : Int32) σ16)) ∧ (y14 = 1 → vp_in y12 480 ∧ ∀ σ18 : St, σ18 = uJ σ10 3 (ix y12) (((x3.toInt32).toInt16.toInt32).toInt64) → (Q (0 : Int32) σ18)) ∧ (y14 = 2 → vp_in y12 480 ∧ ∀ σ20 : St, σ20 = uJ σ10 3 (ix y12) ((x3.toInt32).toInt64) → (Q (0 : Int32) σ20)) ∧ (y14 = 3 → vp_in y12 480 ∧ ∀ σ22 : St, σ22 = uJ σ10 3 (ix y12) x3 → (Q (0 : Int32) σ22)) ∧ (y14 = 4 → w_X5_made (fun r24 σ23 => w_X5_putFloat (fun σ25 => (Q (0 : Int32) σ25)) y12 r24 σ23) x3 x5 σ10) ∧ (¬ y14 = 0 → ¬ y14 = 1 → ¬ y14 = 2 → ¬ y14 = 3 → ¬ y14 = 4 → vp_in y12 480 ∧ ∀ σ27 : St, σ27 = uI σ10 5 (ix y12) (0 : Int32) → w_X5_made (fun r29 σ28 => vp_in y12 480 ∧ ∀ σ31 : St, σ31 = uD σ28 4 (ix y12) r29 → (Q (0 : Int32) σ31)) x3 x5 σ27))) ∧ (r11 = 0 → (Q (-13 : Int32) σ10)))) x1 x2 σ8) ∧ (r9 = 0 → (Q (-11 : Int32) σ8)))) x1 σ6) ∧ (r7 = 0 → (Q (-3 : Int32) σ6)))) (x5.toInt64) (-1074 : Int64) (971 : Int64) σ4))) x3 (-9007199254740991 : Int64) (9007199254740991 : Int64) σ2))) x1 σ1
set_option maxRecDepth 100000 in
set_option maxHeartbeats 4000000 in
theorem b_X5_put_0 {p : Program} {l : Launch} {e : Env} {s : State} {m : MethodId} {args : Array Value} {below : List Frame} {meth : Method} {c : Code} {D : va_G} {cA : Nat → ClassId} {A : Nat → Prop} {ad0 : Nat → Nat} {Q : Int32 → St → Prop} {x1 : Int32} {x2 : Int32} {x3 : Int64} {x5 : Int32} {σ : St} (X : Cx p rmX5_put s m args meth c cX5_put 7 RX5 D cA A) (hr : meth.sig.returnType = some .int) (h : w_X5_put Q x1 x2 x3 x5 σ) : G p l e rmX5_put s m args below meth c 7 D cA A (MQ below (va_Qi Q (EndW D cA ad0 shR) A) args s 0 0 A) 0 0 (fun ad => ad = ad0) shR σ [(0, .ref 0), (1, .int x1), (2, .int x2), (3, .long x3), (5, .int x5)] 0 [] := by
  unfold w_X5_put at h
  refine g_aload_n X 0 dX5_put_0 rfl rfl ?_
  refine g_iconst X (0 : Int32) dX5_put_1 (by decide) ?_
  refine g_putI X (C := RX5) (T := TX5) (N := 23) (ty0 := tyX5) 0 dX5_put_2 (Nat.le_of_ble_eq_true rfl) rfl rfl rfl inG5 tyX5_ok nmX5 (Nat.le_of_ble_eq_true rfl) rfl rfl q569 rfl rfl ?_
  refine g_nameS (fun σ1 eσ1 => ?_)
  have h := h σ1 eσ1
  refine g_iload_n X 1 dX5_put_5 rfl rfl ?_
  refine g_callSI X (n := 1) [.int x1] [] dX5_put_6 (c_X5_isRow l D cA shR h) q644 q645 q57 q646 ⟨by decide, by decide, by decide +kernel⟩ rfl rfl (Nat.le_of_ble_eq_true rfl) rfl rfl ⟨(Nat.le_of_ble_eq_true rfl), (Nat.le_of_ble_eq_true rfl)⟩ (Nat.le_of_ble_eq_true rfl) (Nat.le_of_ble_eq_true rfl) (fun r3 σ2 h => ?_)
  refine g_if_eq X 40 dX5_put_9 (by decide) (fun hc => ?_) (fun hc => ?_)
  · have h := h.1 hc
    refine g_bipush X (-3 : Int32) dX5_put_40 (by decide) ?_
    exact g_iret X hr dX5_put_42 rfl h
  · have h := h.2 hc
    refine g_lload_n X 3 dX5_put_12 rfl rfl ?_
    refine g_ldc2 X q664 dX5_put_13 ?_
    refine g_ldc2 X q665 dX5_put_16 ?_
    refine g_callSI X (n := 3) [.long x3, .long (-9007199254740991 : Int64), .long (9007199254740991 : Int64)] [] dX5_put_19 (c_X5_in l D cA shR h) q648 q649 q57 q650 ⟨by decide, by decide, by decide +kernel⟩ rfl rfl (Nat.le_of_ble_eq_true rfl) rfl rfl ⟨(Nat.le_of_ble_eq_true rfl), (Nat.le_of_ble_eq_true rfl)⟩ (Nat.le_of_ble_eq_true rfl) (Nat.le_of_ble_eq_true rfl) (fun r5 σ4 h => ?_)
    refine g_if_eq X 40 dX5_put_22 (by decide) (fun hc => ?_) (fun hc => ?_)
    · have h := h.1 hc
      refine g_bipush X (-3 : Int32) dX5_put_40 (by decide) ?_
      exact g_iret X hr dX5_put_42 rfl h
    · have h := h.2 hc
      refine g_iload X 4 dX5_put_25 rfl ?_
      refine g_i2l X dX5_put_27 ?_
      refine g_ldc2 X q666 dX5_put_28 ?_
      refine g_ldc2 X q667 dX5_put_31 ?_
      refine g_callSI X (n := 3) [.long (x5.toInt64), .long (-1074 : Int64), .long (971 : Int64)] [] dX5_put_34 (c_X5_in l D cA shR h) q648 q649 q57 q650 ⟨by decide, by decide, by decide +kernel⟩ rfl rfl (Nat.le_of_ble_eq_true rfl) rfl rfl ⟨(Nat.le_of_ble_eq_true rfl), (Nat.le_of_ble_eq_true rfl)⟩ (Nat.le_of_ble_eq_true rfl) (Nat.le_of_ble_eq_true rfl) (fun r7 σ6 h => ?_)
      refine g_if_ne X 43 dX5_put_37 (by decide) (fun hc => ?_) (fun hc => ?_)
      · have h := h.1 hc
        refine g_aload_n X 0 dX5_put_43 rfl rfl ?_
        refine g_iload_n X 1 dX5_put_44 rfl rfl ?_
        refine g_callVI X (C := RX5) (T := TX5) (N := 23) (n := 1) [.int x1] [] dX5_put_45 (c_X5_isThere l D cA h) q656 q658 q18 q57 q659 (Nat.le_of_ble_eq_true rfl) rfl rfl ⟨rfl, by decide, by decide, by decide +kernel⟩ rfl rfl (Nat.le_of_ble_eq_true rfl) rfl rfl ⟨(Nat.le_of_ble_eq_true rfl), (Nat.le_of_ble_eq_true rfl)⟩ (Nat.le_of_ble_eq_true rfl) (Nat.le_of_ble_eq_true rfl) (fun r9 σ8 h => ?_)
        refine g_if_ne X 54 dX5_put_48 (by decide) (fun hc => ?_) (fun hc => ?_)
        · have h := h.1 hc
          refine g_aload_n X 0 dX5_put_54 rfl rfl ?_
          refine g_iload_n X 1 dX5_put_55 rfl rfl ?_
          refine g_iload_n X 2 dX5_put_56 rfl rfl ?_
          refine g_callVI X (C := RX5) (T := TX5) (N := 23) (n := 2) [.int x1, .int x2] [] dX5_put_57 (c_X5_isPlace l D cA h) q668 q670 q19 q57 q671 (Nat.le_of_ble_eq_true rfl) rfl rfl ⟨rfl, by decide, by decide, by decide +kernel⟩ rfl rfl (Nat.le_of_ble_eq_true rfl) rfl rfl ⟨(Nat.le_of_ble_eq_true rfl), (Nat.le_of_ble_eq_true rfl)⟩ (Nat.le_of_ble_eq_true rfl) (Nat.le_of_ble_eq_true rfl) (fun r11 σ10 h => ?_)
          refine g_if_ne X 66 dX5_put_60 (by decide) (fun hc => ?_) (fun hc => ?_)
          · have h := h.1 hc
            refine g_bipush X (40 : Int32) dX5_put_66 (by decide) ?_
            refine g_iload_n X 1 dX5_put_68 rfl rfl ?_
            refine g_imul X dX5_put_69 ?_
            refine g_iload_n X 2 dX5_put_70 rfl rfl ?_
            refine g_iadd X dX5_put_71 ?_
            refine g_nameI (fun y12 ey12 => ?_)
            have h := h y12 ey12
            refine g_istore X [(6, .int y12), (0, .ref 0), (1, .int x1), (2, .int x2), (3, .long x3), (5, .int x5)] dX5_put_72 (Nat.le_of_ble_eq_true rfl) rfl ?_
            refine g_aload_n X 1 dX5_put_74 rfl rfl ?_
            refine g_getR X (C := RX5) (T := TX5) (N := 23) 1 dX5_put_75 (Nat.le_of_ble_eq_true rfl) rfl rfl rfl inG5 (Nat.le_of_ble_eq_true rfl) rfl rfl q570 ?_
            refine g_iload_n X 2 dX5_put_78 rfl rfl ?_
            obtain ⟨hi13, h⟩ := h
            refine g_iald X dX5_put_79 (Nat.le_of_ble_eq_true rfl) rfl hi13 ?_
            refine g_nameI (fun y14 ey14 => ?_)
            have h := h y14 ey14
            by_cases hc0 : y14 = 0
            · have h := h.1 hc0
              refine g_tabIn X 116 (36) dX5_put_80 (by rw [hc0]; decide) (by rw [hc0]; decide) (by rw [hc0]; rfl) (by decide) ?_
              refine g_aload_n X 1 dX5_put_116 rfl rfl ?_
              refine g_getR X (C := RX5) (T := TX5) (N := 23) 3 dX5_put_117 (Nat.le_of_ble_eq_true rfl) rfl rfl rfl inG5 (Nat.le_of_ble_eq_true rfl) rfl rfl q572 ?_
              refine g_iload X 0 dX5_put_120 rfl ?_
              refine g_lload_n X 4 dX5_put_122 rfl rfl ?_
              refine g_l2i X dX5_put_123 ?_
              refine g_i2b X dX5_put_124 ?_
              refine g_i2l X dX5_put_125 ?_
              obtain ⟨hi15, h⟩ := h
              refine g_last X dX5_put_126 (Nat.le_of_ble_eq_true rfl) rfl hi15 ?_
              refine g_nameS (fun σ16 eσ16 => ?_)
              have h := h σ16 eσ16
              refine g_goto X 204 dX5_put_127 (by decide) ?_
              refine g_iconst X (0 : Int32) dX5_put_204 (by decide) ?_
              exact g_iret X hr dX5_put_205 rfl h
            by_cases hc1 : y14 = 1
            · have h := h.2.1 hc1
              refine g_tabIn X 130 (50) dX5_put_80 (by rw [hc1]; decide) (by rw [hc1]; decide) (by rw [hc1]; rfl) (by decide) ?_
              refine g_aload_n X 1 dX5_put_130 rfl rfl ?_
              refine g_getR X (C := RX5) (T := TX5) (N := 23) 3 dX5_put_131 (Nat.le_of_ble_eq_true rfl) rfl rfl rfl inG5 (Nat.le_of_ble_eq_true rfl) rfl rfl q572 ?_
              refine g_iload X 0 dX5_put_134 rfl ?_
              refine g_lload_n X 4 dX5_put_136 rfl rfl ?_
              refine g_l2i X dX5_put_137 ?_
              refine g_i2s X dX5_put_138 ?_
              refine g_i2l X dX5_put_139 ?_
              obtain ⟨hi17, h⟩ := h
              refine g_last X dX5_put_140 (Nat.le_of_ble_eq_true rfl) rfl hi17 ?_
              refine g_nameS (fun σ18 eσ18 => ?_)
              have h := h σ18 eσ18
              refine g_goto X 204 dX5_put_141 (by decide) ?_
              refine g_iconst X (0 : Int32) dX5_put_204 (by decide) ?_
              exact g_iret X hr dX5_put_205 rfl h
            by_cases hc2 : y14 = 2
            · have h := h.2.2.1 hc2
              refine g_tabIn X 144 (64) dX5_put_80 (by rw [hc2]; decide) (by rw [hc2]; decide) (by rw [hc2]; rfl) (by decide) ?_
              refine g_aload_n X 1 dX5_put_144 rfl rfl ?_
              refine g_getR X (C := RX5) (T := TX5) (N := 23) 3 dX5_put_145 (Nat.le_of_ble_eq_true rfl) rfl rfl rfl inG5 (Nat.le_of_ble_eq_true rfl) rfl rfl q572 ?_
              refine g_iload X 0 dX5_put_148 rfl ?_
              refine g_lload_n X 4 dX5_put_150 rfl rfl ?_
              refine g_l2i X dX5_put_151 ?_
              refine g_i2l X dX5_put_152 ?_
              obtain ⟨hi19, h⟩ := h
              refine g_last X dX5_put_153 (Nat.le_of_ble_eq_true rfl) rfl hi19 ?_
              refine g_nameS (fun σ20 eσ20 => ?_)
              have h := h σ20 eσ20
              refine g_goto X 204 dX5_put_154 (by decide) ?_
              refine g_iconst X (0 : Int32) dX5_put_204 (by decide) ?_
              exact g_iret X hr dX5_put_205 rfl h
            by_cases hc3 : y14 = 3
            · have h := h.2.2.2.1 hc3
              refine g_tabIn X 157 (77) dX5_put_80 (by rw [hc3]; decide) (by rw [hc3]; decide) (by rw [hc3]; rfl) (by decide) ?_
              refine g_aload_n X 1 dX5_put_157 rfl rfl ?_
              refine g_getR X (C := RX5) (T := TX5) (N := 23) 3 dX5_put_158 (Nat.le_of_ble_eq_true rfl) rfl rfl rfl inG5 (Nat.le_of_ble_eq_true rfl) rfl rfl q572 ?_
              refine g_iload X 0 dX5_put_161 rfl ?_
              refine g_lload_n X 4 dX5_put_163 rfl rfl ?_
              obtain ⟨hi21, h⟩ := h
              refine g_last X dX5_put_164 (Nat.le_of_ble_eq_true rfl) rfl hi21 ?_
              refine g_nameS (fun σ22 eσ22 => ?_)
              have h := h σ22 eσ22
              refine g_goto X 204 dX5_put_165 (by decide) ?_
              refine g_iconst X (0 : Int32) dX5_put_204 (by decide) ?_
              exact g_iret X hr dX5_put_205 rfl h
            by_cases hc4 : y14 = 4
            · have h := h.2.2.2.2.1 hc4
              refine g_tabIn X 168 (88) dX5_put_80 (by rw [hc4]; decide) (by rw [hc4]; decide) (by rw [hc4]; rfl) (by decide) ?_
              refine g_aload_n X 1 dX5_put_168 rfl rfl ?_
              refine g_iload X 0 dX5_put_169 rfl ?_
              refine g_lload_n X 4 dX5_put_171 rfl rfl ?_
              refine g_iload X 5 dX5_put_172 rfl ?_
              refine g_callSD X (n := 2) [.long x3, .int x5] [.int y12, .ref 0] dX5_put_174 (c_X5_made l D cA shR h) q672 q673 q57 q674 ⟨by decide, by decide, by decide +kernel⟩ rfl rfl (Nat.le_of_ble_eq_true rfl) rfl rfl ⟨(Nat.le_of_ble_eq_true rfl), (Nat.le_of_ble_eq_true rfl)⟩ (Nat.le_of_ble_eq_true rfl) (Nat.le_of_ble_eq_true rfl) (fun r24 σ23 h => ?_)
              refine g_callVV X (C := RX5) (T := TX5) (N := 23) (n := 2) [.int y12, .double r24] [] dX5_put_177 (c_X5_putFloat l D cA h) q677 q679 q20 q57 q680 (Nat.le_of_ble_eq_true rfl) rfl rfl ⟨rfl, by decide, by decide, by decide +kernel⟩ rfl rfl (Nat.le_of_ble_eq_true rfl) rfl rfl ⟨(Nat.le_of_ble_eq_true rfl), (Nat.le_of_ble_eq_true rfl)⟩ (Nat.le_of_ble_eq_true rfl) (Nat.le_of_ble_eq_true rfl) (fun σ25 h => ?_)
              refine g_goto X 204 dX5_put_180 (by decide) ?_
              refine g_iconst X (0 : Int32) dX5_put_204 (by decide) ?_
              exact g_iret X hr dX5_put_205 rfl h
            have h := h.2.2.2.2.2 hc0 hc1 hc2 hc3 hc4
            refine g_tabOut X 183 dX5_put_80 (by have e0 := lv_neT (a := 0) hc0 rfl; have e1 := lv_neT (a := 1) hc1 rfl; have e2 := lv_neT (a := 2) hc2 rfl; have e3 := lv_neT (a := 3) hc3 rfl; have e4 := lv_neT (a := 4) hc4 rfl; omega) (by decide) ?_
            refine g_aload_n X 1 dX5_put_183 rfl rfl ?_
            refine g_getR X (C := RX5) (T := TX5) (N := 23) 5 dX5_put_184 (Nat.le_of_ble_eq_true rfl) rfl rfl rfl inG5 (Nat.le_of_ble_eq_true rfl) rfl rfl q574 ?_
            refine g_iload X 0 dX5_put_187 rfl ?_
            refine g_iconst X (0 : Int32) dX5_put_189 (by decide) ?_
            obtain ⟨hi26, h⟩ := h
            refine g_iast X dX5_put_190 (Nat.le_of_ble_eq_true rfl) rfl hi26 ?_
            refine g_nameS (fun σ27 eσ27 => ?_)
            have h := h σ27 eσ27
            refine g_aload_n X 1 dX5_put_191 rfl rfl ?_
            refine g_getR X (C := RX5) (T := TX5) (N := 23) 4 dX5_put_192 (Nat.le_of_ble_eq_true rfl) rfl rfl rfl inG5 (Nat.le_of_ble_eq_true rfl) rfl rfl q573 ?_
            refine g_iload X 0 dX5_put_195 rfl ?_
            refine g_lload_n X 4 dX5_put_197 rfl rfl ?_
            refine g_iload X 5 dX5_put_198 rfl ?_
            refine g_callSD X (n := 2) [.long x3, .int x5] [.int y12, .ref 4] dX5_put_200 (c_X5_made l D cA shR h) q672 q673 q57 q674 ⟨by decide, by decide, by decide +kernel⟩ rfl rfl (Nat.le_of_ble_eq_true rfl) rfl rfl ⟨(Nat.le_of_ble_eq_true rfl), (Nat.le_of_ble_eq_true rfl)⟩ (Nat.le_of_ble_eq_true rfl) (Nat.le_of_ble_eq_true rfl) (fun r29 σ28 h => ?_)
            obtain ⟨hi30, h⟩ := h
            refine g_dast X dX5_put_203 (Nat.le_of_ble_eq_true rfl) rfl hi30 ?_
            refine g_nameS (fun σ31 eσ31 => ?_)
            have h := h σ31 eσ31
            refine g_iconst X (0 : Int32) dX5_put_204 (by decide) ?_
            exact g_iret X hr dX5_put_205 rfl h
          · have h := h.2 hc
            refine g_bipush X (-13 : Int32) dX5_put_63 (by decide) ?_
            exact g_iret X hr dX5_put_65 rfl h
        · have h := h.2 hc
          refine g_bipush X (-11 : Int32) dX5_put_51 (by decide) ?_
          exact g_iret X hr dX5_put_53 rfl h
      · have h := h.2 hc
        refine g_bipush X (-3 : Int32) dX5_put_40 (by decide) ?_
        exact g_iret X hr dX5_put_42 rfl h
theorem c_X5_put (l : Launch) (D : va_G) (cA : Nat → ClassId) {x1 : Int32} {x2 : Int32} {x3 : Int64} {x5 : Int32} {σ : St} {Q : Int32 → St → Prop} (h : w_X5_put Q x1 x2 x3 x5 σ) : CtI l yX5_put cX5_put 7 (some .int) rmX5_put D cA shR [.ref 0, .int x1, .int x2, .long x3, .int x5] σ Q := by
  refine CtI.of (own := RX5) rfl (by decide +kernel) [(0, .ref 0), (1, .int x1), (2, .int x2), (3, .long x3), (5, .int x5)] rfl (Nat.le_of_ble_eq_true rfl) ?_
  intro p e s m args below meth c ad0 A X hr
  exact b_X5_put_0 X hr  h
def rmX5_mark : Room := { frames := 2, cells := 0, slots := 0, locals := 47 }
def w_X5_mark_201 (Q : Int32 → St → Prop) (s0 : UInt64) (s1 : Int32) (σ : St) : Prop := vp_in s1 480 ∧ ∀ σ17 : St, σ17 = uD σ 4 (ix s1) s0 → (Q (0 : Int32) σ17)
set_option maxRecDepth 100000 in
set_option maxHeartbeats 4000000 in
theorem b_X5_mark_201 {p : Program} {l : Launch} {e : Env} {s : State} {m : MethodId} {args : Array Value} {below : List Frame} {meth : Method} {c : Code} {D : va_G} {cA : Nat → ClassId} {A : Nat → Prop} {ad0 : Nat → Nat} {Q : Int32 → St → Prop} {s0 : UInt64} {s1 : Int32} {σ : St} (X : Cx p rmX5_mark s m args meth c cX5_mark 6 RX5 D cA A) (hr : meth.sig.returnType = some .int) (h : w_X5_mark_201 Q s0 s1 σ) : G p l e rmX5_mark s m args below meth c 6 D cA A (MQ below (va_Qi Q (EndW D cA ad0 shR) A) args s 0 0 A) 0 0 (fun ad => ad = ad0) shR σ [] 201 [.double s0, .int s1, .ref 4] := by
  unfold w_X5_mark_201 at h
  obtain ⟨hi16, h⟩ := h
  refine g_dast X dX5_mark_201 (Nat.le_of_ble_eq_true rfl) rfl hi16 ?_
  refine g_nameS (fun σ17 eσ17 => ?_)
  have h := h σ17 eσ17
  refine g_iconst X (0 : Int32) dX5_mark_202 (by decide) ?_
  exact g_iret X hr dX5_mark_203 rfl h
def w_X5_mark_119 (Q : Int32 → St → Prop) (x3 : Int32) (x4 : Int32) (x5 : Int32) (s0 : Int32) (s1 : Int32) (σ : St) : Prop := vp_in s1 480 ∧ ∀ σ15 : St, σ15 = uI σ 5 (ix s1) s0 → ((¬ x3 = (3 : Int32) → ((¬ x3 = (4 : Int32) → ((¬ x3 = (5 : Int32) → (w_X5_mark_201 Q FP.dconst0 x4 σ15)) ∧ (x3 = (5 : Int32) → ((x5 = 0 → w_X5_made (fun r19 σ18 => (w_X5_mark_201 Q r19 x4 σ18)) (1 : Int64) (-1074 : Int32) σ15) ∧ (¬ x5 = 0 → w_X5_made (fun r21 σ20 => (w_X5_mark_201 Q r21 x4 σ20)) (1 : Int64) (-149 : Int32) σ15))))) ∧ (x3 = (4 : Int32) → ((x5 = 0 → w_X5_made (fun r23 σ22 => (w_X5_mark_201 Q r23 x4 σ22)) (9007199254740991 : Int64) (971 : Int32) σ15) ∧ (¬ x5 = 0 → w_X5_made (fun r25 σ24 => (w_X5_mark_201 Q r25 x4 σ24)) (16777215 : Int64) (104 : Int32) σ15))))) ∧ (x3 = (3 : Int32) → (w_X5_mark_201 Q (9223372036854775808 : UInt64) x4 σ15)))
set_option maxRecDepth 100000 in
set_option maxHeartbeats 4000000 in
theorem b_X5_mark_119 {p : Program} {l : Launch} {e : Env} {s : State} {m : MethodId} {args : Array Value} {below : List Frame} {meth : Method} {c : Code} {D : va_G} {cA : Nat → ClassId} {A : Nat → Prop} {ad0 : Nat → Nat} {Q : Int32 → St → Prop} {x3 : Int32} {x4 : Int32} {x5 : Int32} {s0 : Int32} {s1 : Int32} {σ : St} (X : Cx p rmX5_mark s m args meth c cX5_mark 6 RX5 D cA A) (hr : meth.sig.returnType = some .int) (h : w_X5_mark_119 Q x3 x4 x5 s0 s1 σ) : G p l e rmX5_mark s m args below meth c 6 D cA A (MQ below (va_Qi Q (EndW D cA ad0 shR) A) args s 0 0 A) 0 0 (fun ad => ad = ad0) shR σ [(0, .ref 0), (3, .int x3), (4, .int x4), (5, .int x5)] 119 [.int s0, .int s1, .ref 5] := by
  unfold w_X5_mark_119 at h
  obtain ⟨hi14, h⟩ := h
  refine g_iast X dX5_mark_119 (Nat.le_of_ble_eq_true rfl) rfl hi14 ?_
  refine g_nameS (fun σ15 eσ15 => ?_)
  have h := h σ15 eσ15
  refine g_aload_n X 0 dX5_mark_120 rfl rfl ?_
  refine g_getR X (C := RX5) (T := TX5) (N := 23) 4 dX5_mark_121 (Nat.le_of_ble_eq_true rfl) rfl rfl rfl inG5 (Nat.le_of_ble_eq_true rfl) rfl rfl q573 ?_
  refine g_iload X 2 dX5_mark_124 rfl ?_
  refine g_iload_n X 1 dX5_mark_126 rfl rfl ?_
  refine g_iconst X (3 : Int32) dX5_mark_127 (by decide) ?_
  refine g_icmp_ne X 137 dX5_mark_128 (by decide) (fun hc => ?_) (fun hc => ?_)
  · have h := h.1 hc
    refine g_iload_n X 1 dX5_mark_137 rfl rfl ?_
    refine g_iconst X (4 : Int32) dX5_mark_138 (by decide) ?_
    refine g_icmp_ne X 170 dX5_mark_139 (by decide) (fun hc => ?_) (fun hc => ?_)
    · have h := h.1 hc
      refine g_iload_n X 1 dX5_mark_170 rfl rfl ?_
      refine g_iconst X (5 : Int32) dX5_mark_171 (by decide) ?_
      refine g_icmp_ne X 200 dX5_mark_172 (by decide) (fun hc => ?_) (fun hc => ?_)
      · have h := h.1 hc
        refine g_dconst0 X dX5_mark_200 ?_
        refine g_weak [] rfl ?_
        exact b_X5_mark_201 X hr h
      · have h := h.2 hc
        refine g_iload X 3 dX5_mark_175 rfl ?_
        refine g_if_eq X 190 dX5_mark_177 (by decide) (fun hc => ?_) (fun hc => ?_)
        · have h := h.1 hc
          refine g_lconst X (1 : Int64) dX5_mark_190 (by decide) ?_
          refine g_sipush X (-1074 : Int32) dX5_mark_191 (by decide) ?_
          refine g_callSD X (n := 2) [.long (1 : Int64), .int (-1074 : Int32)] [.int x4, .ref 4] dX5_mark_194 (c_X5_made l D cA shR h) q672 q673 q57 q674 ⟨by decide, by decide, by decide +kernel⟩ rfl rfl (Nat.le_of_ble_eq_true rfl) rfl rfl ⟨(Nat.le_of_ble_eq_true rfl), (Nat.le_of_ble_eq_true rfl)⟩ (Nat.le_of_ble_eq_true rfl) (Nat.le_of_ble_eq_true rfl) (fun r19 σ18 h => ?_)
          refine g_goto X 201 dX5_mark_197 (by decide) ?_
          refine g_weak [] rfl ?_
          exact b_X5_mark_201 X hr h
        · have h := h.2 hc
          refine g_lconst X (1 : Int64) dX5_mark_180 (by decide) ?_
          refine g_sipush X (-149 : Int32) dX5_mark_181 (by decide) ?_
          refine g_callSD X (n := 2) [.long (1 : Int64), .int (-149 : Int32)] [.int x4, .ref 4] dX5_mark_184 (c_X5_made l D cA shR h) q672 q673 q57 q674 ⟨by decide, by decide, by decide +kernel⟩ rfl rfl (Nat.le_of_ble_eq_true rfl) rfl rfl ⟨(Nat.le_of_ble_eq_true rfl), (Nat.le_of_ble_eq_true rfl)⟩ (Nat.le_of_ble_eq_true rfl) (Nat.le_of_ble_eq_true rfl) (fun r21 σ20 h => ?_)
          refine g_goto X 201 dX5_mark_187 (by decide) ?_
          refine g_weak [] rfl ?_
          exact b_X5_mark_201 X hr h
    · have h := h.2 hc
      refine g_iload X 3 dX5_mark_142 rfl ?_
      refine g_if_eq X 158 dX5_mark_144 (by decide) (fun hc => ?_) (fun hc => ?_)
      · have h := h.1 hc
        refine g_ldc2 X q665 dX5_mark_158 ?_
        refine g_sipush X (971 : Int32) dX5_mark_161 (by decide) ?_
        refine g_callSD X (n := 2) [.long (9007199254740991 : Int64), .int (971 : Int32)] [.int x4, .ref 4] dX5_mark_164 (c_X5_made l D cA shR h) q672 q673 q57 q674 ⟨by decide, by decide, by decide +kernel⟩ rfl rfl (Nat.le_of_ble_eq_true rfl) rfl rfl ⟨(Nat.le_of_ble_eq_true rfl), (Nat.le_of_ble_eq_true rfl)⟩ (Nat.le_of_ble_eq_true rfl) (Nat.le_of_ble_eq_true rfl) (fun r23 σ22 h => ?_)
        refine g_goto X 201 dX5_mark_167 (by decide) ?_
        refine g_weak [] rfl ?_
        exact b_X5_mark_201 X hr h
      · have h := h.2 hc
        refine g_ldc2 X q691 dX5_mark_147 ?_
        refine g_bipush X (104 : Int32) dX5_mark_150 (by decide) ?_
        refine g_callSD X (n := 2) [.long (16777215 : Int64), .int (104 : Int32)] [.int x4, .ref 4] dX5_mark_152 (c_X5_made l D cA shR h) q672 q673 q57 q674 ⟨by decide, by decide, by decide +kernel⟩ rfl rfl (Nat.le_of_ble_eq_true rfl) rfl rfl ⟨(Nat.le_of_ble_eq_true rfl), (Nat.le_of_ble_eq_true rfl)⟩ (Nat.le_of_ble_eq_true rfl) (Nat.le_of_ble_eq_true rfl) (fun r25 σ24 h => ?_)
        refine g_goto X 201 dX5_mark_155 (by decide) ?_
        refine g_weak [] rfl ?_
        exact b_X5_mark_201 X hr h
  · have h := h.2 hc
    refine g_ldc2d X q690 dX5_mark_131 ?_
    refine g_goto X 201 dX5_mark_134 (by decide) ?_
    refine g_weak [] rfl ?_
    exact b_X5_mark_201 X hr h
def w_X5_mark_84 (Q : Int32 → St → Prop) (x3 : Int32) (x4 : Int32) (s0 : Int32) (σ : St) : Prop := ((¬ x3 = 0 → ((¬ x3 = (1 : Int32) → ((¬ x3 = (2 : Int32) → (w_X5_mark_119 Q x3 x4 s0 (0 : Int32) x4 σ)) ∧ (x3 = (2 : Int32) → (w_X5_mark_119 Q x3 x4 s0 (3 : Int32) x4 σ)))) ∧ (x3 = (1 : Int32) → (w_X5_mark_119 Q x3 x4 s0 (2 : Int32) x4 σ)))) ∧ (x3 = 0 → (w_X5_mark_119 Q x3 x4 s0 (1 : Int32) x4 σ)))
set_option maxRecDepth 100000 in
set_option maxHeartbeats 4000000 in
theorem b_X5_mark_84 {p : Program} {l : Launch} {e : Env} {s : State} {m : MethodId} {args : Array Value} {below : List Frame} {meth : Method} {c : Code} {D : va_G} {cA : Nat → ClassId} {A : Nat → Prop} {ad0 : Nat → Nat} {Q : Int32 → St → Prop} {x3 : Int32} {x4 : Int32} {s0 : Int32} {σ : St} (X : Cx p rmX5_mark s m args meth c cX5_mark 6 RX5 D cA A) (hr : meth.sig.returnType = some .int) (h : w_X5_mark_84 Q x3 x4 s0 σ) : G p l e rmX5_mark s m args below meth c 6 D cA A (MQ below (va_Qi Q (EndW D cA ad0 shR) A) args s 0 0 A) 0 0 (fun ad => ad = ad0) shR σ [(0, .ref 0), (3, .int x3), (4, .int x4)] 84 [.int s0] := by
  unfold w_X5_mark_84 at h
  refine g_istore X [(5, .int s0), (0, .ref 0), (3, .int x3), (4, .int x4)] dX5_mark_84 (Nat.le_of_ble_eq_true rfl) rfl ?_
  refine g_aload_n X 1 dX5_mark_86 rfl rfl ?_
  refine g_getR X (C := RX5) (T := TX5) (N := 23) 5 dX5_mark_87 (Nat.le_of_ble_eq_true rfl) rfl rfl rfl inG5 (Nat.le_of_ble_eq_true rfl) rfl rfl q574 ?_
  refine g_iload X 3 dX5_mark_90 rfl ?_
  refine g_iload_n X 2 dX5_mark_92 rfl rfl ?_
  refine g_if_ne X 100 dX5_mark_93 (by decide) (fun hc => ?_) (fun hc => ?_)
  · have h := h.1 hc
    refine g_iload_n X 2 dX5_mark_100 rfl rfl ?_
    refine g_iconst X (1 : Int32) dX5_mark_101 (by decide) ?_
    refine g_icmp_ne X 109 dX5_mark_102 (by decide) (fun hc => ?_) (fun hc => ?_)
    · have h := h.1 hc
      refine g_iload_n X 2 dX5_mark_109 rfl rfl ?_
      refine g_iconst X (2 : Int32) dX5_mark_110 (by decide) ?_
      refine g_icmp_ne X 118 dX5_mark_111 (by decide) (fun hc => ?_) (fun hc => ?_)
      · have h := h.1 hc
        refine g_iconst X (0 : Int32) dX5_mark_118 (by decide) ?_
        refine g_weak [1, 2, 3, 0] rfl ?_
        exact b_X5_mark_119 X hr h
      · have h := h.2 hc
        refine g_iconst X (3 : Int32) dX5_mark_114 (by decide) ?_
        refine g_goto X 119 dX5_mark_115 (by decide) ?_
        refine g_weak [1, 2, 3, 0] rfl ?_
        exact b_X5_mark_119 X hr h
    · have h := h.2 hc
      refine g_iconst X (2 : Int32) dX5_mark_105 (by decide) ?_
      refine g_goto X 119 dX5_mark_106 (by decide) ?_
      refine g_weak [1, 2, 3, 0] rfl ?_
      exact b_X5_mark_119 X hr h
  · have h := h.2 hc
    refine g_iconst X (1 : Int32) dX5_mark_96 (by decide) ?_
    refine g_goto X 119 dX5_mark_97 (by decide) ?_
    refine g_weak [1, 2, 3, 0] rfl ?_
    exact b_X5_mark_119 X hr h
def w_X5_mark (Q : Int32 → St → Prop) (x1 : Int32) (x2 : Int32) (x3 : Int32) (σ : St) : Prop := ∀ σ1 : St, σ1 = uI σ 0 0 (0 : Int32) → w_X5_isRow (fun r3 σ2 => ((r3 = 0 → (Q (-3 : Int32) σ2)) ∧ (¬ r3 = 0 → w_X5_in (fun r5 σ4 => ((¬ r5 = 0 → w_X5_isThere (fun r7 σ6 => ((¬ r7 = 0 → w_X5_isReal (fun r9 σ8 => ((¬ r9 = 0 → w_X5_isPlace (fun r11 σ10 => ((¬ r11 = 0 → ∀ y12 : Int32, y12 = (((40 : Int32) * x1) + x2) → vp_in x1 12 ∧ ((¬ (gI σ10 1 (ix x1)) = (4 : Int32) → (w_X5_mark_84 Q x3 y12 (0 : Int32) σ10)) ∧ ((gI σ10 1 (ix x1)) = (4 : Int32) → (w_X5_mark_84 Q x3 y12 (1 : Int32) σ10)))) ∧ (r11 = 0 → (Q (-13 : Int32) σ10)))) x1 x2 σ8) ∧ (r9 = 0 → (Q (-12 : Int32) σ8)))) x1 σ6) ∧ (r7 = 0 → (Q (-11 : Int32) σ6)))) x1 σ4) ∧ (r5 = 0 → (Q (-3 : Int32) σ4)))) (x3.toInt64) (0 : Int64) (5 : Int64) σ2))) x1 σ1
set_option maxRecDepth 100000 in
set_option maxHeartbeats 4000000 in
theorem b_X5_mark_0 {p : Program} {l : Launch} {e : Env} {s : State} {m : MethodId} {args : Array Value} {below : List Frame} {meth : Method} {c : Code} {D : va_G} {cA : Nat → ClassId} {A : Nat → Prop} {ad0 : Nat → Nat} {Q : Int32 → St → Prop} {x1 : Int32} {x2 : Int32} {x3 : Int32} {σ : St} (X : Cx p rmX5_mark s m args meth c cX5_mark 6 RX5 D cA A) (hr : meth.sig.returnType = some .int) (h : w_X5_mark Q x1 x2 x3 σ) : G p l e rmX5_mark s m args below meth c 6 D cA A (MQ below (va_Qi Q (EndW D cA ad0 shR) A) args s 0 0 A) 0 0 (fun ad => ad = ad0) shR σ [(0, .ref 0), (1, .int x1), (2, .int x2), (3, .int x3)] 0 [] := by
  unfold w_X5_mark at h
  refine g_aload_n X 0 dX5_mark_0 rfl rfl ?_
  refine g_iconst X (0 : Int32) dX5_mark_1 (by decide) ?_
  refine g_putI X (C := RX5) (T := TX5) (N := 23) (ty0 := tyX5) 0 dX5_mark_2 (Nat.le_of_ble_eq_true rfl) rfl rfl rfl inG5 tyX5_ok nmX5 (Nat.le_of_ble_eq_true rfl) rfl rfl q569 rfl rfl ?_
  refine g_nameS (fun σ1 eσ1 => ?_)
  have h := h σ1 eσ1
  refine g_iload_n X 1 dX5_mark_5 rfl rfl ?_
  refine g_callSI X (n := 1) [.int x1] [] dX5_mark_6 (c_X5_isRow l D cA shR h) q644 q645 q57 q646 ⟨by decide, by decide, by decide +kernel⟩ rfl rfl (Nat.le_of_ble_eq_true rfl) rfl rfl ⟨(Nat.le_of_ble_eq_true rfl), (Nat.le_of_ble_eq_true rfl)⟩ (Nat.le_of_ble_eq_true rfl) (Nat.le_of_ble_eq_true rfl) (fun r3 σ2 h => ?_)
  refine g_if_eq X 24 dX5_mark_9 (by decide) (fun hc => ?_) (fun hc => ?_)
  · have h := h.1 hc
    refine g_bipush X (-3 : Int32) dX5_mark_24 (by decide) ?_
    exact g_iret X hr dX5_mark_26 rfl h
  · have h := h.2 hc
    refine g_iload_n X 3 dX5_mark_12 rfl rfl ?_
    refine g_i2l X dX5_mark_13 ?_
    refine g_lconst X (0 : Int64) dX5_mark_14 (by decide) ?_
    refine g_ldc2 X q651 dX5_mark_15 ?_
    refine g_callSI X (n := 3) [.long (x3.toInt64), .long (0 : Int64), .long (5 : Int64)] [] dX5_mark_18 (c_X5_in l D cA shR h) q648 q649 q57 q650 ⟨by decide, by decide, by decide +kernel⟩ rfl rfl (Nat.le_of_ble_eq_true rfl) rfl rfl ⟨(Nat.le_of_ble_eq_true rfl), (Nat.le_of_ble_eq_true rfl)⟩ (Nat.le_of_ble_eq_true rfl) (Nat.le_of_ble_eq_true rfl) (fun r5 σ4 h => ?_)
    refine g_if_ne X 27 dX5_mark_21 (by decide) (fun hc => ?_) (fun hc => ?_)
    · have h := h.1 hc
      refine g_aload_n X 0 dX5_mark_27 rfl rfl ?_
      refine g_iload_n X 1 dX5_mark_28 rfl rfl ?_
      refine g_callVI X (C := RX5) (T := TX5) (N := 23) (n := 1) [.int x1] [] dX5_mark_29 (c_X5_isThere l D cA h) q656 q658 q18 q57 q659 (Nat.le_of_ble_eq_true rfl) rfl rfl ⟨rfl, by decide, by decide, by decide +kernel⟩ rfl rfl (Nat.le_of_ble_eq_true rfl) rfl rfl ⟨(Nat.le_of_ble_eq_true rfl), (Nat.le_of_ble_eq_true rfl)⟩ (Nat.le_of_ble_eq_true rfl) (Nat.le_of_ble_eq_true rfl) (fun r7 σ6 h => ?_)
      refine g_if_ne X 38 dX5_mark_32 (by decide) (fun hc => ?_) (fun hc => ?_)
      · have h := h.1 hc
        refine g_aload_n X 0 dX5_mark_38 rfl rfl ?_
        refine g_iload_n X 1 dX5_mark_39 rfl rfl ?_
        refine g_callVI X (C := RX5) (T := TX5) (N := 23) (n := 1) [.int x1] [] dX5_mark_40 (c_X5_isReal l D cA h) q686 q688 q21 q57 q689 (Nat.le_of_ble_eq_true rfl) rfl rfl ⟨rfl, by decide, by decide, by decide +kernel⟩ rfl rfl (Nat.le_of_ble_eq_true rfl) rfl rfl ⟨(Nat.le_of_ble_eq_true rfl), (Nat.le_of_ble_eq_true rfl)⟩ (Nat.le_of_ble_eq_true rfl) (Nat.le_of_ble_eq_true rfl) (fun r9 σ8 h => ?_)
        refine g_if_ne X 49 dX5_mark_43 (by decide) (fun hc => ?_) (fun hc => ?_)
        · have h := h.1 hc
          refine g_aload_n X 0 dX5_mark_49 rfl rfl ?_
          refine g_iload_n X 1 dX5_mark_50 rfl rfl ?_
          refine g_iload_n X 2 dX5_mark_51 rfl rfl ?_
          refine g_callVI X (C := RX5) (T := TX5) (N := 23) (n := 2) [.int x1, .int x2] [] dX5_mark_52 (c_X5_isPlace l D cA h) q668 q670 q19 q57 q671 (Nat.le_of_ble_eq_true rfl) rfl rfl ⟨rfl, by decide, by decide, by decide +kernel⟩ rfl rfl (Nat.le_of_ble_eq_true rfl) rfl rfl ⟨(Nat.le_of_ble_eq_true rfl), (Nat.le_of_ble_eq_true rfl)⟩ (Nat.le_of_ble_eq_true rfl) (Nat.le_of_ble_eq_true rfl) (fun r11 σ10 h => ?_)
          refine g_if_ne X 61 dX5_mark_55 (by decide) (fun hc => ?_) (fun hc => ?_)
          · have h := h.1 hc
            refine g_bipush X (40 : Int32) dX5_mark_61 (by decide) ?_
            refine g_iload_n X 1 dX5_mark_63 rfl rfl ?_
            refine g_imul X dX5_mark_64 ?_
            refine g_iload_n X 2 dX5_mark_65 rfl rfl ?_
            refine g_iadd X dX5_mark_66 ?_
            refine g_nameI (fun y12 ey12 => ?_)
            have h := h y12 ey12
            refine g_istore X [(4, .int y12), (0, .ref 0), (1, .int x1), (2, .int x2), (3, .int x3)] dX5_mark_67 (Nat.le_of_ble_eq_true rfl) rfl ?_
            refine g_aload_n X 1 dX5_mark_69 rfl rfl ?_
            refine g_getR X (C := RX5) (T := TX5) (N := 23) 1 dX5_mark_70 (Nat.le_of_ble_eq_true rfl) rfl rfl rfl inG5 (Nat.le_of_ble_eq_true rfl) rfl rfl q570 ?_
            refine g_iload_n X 2 dX5_mark_73 rfl rfl ?_
            obtain ⟨hi13, h⟩ := h
            refine g_iald X dX5_mark_74 (Nat.le_of_ble_eq_true rfl) rfl hi13 ?_
            refine g_iconst X (4 : Int32) dX5_mark_75 (by decide) ?_
            refine g_icmp_ne X 83 dX5_mark_76 (by decide) (fun hc => ?_) (fun hc => ?_)
            · have h := h.1 hc
              refine g_iconst X (0 : Int32) dX5_mark_83 (by decide) ?_
              refine g_weak [1, 4, 0] rfl ?_
              exact b_X5_mark_84 X hr h
            · have h := h.2 hc
              refine g_iconst X (1 : Int32) dX5_mark_79 (by decide) ?_
              refine g_goto X 84 dX5_mark_80 (by decide) ?_
              refine g_weak [1, 4, 0] rfl ?_
              exact b_X5_mark_84 X hr h
          · have h := h.2 hc
            refine g_bipush X (-13 : Int32) dX5_mark_58 (by decide) ?_
            exact g_iret X hr dX5_mark_60 rfl h
        · have h := h.2 hc
          refine g_bipush X (-12 : Int32) dX5_mark_46 (by decide) ?_
          exact g_iret X hr dX5_mark_48 rfl h
      · have h := h.2 hc
        refine g_bipush X (-11 : Int32) dX5_mark_35 (by decide) ?_
        exact g_iret X hr dX5_mark_37 rfl h
    · have h := h.2 hc
      refine g_bipush X (-3 : Int32) dX5_mark_24 (by decide) ?_
      exact g_iret X hr dX5_mark_26 rfl h
theorem c_X5_mark (l : Launch) (D : va_G) (cA : Nat → ClassId) {x1 : Int32} {x2 : Int32} {x3 : Int32} {σ : St} {Q : Int32 → St → Prop} (h : w_X5_mark Q x1 x2 x3 σ) : CtI l yX5_mark cX5_mark 6 (some .int) rmX5_mark D cA shR [.ref 0, .int x1, .int x2, .int x3] σ Q := by
  refine CtI.of (own := RX5) rfl (by decide +kernel) [(0, .ref 0), (1, .int x1), (2, .int x2), (3, .int x3)] rfl (Nat.le_of_ble_eq_true rfl) ?_
  intro p e s m args below meth c ad0 A X hr
  exact b_X5_mark_0 X hr  h
def rmX5_copy : Room := { frames := 2, cells := 0, slots := 0, locals := 48 }
def w_X5_copy_131 (K105 : Int32 → Int32 → Int32 → Int32 → St → Prop) (Q : Int32 → St → Prop) (x5 : Int32) (x6 : Int32) (x7 : Int32) (x8 : Int32) (s0 : Int32) (σ : St) : Prop := vp_in (x6 + s0) 480 ∧ vp_in (x7 + s0) 480 ∧ ∀ σ20 : St, σ20 = uJ σ 3 (ix (x7 + s0)) (gJ σ 3 (ix (x6 + s0))) → vp_in (x6 + s0) 480 ∧ vp_in (x7 + s0) 480 ∧ ∀ σ23 : St, σ23 = uD σ20 4 (ix (x7 + s0)) (gD σ20 4 (ix (x6 + s0))) → vp_in (x6 + s0) 480 ∧ vp_in (x7 + s0) 480 ∧ ∀ σ26 : St, σ26 = uI σ23 5 (ix (x7 + s0)) (gI σ23 5 (ix (x6 + s0))) → ∀ y27 : Int32, y27 = x8 + (1 : Int32) → (K105 x5 x6 x7 y27 σ26)
set_option maxRecDepth 100000 in
set_option maxHeartbeats 4000000 in
theorem b_X5_copy_131 {p : Program} {l : Launch} {e : Env} {s : State} {m : MethodId} {args : Array Value} {below : List Frame} {meth : Method} {c : Code} {D : va_G} {cA : Nat → ClassId} {A : Nat → Prop} {ad0 : Nat → Nat} {K105 : Int32 → Int32 → Int32 → Int32 → St → Prop} {Q : Int32 → St → Prop} {x5 : Int32} {x6 : Int32} {x7 : Int32} {x8 : Int32} {s0 : Int32} {σ : St} (X : Cx p rmX5_copy s m args meth c cX5_copy 10 RX5 D cA A) (hr : meth.sig.returnType = some .int) (hK105 : ∀ (x5 : Int32) (x6 : Int32) (x7 : Int32) (x8 : Int32) (σ : St), K105 x5 x6 x7 x8 σ → G p l e rmX5_copy s m args below meth c 10 D cA A (MQ below (va_Qi Q (EndW D cA ad0 shR) A) args s 0 0 A) 0 0 (fun ad => ad = ad0) shR σ [(0, .ref 0), (5, .int x5), (6, .int x6), (7, .int x7), (8, .int x8)] 105 []) (h : w_X5_copy_131 K105 Q x5 x6 x7 x8 s0 σ) : G p l e rmX5_copy s m args below meth c 10 D cA A (MQ below (va_Qi Q (EndW D cA ad0 shR) A) args s 0 0 A) 0 0 (fun ad => ad = ad0) shR σ [(0, .ref 0), (5, .int x5), (6, .int x6), (7, .int x7), (8, .int x8)] 131 [.int s0] := by
  unfold w_X5_copy_131 at h
  refine g_istore X [(9, .int s0), (0, .ref 0), (5, .int x5), (6, .int x6), (7, .int x7), (8, .int x8)] dX5_copy_131 (Nat.le_of_ble_eq_true rfl) rfl ?_
  refine g_aload_n X 1 dX5_copy_133 rfl rfl ?_
  refine g_getR X (C := RX5) (T := TX5) (N := 23) 3 dX5_copy_134 (Nat.le_of_ble_eq_true rfl) rfl rfl rfl inG5 (Nat.le_of_ble_eq_true rfl) rfl rfl q572 ?_
  refine g_iload X 4 dX5_copy_137 rfl ?_
  refine g_iload X 0 dX5_copy_139 rfl ?_
  refine g_iadd X dX5_copy_141 ?_
  refine g_aload_n X 1 dX5_copy_142 rfl rfl ?_
  refine g_getR X (C := RX5) (T := TX5) (N := 23) 3 dX5_copy_143 (Nat.le_of_ble_eq_true rfl) rfl rfl rfl inG5 (Nat.le_of_ble_eq_true rfl) rfl rfl q572 ?_
  refine g_iload X 3 dX5_copy_146 rfl ?_
  refine g_iload X 0 dX5_copy_148 rfl ?_
  refine g_iadd X dX5_copy_150 ?_
  obtain ⟨hi18, h⟩ := h
  refine g_lald X dX5_copy_151 (Nat.le_of_ble_eq_true rfl) rfl hi18 ?_
  obtain ⟨hi19, h⟩ := h
  refine g_last X dX5_copy_152 (Nat.le_of_ble_eq_true rfl) rfl hi19 ?_
  refine g_nameS (fun σ20 eσ20 => ?_)
  have h := h σ20 eσ20
  refine g_aload_n X 1 dX5_copy_153 rfl rfl ?_
  refine g_getR X (C := RX5) (T := TX5) (N := 23) 4 dX5_copy_154 (Nat.le_of_ble_eq_true rfl) rfl rfl rfl inG5 (Nat.le_of_ble_eq_true rfl) rfl rfl q573 ?_
  refine g_iload X 4 dX5_copy_157 rfl ?_
  refine g_iload X 0 dX5_copy_159 rfl ?_
  refine g_iadd X dX5_copy_161 ?_
  refine g_aload_n X 1 dX5_copy_162 rfl rfl ?_
  refine g_getR X (C := RX5) (T := TX5) (N := 23) 4 dX5_copy_163 (Nat.le_of_ble_eq_true rfl) rfl rfl rfl inG5 (Nat.le_of_ble_eq_true rfl) rfl rfl q573 ?_
  refine g_iload X 3 dX5_copy_166 rfl ?_
  refine g_iload X 0 dX5_copy_168 rfl ?_
  refine g_iadd X dX5_copy_170 ?_
  obtain ⟨hi21, h⟩ := h
  refine g_dald X dX5_copy_171 (Nat.le_of_ble_eq_true rfl) rfl hi21 ?_
  obtain ⟨hi22, h⟩ := h
  refine g_dast X dX5_copy_172 (Nat.le_of_ble_eq_true rfl) rfl hi22 ?_
  refine g_nameS (fun σ23 eσ23 => ?_)
  have h := h σ23 eσ23
  refine g_aload_n X 1 dX5_copy_173 rfl rfl ?_
  refine g_getR X (C := RX5) (T := TX5) (N := 23) 5 dX5_copy_174 (Nat.le_of_ble_eq_true rfl) rfl rfl rfl inG5 (Nat.le_of_ble_eq_true rfl) rfl rfl q574 ?_
  refine g_iload X 4 dX5_copy_177 rfl ?_
  refine g_iload X 0 dX5_copy_179 rfl ?_
  refine g_iadd X dX5_copy_181 ?_
  refine g_aload_n X 1 dX5_copy_182 rfl rfl ?_
  refine g_getR X (C := RX5) (T := TX5) (N := 23) 5 dX5_copy_183 (Nat.le_of_ble_eq_true rfl) rfl rfl rfl inG5 (Nat.le_of_ble_eq_true rfl) rfl rfl q574 ?_
  refine g_iload X 3 dX5_copy_186 rfl ?_
  refine g_iload X 0 dX5_copy_188 rfl ?_
  refine g_iadd X dX5_copy_190 ?_
  obtain ⟨hi24, h⟩ := h
  refine g_iald X dX5_copy_191 (Nat.le_of_ble_eq_true rfl) rfl hi24 ?_
  obtain ⟨hi25, h⟩ := h
  refine g_iast X dX5_copy_192 (Nat.le_of_ble_eq_true rfl) rfl hi25 ?_
  refine g_nameS (fun σ26 eσ26 => ?_)
  have h := h σ26 eσ26
  obtain ⟨y27, ey27⟩ : ∃ y : Int32, y = x8 + (1 : Int32) := ⟨_, rfl⟩
  have h := h y27 ey27
  refine g_iinc X 5 (1 : Int32) [(8, .int y27), (9, .int s0), (0, .ref 0), (5, .int x5), (6, .int x6), (7, .int x7)] dX5_copy_193 rfl (by decide) (Nat.le_of_ble_eq_true rfl) (by rw [ey27]; rfl) ?_
  refine g_goto X 105 dX5_copy_196 (by decide) ?_
  refine g_weak [2, 3, 4, 5, 0] rfl ?_
  exact hK105 _ _ _ _ _ h
def w_X5_copy_105 (Q : Int32 → St → Prop) : Nat → Int32 → Int32 → Int32 → Int32 → St → Prop
  | 0, _, _, _, _, _ => False
  | n + 1, x5, x6, x7, x8, σ => ((x5 ≤ x8 → (Q x5 σ)) ∧ (¬ x5 ≤ x8 → ((x7 ≤ x6 → (w_X5_copy_131 (fun x5 x6 x7 x8 σ => w_X5_copy_105 Q n x5 x6 x7 x8 σ) Q x5 x6 x7 x8 x8 σ)) ∧ (¬ x7 ≤ x6 → (w_X5_copy_131 (fun x5 x6 x7 x8 σ => w_X5_copy_105 Q n x5 x6 x7 x8 σ) Q x5 x6 x7 x8 ((x5 - (1 : Int32)) - x8) σ)))))
set_option maxRecDepth 100000 in
set_option maxHeartbeats 4000000 in
theorem b_X5_copy_105 {p : Program} {l : Launch} {e : Env} {s : State} {m : MethodId} {args : Array Value} {below : List Frame} {meth : Method} {c : Code} {D : va_G} {cA : Nat → ClassId} {A : Nat → Prop} {ad0 : Nat → Nat} {Q : Int32 → St → Prop} (X : Cx p rmX5_copy s m args meth c cX5_copy 10 RX5 D cA A) (hr : meth.sig.returnType = some .int) : ∀ (n : Nat) (x5 : Int32) (x6 : Int32) (x7 : Int32) (x8 : Int32) (σ : St), w_X5_copy_105 Q n x5 x6 x7 x8 σ → G p l e rmX5_copy s m args below meth c 10 D cA A (MQ below (va_Qi Q (EndW D cA ad0 shR) A) args s 0 0 A) 0 0 (fun ad => ad = ad0) shR σ [(0, .ref 0), (5, .int x5), (6, .int x6), (7, .int x7), (8, .int x8)] 105 [] := by
  intro n
  induction n with
  | zero => intro x5 x6 x7 x8 σ h; exact h.elim
  | succ n ih =>
    intro x5 x6 x7 x8 σ h
    rw [w_X5_copy_105] at h
    refine g_iload X 4 dX5_copy_105 rfl ?_
    refine g_iload X 1 dX5_copy_107 rfl ?_
    refine g_icmp_ge X 199 dX5_copy_109 (by decide) (fun hc => ?_) (fun hc => ?_)
    · have h := h.1 hc
      refine g_iload X 1 dX5_copy_199 rfl ?_
      exact g_iret X hr dX5_copy_201 rfl h
    · have h := h.2 hc
      refine g_iload X 3 dX5_copy_112 rfl ?_
      refine g_iload X 2 dX5_copy_114 rfl ?_
      refine g_icmp_le X 129 dX5_copy_116 (by decide) (fun hc => ?_) (fun hc => ?_)
      · have h := h.1 hc
        refine g_iload X 4 dX5_copy_129 rfl ?_
        exact b_X5_copy_131 X hr (ih) h
      · have h := h.2 hc
        refine g_iload X 1 dX5_copy_119 rfl ?_
        refine g_iconst X (1 : Int32) dX5_copy_121 (by decide) ?_
        refine g_isub X dX5_copy_122 ?_
        refine g_iload X 4 dX5_copy_123 rfl ?_
        refine g_isub X dX5_copy_125 ?_
        refine g_goto X 131 dX5_copy_126 (by decide) ?_
        exact b_X5_copy_131 X hr (ih) h
def w_X5_copy (Q : Int32 → St → Prop) (x1 : Int32) (x2 : Int32) (x3 : Int32) (x4 : Int32) (x5 : Int32) (σ : St) : Prop := ∀ σ1 : St, σ1 = uI σ 0 0 (0 : Int32) → w_X5_isRow (fun r3 σ2 => ((r3 = 0 → (Q (-3 : Int32) σ2)) ∧ (¬ r3 = 0 → w_X5_isRow (fun r5 σ4 => ((¬ r5 = 0 → w_X5_isThere (fun r7 σ6 => ((r7 = 0 → (Q (-11 : Int32) σ6)) ∧ (¬ r7 = 0 → w_X5_isThere (fun r9 σ8 => ((¬ r9 = 0 → vp_in x1 12 ∧ vp_in x3 12 ∧ (((gI σ8 1 (ix x1)) = (gI σ8 1 (ix x3)) → w_X5_arePlaces (fun r13 σ12 => ((r13 = 0 → (Q (-13 : Int32) σ12)) ∧ (¬ r13 = 0 → w_X5_arePlaces (fun r15 σ14 => ((¬ r15 = 0 → ∀ y16 : Int32, y16 = (((40 : Int32) * x1) + x2) → ∀ y17 : Int32, y17 = (((40 : Int32) * x3) + x4) → (∃ fu28 : Nat, w_X5_copy_105 Q fu28 x5 y16 y17 (0 : Int32) σ14)) ∧ (r15 = 0 → (Q (-13 : Int32) σ14)))) x3 x4 x5 σ12))) x1 x2 x5 σ8) ∧ (¬ (gI σ8 1 (ix x1)) = (gI σ8 1 (ix x3)) → (Q (-12 : Int32) σ8)))) ∧ (r9 = 0 → (Q (-11 : Int32) σ8)))) x3 σ6))) x1 σ4) ∧ (r5 = 0 → (Q (-3 : Int32) σ4)))) x3 σ2))) x1 σ1
set_option maxRecDepth 100000 in
set_option maxHeartbeats 4000000 in
theorem b_X5_copy_0 {p : Program} {l : Launch} {e : Env} {s : State} {m : MethodId} {args : Array Value} {below : List Frame} {meth : Method} {c : Code} {D : va_G} {cA : Nat → ClassId} {A : Nat → Prop} {ad0 : Nat → Nat} {Q : Int32 → St → Prop} {x1 : Int32} {x2 : Int32} {x3 : Int32} {x4 : Int32} {x5 : Int32} {σ : St} (X : Cx p rmX5_copy s m args meth c cX5_copy 10 RX5 D cA A) (hr : meth.sig.returnType = some .int) (h : w_X5_copy Q x1 x2 x3 x4 x5 σ) : G p l e rmX5_copy s m args below meth c 10 D cA A (MQ below (va_Qi Q (EndW D cA ad0 shR) A) args s 0 0 A) 0 0 (fun ad => ad = ad0) shR σ [(0, .ref 0), (1, .int x1), (2, .int x2), (3, .int x3), (4, .int x4), (5, .int x5)] 0 [] := by
  unfold w_X5_copy at h
  refine g_aload_n X 0 dX5_copy_0 rfl rfl ?_
  refine g_iconst X (0 : Int32) dX5_copy_1 (by decide) ?_
  refine g_putI X (C := RX5) (T := TX5) (N := 23) (ty0 := tyX5) 0 dX5_copy_2 (Nat.le_of_ble_eq_true rfl) rfl rfl rfl inG5 tyX5_ok nmX5 (Nat.le_of_ble_eq_true rfl) rfl rfl q569 rfl rfl ?_
  refine g_nameS (fun σ1 eσ1 => ?_)
  have h := h σ1 eσ1
  refine g_iload_n X 1 dX5_copy_5 rfl rfl ?_
  refine g_callSI X (n := 1) [.int x1] [] dX5_copy_6 (c_X5_isRow l D cA shR h) q644 q645 q57 q646 ⟨by decide, by decide, by decide +kernel⟩ rfl rfl (Nat.le_of_ble_eq_true rfl) rfl rfl ⟨(Nat.le_of_ble_eq_true rfl), (Nat.le_of_ble_eq_true rfl)⟩ (Nat.le_of_ble_eq_true rfl) (Nat.le_of_ble_eq_true rfl) (fun r3 σ2 h => ?_)
  refine g_if_eq X 19 dX5_copy_9 (by decide) (fun hc => ?_) (fun hc => ?_)
  · have h := h.1 hc
    refine g_bipush X (-3 : Int32) dX5_copy_19 (by decide) ?_
    exact g_iret X hr dX5_copy_21 rfl h
  · have h := h.2 hc
    refine g_iload_n X 3 dX5_copy_12 rfl rfl ?_
    refine g_callSI X (n := 1) [.int x3] [] dX5_copy_13 (c_X5_isRow l D cA shR h) q644 q645 q57 q646 ⟨by decide, by decide, by decide +kernel⟩ rfl rfl (Nat.le_of_ble_eq_true rfl) rfl rfl ⟨(Nat.le_of_ble_eq_true rfl), (Nat.le_of_ble_eq_true rfl)⟩ (Nat.le_of_ble_eq_true rfl) (Nat.le_of_ble_eq_true rfl) (fun r5 σ4 h => ?_)
    refine g_if_ne X 22 dX5_copy_16 (by decide) (fun hc => ?_) (fun hc => ?_)
    · have h := h.1 hc
      refine g_aload_n X 0 dX5_copy_22 rfl rfl ?_
      refine g_iload_n X 1 dX5_copy_23 rfl rfl ?_
      refine g_callVI X (C := RX5) (T := TX5) (N := 23) (n := 1) [.int x1] [] dX5_copy_24 (c_X5_isThere l D cA h) q656 q658 q18 q57 q659 (Nat.le_of_ble_eq_true rfl) rfl rfl ⟨rfl, by decide, by decide, by decide +kernel⟩ rfl rfl (Nat.le_of_ble_eq_true rfl) rfl rfl ⟨(Nat.le_of_ble_eq_true rfl), (Nat.le_of_ble_eq_true rfl)⟩ (Nat.le_of_ble_eq_true rfl) (Nat.le_of_ble_eq_true rfl) (fun r7 σ6 h => ?_)
      refine g_if_eq X 38 dX5_copy_27 (by decide) (fun hc => ?_) (fun hc => ?_)
      · have h := h.1 hc
        refine g_bipush X (-11 : Int32) dX5_copy_38 (by decide) ?_
        exact g_iret X hr dX5_copy_40 rfl h
      · have h := h.2 hc
        refine g_aload_n X 0 dX5_copy_30 rfl rfl ?_
        refine g_iload_n X 3 dX5_copy_31 rfl rfl ?_
        refine g_callVI X (C := RX5) (T := TX5) (N := 23) (n := 1) [.int x3] [] dX5_copy_32 (c_X5_isThere l D cA h) q656 q658 q18 q57 q659 (Nat.le_of_ble_eq_true rfl) rfl rfl ⟨rfl, by decide, by decide, by decide +kernel⟩ rfl rfl (Nat.le_of_ble_eq_true rfl) rfl rfl ⟨(Nat.le_of_ble_eq_true rfl), (Nat.le_of_ble_eq_true rfl)⟩ (Nat.le_of_ble_eq_true rfl) (Nat.le_of_ble_eq_true rfl) (fun r9 σ8 h => ?_)
        refine g_if_ne X 41 dX5_copy_35 (by decide) (fun hc => ?_) (fun hc => ?_)
        · have h := h.1 hc
          refine g_aload_n X 0 dX5_copy_41 rfl rfl ?_
          refine g_getR X (C := RX5) (T := TX5) (N := 23) 1 dX5_copy_42 (Nat.le_of_ble_eq_true rfl) rfl rfl rfl inG5 (Nat.le_of_ble_eq_true rfl) rfl rfl q570 ?_
          refine g_iload_n X 1 dX5_copy_45 rfl rfl ?_
          obtain ⟨hi10, h⟩ := h
          refine g_iald X dX5_copy_46 (Nat.le_of_ble_eq_true rfl) rfl hi10 ?_
          refine g_aload_n X 0 dX5_copy_47 rfl rfl ?_
          refine g_getR X (C := RX5) (T := TX5) (N := 23) 1 dX5_copy_48 (Nat.le_of_ble_eq_true rfl) rfl rfl rfl inG5 (Nat.le_of_ble_eq_true rfl) rfl rfl q570 ?_
          refine g_iload_n X 3 dX5_copy_51 rfl rfl ?_
          obtain ⟨hi11, h⟩ := h
          refine g_iald X dX5_copy_52 (Nat.le_of_ble_eq_true rfl) rfl hi11 ?_
          refine g_icmp_eq X 59 dX5_copy_53 (by decide) (fun hc => ?_) (fun hc => ?_)
          · have h := h.1 hc
            refine g_aload_n X 0 dX5_copy_59 rfl rfl ?_
            refine g_iload_n X 1 dX5_copy_60 rfl rfl ?_
            refine g_iload_n X 2 dX5_copy_61 rfl rfl ?_
            refine g_iload X 5 dX5_copy_62 rfl ?_
            refine g_callVI X (C := RX5) (T := TX5) (N := 23) (n := 3) [.int x1, .int x2, .int x5] [] dX5_copy_64 (c_X5_arePlaces l D cA h) q696 q698 q22 q57 q699 (Nat.le_of_ble_eq_true rfl) rfl rfl ⟨rfl, by decide, by decide, by decide +kernel⟩ rfl rfl (Nat.le_of_ble_eq_true rfl) rfl rfl ⟨(Nat.le_of_ble_eq_true rfl), (Nat.le_of_ble_eq_true rfl)⟩ (Nat.le_of_ble_eq_true rfl) (Nat.le_of_ble_eq_true rfl) (fun r13 σ12 h => ?_)
            refine g_if_eq X 82 dX5_copy_67 (by decide) (fun hc => ?_) (fun hc => ?_)
            · have h := h.1 hc
              refine g_bipush X (-13 : Int32) dX5_copy_82 (by decide) ?_
              exact g_iret X hr dX5_copy_84 rfl h
            · have h := h.2 hc
              refine g_aload_n X 0 dX5_copy_70 rfl rfl ?_
              refine g_iload_n X 3 dX5_copy_71 rfl rfl ?_
              refine g_iload X 4 dX5_copy_72 rfl ?_
              refine g_iload X 5 dX5_copy_74 rfl ?_
              refine g_callVI X (C := RX5) (T := TX5) (N := 23) (n := 3) [.int x3, .int x4, .int x5] [] dX5_copy_76 (c_X5_arePlaces l D cA h) q696 q698 q22 q57 q699 (Nat.le_of_ble_eq_true rfl) rfl rfl ⟨rfl, by decide, by decide, by decide +kernel⟩ rfl rfl (Nat.le_of_ble_eq_true rfl) rfl rfl ⟨(Nat.le_of_ble_eq_true rfl), (Nat.le_of_ble_eq_true rfl)⟩ (Nat.le_of_ble_eq_true rfl) (Nat.le_of_ble_eq_true rfl) (fun r15 σ14 h => ?_)
              refine g_if_ne X 85 dX5_copy_79 (by decide) (fun hc => ?_) (fun hc => ?_)
              · have h := h.1 hc
                refine g_bipush X (40 : Int32) dX5_copy_85 (by decide) ?_
                refine g_iload_n X 1 dX5_copy_87 rfl rfl ?_
                refine g_imul X dX5_copy_88 ?_
                refine g_iload_n X 2 dX5_copy_89 rfl rfl ?_
                refine g_iadd X dX5_copy_90 ?_
                refine g_nameI (fun y16 ey16 => ?_)
                have h := h y16 ey16
                refine g_istore X [(6, .int y16), (0, .ref 0), (1, .int x1), (2, .int x2), (3, .int x3), (4, .int x4), (5, .int x5)] dX5_copy_91 (Nat.le_of_ble_eq_true rfl) rfl ?_
                refine g_bipush X (40 : Int32) dX5_copy_93 (by decide) ?_
                refine g_iload_n X 4 dX5_copy_95 rfl rfl ?_
                refine g_imul X dX5_copy_96 ?_
                refine g_iload X 5 dX5_copy_97 rfl ?_
                refine g_iadd X dX5_copy_99 ?_
                refine g_nameI (fun y17 ey17 => ?_)
                have h := h y17 ey17
                refine g_istore X [(7, .int y17), (6, .int y16), (0, .ref 0), (1, .int x1), (2, .int x2), (3, .int x3), (4, .int x4), (5, .int x5)] dX5_copy_100 (Nat.le_of_ble_eq_true rfl) rfl ?_
                refine g_iconst X (0 : Int32) dX5_copy_102 (by decide) ?_
                refine g_istore X [(8, .int (0 : Int32)), (7, .int y17), (6, .int y16), (0, .ref 0), (1, .int x1), (2, .int x2), (3, .int x3), (4, .int x4), (5, .int x5)] dX5_copy_103 (Nat.le_of_ble_eq_true rfl) rfl ?_
                refine g_weak [3, 8, 2, 1, 0] rfl ?_
                obtain ⟨fu28, h⟩ := h
                exact b_X5_copy_105 X hr fu28 _ _ _ _ _ h
              · have h := h.2 hc
                refine g_bipush X (-13 : Int32) dX5_copy_82 (by decide) ?_
                exact g_iret X hr dX5_copy_84 rfl h
          · have h := h.2 hc
            refine g_bipush X (-12 : Int32) dX5_copy_56 (by decide) ?_
            exact g_iret X hr dX5_copy_58 rfl h
        · have h := h.2 hc
          refine g_bipush X (-11 : Int32) dX5_copy_38 (by decide) ?_
          exact g_iret X hr dX5_copy_40 rfl h
    · have h := h.2 hc
      refine g_bipush X (-3 : Int32) dX5_copy_19 (by decide) ?_
      exact g_iret X hr dX5_copy_21 rfl h
theorem c_X5_copy (l : Launch) (D : va_G) (cA : Nat → ClassId) {x1 : Int32} {x2 : Int32} {x3 : Int32} {x4 : Int32} {x5 : Int32} {σ : St} {Q : Int32 → St → Prop} (h : w_X5_copy Q x1 x2 x3 x4 x5 σ) : CtI l yX5_copy cX5_copy 10 (some .int) rmX5_copy D cA shR [.ref 0, .int x1, .int x2, .int x3, .int x4, .int x5] σ Q := by
  refine CtI.of (own := RX5) rfl (by decide +kernel) [(0, .ref 0), (1, .int x1), (2, .int x2), (3, .int x3), (4, .int x4), (5, .int x5)] rfl (Nat.le_of_ble_eq_true rfl) ?_
  intro p e s m args below meth c ad0 A X hr
  exact b_X5_copy_0 X hr  h
def rmX5_look : Room := { frames := 2, cells := 0, slots := 0, locals := 47 }
def w_X5_look (Q : Int64 → St → Prop) (x1 : Int32) (x2 : Int32) (x3 : Int32) (σ : St) : Prop := ∀ σ1 : St, σ1 = uI σ 0 0 (0 : Int32) → w_X5_isRow (fun r3 σ2 => ((r3 = 0 → (Q (-3 : Int64) σ2)) ∧ (¬ r3 = 0 → w_X5_in (fun r5 σ4 => ((¬ r5 = 0 → w_X5_isThere (fun r7 σ6 => ((¬ r7 = 0 → vp_in x1 12 ∧ (((gI σ6 1 (ix x1)) = x2 → w_X5_isPlace (fun r10 σ9 => ((r10 = 0 → (Q (-13 : Int64) σ9)) ∧ (¬ r10 = 0 → vp_in (((40 : Int32) * x1) + x3) 480 ∧ (Q (gJ σ9 3 (ix (((40 : Int32) * x1) + x3))) σ9)))) x1 x3 σ6) ∧ (¬ (gI σ6 1 (ix x1)) = x2 → (Q (-12 : Int64) σ6)))) ∧ (r7 = 0 → (Q (-11 : Int64) σ6)))) x1 σ4) ∧ (r5 = 0 → (Q (-3 : Int64) σ4)))) (x2.toInt64) (0 : Int64) (3 : Int64) σ2))) x1 σ1
set_option maxRecDepth 100000 in
set_option maxHeartbeats 4000000 in
theorem b_X5_look_0 {p : Program} {l : Launch} {e : Env} {s : State} {m : MethodId} {args : Array Value} {below : List Frame} {meth : Method} {c : Code} {D : va_G} {cA : Nat → ClassId} {A : Nat → Prop} {ad0 : Nat → Nat} {Q : Int64 → St → Prop} {x1 : Int32} {x2 : Int32} {x3 : Int32} {σ : St} (X : Cx p rmX5_look s m args meth c cX5_look 4 RX5 D cA A) (hr : meth.sig.returnType = some .long) (h : w_X5_look Q x1 x2 x3 σ) : G p l e rmX5_look s m args below meth c 4 D cA A (MQ below (va_Ql Q (EndW D cA ad0 shR) A) args s 0 0 A) 0 0 (fun ad => ad = ad0) shR σ [(0, .ref 0), (1, .int x1), (2, .int x2), (3, .int x3)] 0 [] := by
  unfold w_X5_look at h
  refine g_aload_n X 0 dX5_look_0 rfl rfl ?_
  refine g_iconst X (0 : Int32) dX5_look_1 (by decide) ?_
  refine g_putI X (C := RX5) (T := TX5) (N := 23) (ty0 := tyX5) 0 dX5_look_2 (Nat.le_of_ble_eq_true rfl) rfl rfl rfl inG5 tyX5_ok nmX5 (Nat.le_of_ble_eq_true rfl) rfl rfl q569 rfl rfl ?_
  refine g_nameS (fun σ1 eσ1 => ?_)
  have h := h σ1 eσ1
  refine g_iload_n X 1 dX5_look_5 rfl rfl ?_
  refine g_callSI X (n := 1) [.int x1] [] dX5_look_6 (c_X5_isRow l D cA shR h) q644 q645 q57 q646 ⟨by decide, by decide, by decide +kernel⟩ rfl rfl (Nat.le_of_ble_eq_true rfl) rfl rfl ⟨(Nat.le_of_ble_eq_true rfl), (Nat.le_of_ble_eq_true rfl)⟩ (Nat.le_of_ble_eq_true rfl) (Nat.le_of_ble_eq_true rfl) (fun r3 σ2 h => ?_)
  refine g_if_eq X 24 dX5_look_9 (by decide) (fun hc => ?_) (fun hc => ?_)
  · have h := h.1 hc
    refine g_ldc2 X q705 dX5_look_24 ?_
    exact g_lret X hr dX5_look_27 h
  · have h := h.2 hc
    refine g_iload_n X 2 dX5_look_12 rfl rfl ?_
    refine g_i2l X dX5_look_13 ?_
    refine g_lconst X (0 : Int64) dX5_look_14 (by decide) ?_
    refine g_ldc2 X q704 dX5_look_15 ?_
    refine g_callSI X (n := 3) [.long (x2.toInt64), .long (0 : Int64), .long (3 : Int64)] [] dX5_look_18 (c_X5_in l D cA shR h) q648 q649 q57 q650 ⟨by decide, by decide, by decide +kernel⟩ rfl rfl (Nat.le_of_ble_eq_true rfl) rfl rfl ⟨(Nat.le_of_ble_eq_true rfl), (Nat.le_of_ble_eq_true rfl)⟩ (Nat.le_of_ble_eq_true rfl) (Nat.le_of_ble_eq_true rfl) (fun r5 σ4 h => ?_)
    refine g_if_ne X 28 dX5_look_21 (by decide) (fun hc => ?_) (fun hc => ?_)
    · have h := h.1 hc
      refine g_aload_n X 0 dX5_look_28 rfl rfl ?_
      refine g_iload_n X 1 dX5_look_29 rfl rfl ?_
      refine g_callVI X (C := RX5) (T := TX5) (N := 23) (n := 1) [.int x1] [] dX5_look_30 (c_X5_isThere l D cA h) q656 q658 q18 q57 q659 (Nat.le_of_ble_eq_true rfl) rfl rfl ⟨rfl, by decide, by decide, by decide +kernel⟩ rfl rfl (Nat.le_of_ble_eq_true rfl) rfl rfl ⟨(Nat.le_of_ble_eq_true rfl), (Nat.le_of_ble_eq_true rfl)⟩ (Nat.le_of_ble_eq_true rfl) (Nat.le_of_ble_eq_true rfl) (fun r7 σ6 h => ?_)
      refine g_if_ne X 40 dX5_look_33 (by decide) (fun hc => ?_) (fun hc => ?_)
      · have h := h.1 hc
        refine g_aload_n X 0 dX5_look_40 rfl rfl ?_
        refine g_getR X (C := RX5) (T := TX5) (N := 23) 1 dX5_look_41 (Nat.le_of_ble_eq_true rfl) rfl rfl rfl inG5 (Nat.le_of_ble_eq_true rfl) rfl rfl q570 ?_
        refine g_iload_n X 1 dX5_look_44 rfl rfl ?_
        obtain ⟨hi8, h⟩ := h
        refine g_iald X dX5_look_45 (Nat.le_of_ble_eq_true rfl) rfl hi8 ?_
        refine g_iload_n X 2 dX5_look_46 rfl rfl ?_
        refine g_icmp_eq X 54 dX5_look_47 (by decide) (fun hc => ?_) (fun hc => ?_)
        · have h := h.1 hc
          refine g_aload_n X 0 dX5_look_54 rfl rfl ?_
          refine g_iload_n X 1 dX5_look_55 rfl rfl ?_
          refine g_iload_n X 3 dX5_look_56 rfl rfl ?_
          refine g_callVI X (C := RX5) (T := TX5) (N := 23) (n := 2) [.int x1, .int x3] [] dX5_look_57 (c_X5_isPlace l D cA h) q668 q670 q19 q57 q671 (Nat.le_of_ble_eq_true rfl) rfl rfl ⟨rfl, by decide, by decide, by decide +kernel⟩ rfl rfl (Nat.le_of_ble_eq_true rfl) rfl rfl ⟨(Nat.le_of_ble_eq_true rfl), (Nat.le_of_ble_eq_true rfl)⟩ (Nat.le_of_ble_eq_true rfl) (Nat.le_of_ble_eq_true rfl) (fun r10 σ9 h => ?_)
          refine g_if_eq X 77 dX5_look_60 (by decide) (fun hc => ?_) (fun hc => ?_)
          · have h := h.1 hc
            refine g_ldc2 X q708 dX5_look_77 ?_
            exact g_lret X hr dX5_look_80 h
          · have h := h.2 hc
            refine g_aload_n X 0 dX5_look_63 rfl rfl ?_
            refine g_getR X (C := RX5) (T := TX5) (N := 23) 3 dX5_look_64 (Nat.le_of_ble_eq_true rfl) rfl rfl rfl inG5 (Nat.le_of_ble_eq_true rfl) rfl rfl q572 ?_
            refine g_bipush X (40 : Int32) dX5_look_67 (by decide) ?_
            refine g_iload_n X 1 dX5_look_69 rfl rfl ?_
            refine g_imul X dX5_look_70 ?_
            refine g_iload_n X 3 dX5_look_71 rfl rfl ?_
            refine g_iadd X dX5_look_72 ?_
            obtain ⟨hi11, h⟩ := h
            refine g_lald X dX5_look_73 (Nat.le_of_ble_eq_true rfl) rfl hi11 ?_
            refine g_goto X 80 dX5_look_74 (by decide) ?_
            exact g_lret X hr dX5_look_80 h
        · have h := h.2 hc
          refine g_ldc2 X q707 dX5_look_50 ?_
          exact g_lret X hr dX5_look_53 h
      · have h := h.2 hc
        refine g_ldc2 X q706 dX5_look_36 ?_
        exact g_lret X hr dX5_look_39 h
    · have h := h.2 hc
      refine g_ldc2 X q705 dX5_look_24 ?_
      exact g_lret X hr dX5_look_27 h
theorem c_X5_look (l : Launch) (D : va_G) (cA : Nat → ClassId) {x1 : Int32} {x2 : Int32} {x3 : Int32} {σ : St} {Q : Int64 → St → Prop} (h : w_X5_look Q x1 x2 x3 σ) : CtL l yX5_look cX5_look 4 (some .long) rmX5_look D cA shR [.ref 0, .int x1, .int x2, .int x3] σ Q := by
  refine CtL.of (own := RX5) rfl (by decide +kernel) [(0, .ref 0), (1, .int x1), (2, .int x2), (3, .int x3)] rfl (Nat.le_of_ble_eq_true rfl) ?_
  intro p e s m args below meth c ad0 A X hr
  exact b_X5_look_0 X hr  h
def rmX5_valueOf : Room := { frames := 1, cells := 0, slots := 0, locals := 21 }
def w_X5_valueOf (Q : UInt64 → St → Prop) (x1 : Int32) (x2 : Int32) (σ : St) : Prop := w_X5_isReal (fun r2 σ1 => ((¬ r2 = 0 → vp_in x2 480 ∧ ((¬ (gI σ1 5 (ix x2)) = (1 : Int32) → vp_in x2 480 ∧ ((¬ (gI σ1 5 (ix x2)) = (2 : Int32) → vp_in x2 480 ∧ (Q (gD σ1 4 (ix x2)) σ1)) ∧ ((gI σ1 5 (ix x2)) = (2 : Int32) → (Q (18442240474082181120 : UInt64) σ1)))) ∧ ((gI σ1 5 (ix x2)) = (1 : Int32) → (Q (9218868437227405312 : UInt64) σ1)))) ∧ (r2 = 0 → vp_in x2 480 ∧ (Q (FP.l2d (gJ σ1 3 (ix x2))) σ1)))) x1 σ
set_option maxRecDepth 100000 in
set_option maxHeartbeats 4000000 in
theorem b_X5_valueOf_0 {p : Program} {l : Launch} {e : Env} {s : State} {m : MethodId} {args : Array Value} {below : List Frame} {meth : Method} {c : Code} {D : va_G} {cA : Nat → ClassId} {A : Nat → Prop} {ad0 : Nat → Nat} {Q : UInt64 → St → Prop} {x1 : Int32} {x2 : Int32} {σ : St} (X : Cx p rmX5_valueOf s m args meth c cX5_valueOf 3 RX5 D cA A) (hr : meth.sig.returnType = some .double) (h : w_X5_valueOf Q x1 x2 σ) : G p l e rmX5_valueOf s m args below meth c 3 D cA A (MQ below (va_Qd Q (EndW D cA ad0 shR) A) args s 0 0 A) 0 0 (fun ad => ad = ad0) shR σ [(0, .ref 0), (1, .int x1), (2, .int x2)] 0 [] := by
  unfold w_X5_valueOf at h
  refine g_aload_n X 0 dX5_valueOf_0 rfl rfl ?_
  refine g_iload_n X 1 dX5_valueOf_1 rfl rfl ?_
  refine g_callVI X (C := RX5) (T := TX5) (N := 23) (n := 1) [.int x1] [] dX5_valueOf_2 (c_X5_isReal l D cA h) q686 q688 q21 q57 q689 (Nat.le_of_ble_eq_true rfl) rfl rfl ⟨rfl, by decide, by decide, by decide +kernel⟩ rfl rfl (Nat.le_of_ble_eq_true rfl) rfl rfl ⟨(Nat.le_of_ble_eq_true rfl), (Nat.le_of_ble_eq_true rfl)⟩ (Nat.le_of_ble_eq_true rfl) (Nat.le_of_ble_eq_true rfl) (fun r2 σ1 h => ?_)
  refine g_if_ne X 16 dX5_valueOf_5 (by decide) (fun hc => ?_) (fun hc => ?_)
  · have h := h.1 hc
    refine g_aload_n X 0 dX5_valueOf_16 rfl rfl ?_
    refine g_getR X (C := RX5) (T := TX5) (N := 23) 5 dX5_valueOf_17 (Nat.le_of_ble_eq_true rfl) rfl rfl rfl inG5 (Nat.le_of_ble_eq_true rfl) rfl rfl q574 ?_
    refine g_iload_n X 2 dX5_valueOf_20 rfl rfl ?_
    obtain ⟨hi3, h⟩ := h
    refine g_iald X dX5_valueOf_21 (Nat.le_of_ble_eq_true rfl) rfl hi3 ?_
    refine g_iconst X (1 : Int32) dX5_valueOf_22 (by decide) ?_
    refine g_icmp_ne X 32 dX5_valueOf_23 (by decide) (fun hc => ?_) (fun hc => ?_)
    · have h := h.1 hc
      refine g_aload_n X 0 dX5_valueOf_32 rfl rfl ?_
      refine g_getR X (C := RX5) (T := TX5) (N := 23) 5 dX5_valueOf_33 (Nat.le_of_ble_eq_true rfl) rfl rfl rfl inG5 (Nat.le_of_ble_eq_true rfl) rfl rfl q574 ?_
      refine g_iload_n X 2 dX5_valueOf_36 rfl rfl ?_
      obtain ⟨hi4, h⟩ := h
      refine g_iald X dX5_valueOf_37 (Nat.le_of_ble_eq_true rfl) rfl hi4 ?_
      refine g_iconst X (2 : Int32) dX5_valueOf_38 (by decide) ?_
      refine g_icmp_ne X 48 dX5_valueOf_39 (by decide) (fun hc => ?_) (fun hc => ?_)
      · have h := h.1 hc
        refine g_aload_n X 0 dX5_valueOf_48 rfl rfl ?_
        refine g_getR X (C := RX5) (T := TX5) (N := 23) 4 dX5_valueOf_49 (Nat.le_of_ble_eq_true rfl) rfl rfl rfl inG5 (Nat.le_of_ble_eq_true rfl) rfl rfl q573 ?_
        refine g_iload_n X 2 dX5_valueOf_52 rfl rfl ?_
        obtain ⟨hi5, h⟩ := h
        refine g_dald X dX5_valueOf_53 (Nat.le_of_ble_eq_true rfl) rfl hi5 ?_
        exact g_dret X hr dX5_valueOf_54 h
      · have h := h.2 hc
        refine g_ldc2d X q718 dX5_valueOf_42 ?_
        refine g_goto X 54 dX5_valueOf_45 (by decide) ?_
        exact g_dret X hr dX5_valueOf_54 h
    · have h := h.2 hc
      refine g_ldc2d X q717 dX5_valueOf_26 ?_
      refine g_goto X 54 dX5_valueOf_29 (by decide) ?_
      exact g_dret X hr dX5_valueOf_54 h
  · have h := h.2 hc
    refine g_aload_n X 0 dX5_valueOf_8 rfl rfl ?_
    refine g_getR X (C := RX5) (T := TX5) (N := 23) 3 dX5_valueOf_9 (Nat.le_of_ble_eq_true rfl) rfl rfl rfl inG5 (Nat.le_of_ble_eq_true rfl) rfl rfl q572 ?_
    refine g_iload_n X 2 dX5_valueOf_12 rfl rfl ?_
    obtain ⟨hi6, h⟩ := h
    refine g_lald X dX5_valueOf_13 (Nat.le_of_ble_eq_true rfl) rfl hi6 ?_
    refine g_l2d X dX5_valueOf_14 ?_
    exact g_dret X hr dX5_valueOf_15 h
theorem c_X5_valueOf (l : Launch) (D : va_G) (cA : Nat → ClassId) {x1 : Int32} {x2 : Int32} {σ : St} {Q : UInt64 → St → Prop} (h : w_X5_valueOf Q x1 x2 σ) : CtD l yX5_valueOf cX5_valueOf 3 (some .double) rmX5_valueOf D cA shR [.ref 0, .int x1, .int x2] σ Q := by
  refine CtD.of (own := RX5) rfl (by decide +kernel) [(0, .ref 0), (1, .int x1), (2, .int x2)] rfl (Nat.le_of_ble_eq_true rfl) ?_
  intro p e s m args below meth c ad0 A X hr
  exact b_X5_valueOf_0 X hr  h
def rmX5_see : Room := { frames := 2, cells := 0, slots := 0, locals := 47 }
def w_X5_see (Q : UInt64 → St → Prop) (x1 : Int32) (x2 : Int32) (σ : St) : Prop := ∀ σ1 : St, σ1 = uI σ 0 0 (0 : Int32) → w_X5_isRow (fun r3 σ2 => ((r3 = 0 → (Q FP.dconst0 σ2)) ∧ (¬ r3 = 0 → w_X5_isThere (fun r5 σ4 => ((r5 = 0 → (Q FP.dconst0 σ4)) ∧ (¬ r5 = 0 → w_X5_isReal (fun r7 σ6 => ((r7 = 0 → (Q FP.dconst0 σ6)) ∧ (¬ r7 = 0 → w_X5_isPlace (fun r9 σ8 => ((¬ r9 = 0 → w_X5_valueOf (fun r11 σ10 => (Q r11 σ10)) x1 (((40 : Int32) * x1) + x2) σ8) ∧ (r9 = 0 → (Q FP.dconst0 σ8)))) x1 x2 σ6))) x1 σ4))) x1 σ2))) x1 σ1
set_option maxRecDepth 100000 in
set_option maxHeartbeats 4000000 in
theorem b_X5_see_0 {p : Program} {l : Launch} {e : Env} {s : State} {m : MethodId} {args : Array Value} {below : List Frame} {meth : Method} {c : Code} {D : va_G} {cA : Nat → ClassId} {A : Nat → Prop} {ad0 : Nat → Nat} {Q : UInt64 → St → Prop} {x1 : Int32} {x2 : Int32} {σ : St} (X : Cx p rmX5_see s m args meth c cX5_see 3 RX5 D cA A) (hr : meth.sig.returnType = some .double) (h : w_X5_see Q x1 x2 σ) : G p l e rmX5_see s m args below meth c 3 D cA A (MQ below (va_Qd Q (EndW D cA ad0 shR) A) args s 0 0 A) 0 0 (fun ad => ad = ad0) shR σ [(0, .ref 0), (1, .int x1), (2, .int x2)] 0 [] := by
  unfold w_X5_see at h
  refine g_aload_n X 0 dX5_see_0 rfl rfl ?_
  refine g_iconst X (0 : Int32) dX5_see_1 (by decide) ?_
  refine g_putI X (C := RX5) (T := TX5) (N := 23) (ty0 := tyX5) 0 dX5_see_2 (Nat.le_of_ble_eq_true rfl) rfl rfl rfl inG5 tyX5_ok nmX5 (Nat.le_of_ble_eq_true rfl) rfl rfl q569 rfl rfl ?_
  refine g_nameS (fun σ1 eσ1 => ?_)
  have h := h σ1 eσ1
  refine g_iload_n X 1 dX5_see_5 rfl rfl ?_
  refine g_callSI X (n := 1) [.int x1] [] dX5_see_6 (c_X5_isRow l D cA shR h) q644 q645 q57 q646 ⟨by decide, by decide, by decide +kernel⟩ rfl rfl (Nat.le_of_ble_eq_true rfl) rfl rfl ⟨(Nat.le_of_ble_eq_true rfl), (Nat.le_of_ble_eq_true rfl)⟩ (Nat.le_of_ble_eq_true rfl) (Nat.le_of_ble_eq_true rfl) (fun r3 σ2 h => ?_)
  refine g_if_eq X 37 dX5_see_9 (by decide) (fun hc => ?_) (fun hc => ?_)
  · have h := h.1 hc
    refine g_dconst0 X dX5_see_37 ?_
    exact g_dret X hr dX5_see_38 h
  · have h := h.2 hc
    refine g_aload_n X 0 dX5_see_12 rfl rfl ?_
    refine g_iload_n X 1 dX5_see_13 rfl rfl ?_
    refine g_callVI X (C := RX5) (T := TX5) (N := 23) (n := 1) [.int x1] [] dX5_see_14 (c_X5_isThere l D cA h) q656 q658 q18 q57 q659 (Nat.le_of_ble_eq_true rfl) rfl rfl ⟨rfl, by decide, by decide, by decide +kernel⟩ rfl rfl (Nat.le_of_ble_eq_true rfl) rfl rfl ⟨(Nat.le_of_ble_eq_true rfl), (Nat.le_of_ble_eq_true rfl)⟩ (Nat.le_of_ble_eq_true rfl) (Nat.le_of_ble_eq_true rfl) (fun r5 σ4 h => ?_)
    refine g_if_eq X 37 dX5_see_17 (by decide) (fun hc => ?_) (fun hc => ?_)
    · have h := h.1 hc
      refine g_dconst0 X dX5_see_37 ?_
      exact g_dret X hr dX5_see_38 h
    · have h := h.2 hc
      refine g_aload_n X 0 dX5_see_20 rfl rfl ?_
      refine g_iload_n X 1 dX5_see_21 rfl rfl ?_
      refine g_callVI X (C := RX5) (T := TX5) (N := 23) (n := 1) [.int x1] [] dX5_see_22 (c_X5_isReal l D cA h) q686 q688 q21 q57 q689 (Nat.le_of_ble_eq_true rfl) rfl rfl ⟨rfl, by decide, by decide, by decide +kernel⟩ rfl rfl (Nat.le_of_ble_eq_true rfl) rfl rfl ⟨(Nat.le_of_ble_eq_true rfl), (Nat.le_of_ble_eq_true rfl)⟩ (Nat.le_of_ble_eq_true rfl) (Nat.le_of_ble_eq_true rfl) (fun r7 σ6 h => ?_)
      refine g_if_eq X 37 dX5_see_25 (by decide) (fun hc => ?_) (fun hc => ?_)
      · have h := h.1 hc
        refine g_dconst0 X dX5_see_37 ?_
        exact g_dret X hr dX5_see_38 h
      · have h := h.2 hc
        refine g_aload_n X 0 dX5_see_28 rfl rfl ?_
        refine g_iload_n X 1 dX5_see_29 rfl rfl ?_
        refine g_iload_n X 2 dX5_see_30 rfl rfl ?_
        refine g_callVI X (C := RX5) (T := TX5) (N := 23) (n := 2) [.int x1, .int x2] [] dX5_see_31 (c_X5_isPlace l D cA h) q668 q670 q19 q57 q671 (Nat.le_of_ble_eq_true rfl) rfl rfl ⟨rfl, by decide, by decide, by decide +kernel⟩ rfl rfl (Nat.le_of_ble_eq_true rfl) rfl rfl ⟨(Nat.le_of_ble_eq_true rfl), (Nat.le_of_ble_eq_true rfl)⟩ (Nat.le_of_ble_eq_true rfl) (Nat.le_of_ble_eq_true rfl) (fun r9 σ8 h => ?_)
        refine g_if_ne X 39 dX5_see_34 (by decide) (fun hc => ?_) (fun hc => ?_)
        · have h := h.1 hc
          refine g_aload_n X 0 dX5_see_39 rfl rfl ?_
          refine g_iload_n X 1 dX5_see_40 rfl rfl ?_
          refine g_bipush X (40 : Int32) dX5_see_41 (by decide) ?_
          refine g_iload_n X 1 dX5_see_43 rfl rfl ?_
          refine g_imul X dX5_see_44 ?_
          refine g_iload_n X 2 dX5_see_45 rfl rfl ?_
          refine g_iadd X dX5_see_46 ?_
          refine g_callVD X (C := RX5) (T := TX5) (N := 23) (n := 2) [.int x1, .int (((40 : Int32) * x1) + x2)] [] dX5_see_47 (c_X5_valueOf l D cA h) q713 q715 q23 q57 q716 (Nat.le_of_ble_eq_true rfl) rfl rfl ⟨rfl, by decide, by decide, by decide +kernel⟩ rfl rfl (Nat.le_of_ble_eq_true rfl) rfl rfl ⟨(Nat.le_of_ble_eq_true rfl), (Nat.le_of_ble_eq_true rfl)⟩ (Nat.le_of_ble_eq_true rfl) (Nat.le_of_ble_eq_true rfl) (fun r11 σ10 h => ?_)
          exact g_dret X hr dX5_see_50 h
        · have h := h.2 hc
          refine g_dconst0 X dX5_see_37 ?_
          exact g_dret X hr dX5_see_38 h
theorem c_X5_see (l : Launch) (D : va_G) (cA : Nat → ClassId) {x1 : Int32} {x2 : Int32} {σ : St} {Q : UInt64 → St → Prop} (h : w_X5_see Q x1 x2 σ) : CtD l yX5_see cX5_see 3 (some .double) rmX5_see D cA shR [.ref 0, .int x1, .int x2] σ Q := by
  refine CtD.of (own := RX5) rfl (by decide +kernel) [(0, .ref 0), (1, .int x1), (2, .int x2)] rfl (Nat.le_of_ble_eq_true rfl) ?_
  intro p e s m args below meth c ad0 A X hr
  exact b_X5_see_0 X hr  h
def rmX5_compare : Room := { frames := 2, cells := 0, slots := 0, locals := 47 }
def w_X5_compare_67 (Q : Int32 → St → Prop) (x1 : Int32) (x3 : UInt64) (x5 : Int32) (σ : St) : Prop := w_X5_valueOf (fun r12 σ11 => ((0 ≤ (dcmpF r12 x3 .g) → ((¬ (dcmpF r12 x3 .l) = 0 → (((dcmpF r12 x3 .l) ≤ 0 → (Q (0 : Int32) σ11)) ∧ (¬ (dcmpF r12 x3 .l) ≤ 0 → (Q (3 : Int32) σ11)))) ∧ ((dcmpF r12 x3 .l) = 0 → (Q (2 : Int32) σ11)))) ∧ (¬ 0 ≤ (dcmpF r12 x3 .g) → (Q (1 : Int32) σ11)))) x1 x5 σ
set_option maxRecDepth 100000 in
set_option maxHeartbeats 4000000 in
theorem b_X5_compare_67 {p : Program} {l : Launch} {e : Env} {s : State} {m : MethodId} {args : Array Value} {below : List Frame} {meth : Method} {c : Code} {D : va_G} {cA : Nat → ClassId} {A : Nat → Prop} {ad0 : Nat → Nat} {Q : Int32 → St → Prop} {x1 : Int32} {x3 : UInt64} {x5 : Int32} {σ : St} (X : Cx p rmX5_compare s m args meth c cX5_compare 8 RX5 D cA A) (hr : meth.sig.returnType = some .int) (h : w_X5_compare_67 Q x1 x3 x5 σ) : G p l e rmX5_compare s m args below meth c 8 D cA A (MQ below (va_Qi Q (EndW D cA ad0 shR) A) args s 0 0 A) 0 0 (fun ad => ad = ad0) shR σ [(0, .ref 0), (1, .int x1), (3, .double x3), (5, .int x5)] 67 [] := by
  unfold w_X5_compare_67 at h
  refine g_aload_n X 0 dX5_compare_67 rfl rfl ?_
  refine g_iload_n X 1 dX5_compare_68 rfl rfl ?_
  refine g_iload X 3 dX5_compare_69 rfl ?_
  refine g_callVD X (C := RX5) (T := TX5) (N := 23) (n := 2) [.int x1, .int x5] [] dX5_compare_71 (c_X5_valueOf l D cA h) q713 q715 q23 q57 q716 (Nat.le_of_ble_eq_true rfl) rfl rfl ⟨rfl, by decide, by decide, by decide +kernel⟩ rfl rfl (Nat.le_of_ble_eq_true rfl) rfl rfl ⟨(Nat.le_of_ble_eq_true rfl), (Nat.le_of_ble_eq_true rfl)⟩ (Nat.le_of_ble_eq_true rfl) (Nat.le_of_ble_eq_true rfl) (fun r12 σ11 h => ?_)
  refine g_dstore X [(6, .double r12), (0, .ref 0), (1, .int x1), (3, .double x3), (5, .int x5)] dX5_compare_74 (Nat.le_of_ble_eq_true rfl) rfl ?_
  refine g_dload X 0 dX5_compare_76 rfl ?_
  refine g_dload_n X 3 dX5_compare_78 rfl rfl ?_
  refine g_dcmp X dX5_compare_79 ?_
  refine g_if_ge X 87 dX5_compare_80 (by decide) (fun hc => ?_) (fun hc => ?_)
  · have h := h.1 hc
    refine g_dload X 0 dX5_compare_87 rfl ?_
    refine g_dload_n X 3 dX5_compare_89 rfl rfl ?_
    refine g_dcmp X dX5_compare_90 ?_
    refine g_if_ne X 98 dX5_compare_91 (by decide) (fun hc => ?_) (fun hc => ?_)
    · have h := h.1 hc
      refine g_dload X 0 dX5_compare_98 rfl ?_
      refine g_dload_n X 3 dX5_compare_100 rfl rfl ?_
      refine g_dcmp X dX5_compare_101 ?_
      refine g_if_le X 109 dX5_compare_102 (by decide) (fun hc => ?_) (fun hc => ?_)
      · have h := h.1 hc
        refine g_iconst X (0 : Int32) dX5_compare_109 (by decide) ?_
        exact g_iret X hr dX5_compare_110 rfl h
      · have h := h.2 hc
        refine g_iconst X (3 : Int32) dX5_compare_105 (by decide) ?_
        refine g_goto X 110 dX5_compare_106 (by decide) ?_
        exact g_iret X hr dX5_compare_110 rfl h
    · have h := h.2 hc
      refine g_iconst X (2 : Int32) dX5_compare_94 (by decide) ?_
      refine g_goto X 110 dX5_compare_95 (by decide) ?_
      exact g_iret X hr dX5_compare_110 rfl h
  · have h := h.2 hc
    refine g_iconst X (1 : Int32) dX5_compare_83 (by decide) ?_
    refine g_goto X 110 dX5_compare_84 (by decide) ?_
    exact g_iret X hr dX5_compare_110 rfl h
def w_X5_compare (Q : Int32 → St → Prop) (x1 : Int32) (x2 : Int32) (x3 : UInt64) (σ : St) : Prop := ∀ σ1 : St, σ1 = uI σ 0 0 (0 : Int32) → w_X5_isRow (fun r3 σ2 => ((¬ r3 = 0 → w_X5_isThere (fun r5 σ4 => ((¬ r5 = 0 → w_X5_isPlace (fun r7 σ6 => ((¬ r7 = 0 → ∀ y8 : Int32, y8 = (((40 : Int32) * x1) + x2) → w_X5_isReal (fun r10 σ9 => ((r10 = 0 → (w_X5_compare_67 Q x1 x3 y8 σ9)) ∧ (¬ r10 = 0 → vp_in y8 480 ∧ ((¬ (gI σ9 5 (ix y8)) = (3 : Int32) → (w_X5_compare_67 Q x1 x3 y8 σ9)) ∧ ((gI σ9 5 (ix y8)) = (3 : Int32) → (Q (0 : Int32) σ9)))))) x1 σ6) ∧ (r7 = 0 → (Q (-13 : Int32) σ6)))) x1 x2 σ4) ∧ (r5 = 0 → (Q (-11 : Int32) σ4)))) x1 σ2) ∧ (r3 = 0 → (Q (-3 : Int32) σ2)))) x1 σ1
set_option maxRecDepth 100000 in
set_option maxHeartbeats 4000000 in
theorem b_X5_compare_0 {p : Program} {l : Launch} {e : Env} {s : State} {m : MethodId} {args : Array Value} {below : List Frame} {meth : Method} {c : Code} {D : va_G} {cA : Nat → ClassId} {A : Nat → Prop} {ad0 : Nat → Nat} {Q : Int32 → St → Prop} {x1 : Int32} {x2 : Int32} {x3 : UInt64} {σ : St} (X : Cx p rmX5_compare s m args meth c cX5_compare 8 RX5 D cA A) (hr : meth.sig.returnType = some .int) (h : w_X5_compare Q x1 x2 x3 σ) : G p l e rmX5_compare s m args below meth c 8 D cA A (MQ below (va_Qi Q (EndW D cA ad0 shR) A) args s 0 0 A) 0 0 (fun ad => ad = ad0) shR σ [(0, .ref 0), (1, .int x1), (2, .int x2), (3, .double x3)] 0 [] := by
  unfold w_X5_compare at h
  refine g_aload_n X 0 dX5_compare_0 rfl rfl ?_
  refine g_iconst X (0 : Int32) dX5_compare_1 (by decide) ?_
  refine g_putI X (C := RX5) (T := TX5) (N := 23) (ty0 := tyX5) 0 dX5_compare_2 (Nat.le_of_ble_eq_true rfl) rfl rfl rfl inG5 tyX5_ok nmX5 (Nat.le_of_ble_eq_true rfl) rfl rfl q569 rfl rfl ?_
  refine g_nameS (fun σ1 eσ1 => ?_)
  have h := h σ1 eσ1
  refine g_iload_n X 1 dX5_compare_5 rfl rfl ?_
  refine g_callSI X (n := 1) [.int x1] [] dX5_compare_6 (c_X5_isRow l D cA shR h) q644 q645 q57 q646 ⟨by decide, by decide, by decide +kernel⟩ rfl rfl (Nat.le_of_ble_eq_true rfl) rfl rfl ⟨(Nat.le_of_ble_eq_true rfl), (Nat.le_of_ble_eq_true rfl)⟩ (Nat.le_of_ble_eq_true rfl) (Nat.le_of_ble_eq_true rfl) (fun r3 σ2 h => ?_)
  refine g_if_ne X 15 dX5_compare_9 (by decide) (fun hc => ?_) (fun hc => ?_)
  · have h := h.1 hc
    refine g_aload_n X 0 dX5_compare_15 rfl rfl ?_
    refine g_iload_n X 1 dX5_compare_16 rfl rfl ?_
    refine g_callVI X (C := RX5) (T := TX5) (N := 23) (n := 1) [.int x1] [] dX5_compare_17 (c_X5_isThere l D cA h) q656 q658 q18 q57 q659 (Nat.le_of_ble_eq_true rfl) rfl rfl ⟨rfl, by decide, by decide, by decide +kernel⟩ rfl rfl (Nat.le_of_ble_eq_true rfl) rfl rfl ⟨(Nat.le_of_ble_eq_true rfl), (Nat.le_of_ble_eq_true rfl)⟩ (Nat.le_of_ble_eq_true rfl) (Nat.le_of_ble_eq_true rfl) (fun r5 σ4 h => ?_)
    refine g_if_ne X 26 dX5_compare_20 (by decide) (fun hc => ?_) (fun hc => ?_)
    · have h := h.1 hc
      refine g_aload_n X 0 dX5_compare_26 rfl rfl ?_
      refine g_iload_n X 1 dX5_compare_27 rfl rfl ?_
      refine g_iload_n X 2 dX5_compare_28 rfl rfl ?_
      refine g_callVI X (C := RX5) (T := TX5) (N := 23) (n := 2) [.int x1, .int x2] [] dX5_compare_29 (c_X5_isPlace l D cA h) q668 q670 q19 q57 q671 (Nat.le_of_ble_eq_true rfl) rfl rfl ⟨rfl, by decide, by decide, by decide +kernel⟩ rfl rfl (Nat.le_of_ble_eq_true rfl) rfl rfl ⟨(Nat.le_of_ble_eq_true rfl), (Nat.le_of_ble_eq_true rfl)⟩ (Nat.le_of_ble_eq_true rfl) (Nat.le_of_ble_eq_true rfl) (fun r7 σ6 h => ?_)
      refine g_if_ne X 38 dX5_compare_32 (by decide) (fun hc => ?_) (fun hc => ?_)
      · have h := h.1 hc
        refine g_bipush X (40 : Int32) dX5_compare_38 (by decide) ?_
        refine g_iload_n X 1 dX5_compare_40 rfl rfl ?_
        refine g_imul X dX5_compare_41 ?_
        refine g_iload_n X 2 dX5_compare_42 rfl rfl ?_
        refine g_iadd X dX5_compare_43 ?_
        refine g_nameI (fun y8 ey8 => ?_)
        have h := h y8 ey8
        refine g_istore X [(5, .int y8), (0, .ref 0), (1, .int x1), (2, .int x2), (3, .double x3)] dX5_compare_44 (Nat.le_of_ble_eq_true rfl) rfl ?_
        refine g_aload_n X 1 dX5_compare_46 rfl rfl ?_
        refine g_iload_n X 2 dX5_compare_47 rfl rfl ?_
        refine g_callVI X (C := RX5) (T := TX5) (N := 23) (n := 1) [.int x1] [] dX5_compare_48 (c_X5_isReal l D cA h) q686 q688 q21 q57 q689 (Nat.le_of_ble_eq_true rfl) rfl rfl ⟨rfl, by decide, by decide, by decide +kernel⟩ rfl rfl (Nat.le_of_ble_eq_true rfl) rfl rfl ⟨(Nat.le_of_ble_eq_true rfl), (Nat.le_of_ble_eq_true rfl)⟩ (Nat.le_of_ble_eq_true rfl) (Nat.le_of_ble_eq_true rfl) (fun r10 σ9 h => ?_)
        refine g_if_eq X 67 dX5_compare_51 (by decide) (fun hc => ?_) (fun hc => ?_)
        · have h := h.1 hc
          refine g_weak [1, 2, 4, 0] rfl ?_
          exact b_X5_compare_67 X hr h
        · have h := h.2 hc
          refine g_aload_n X 1 dX5_compare_54 rfl rfl ?_
          refine g_getR X (C := RX5) (T := TX5) (N := 23) 5 dX5_compare_55 (Nat.le_of_ble_eq_true rfl) rfl rfl rfl inG5 (Nat.le_of_ble_eq_true rfl) rfl rfl q574 ?_
          refine g_iload X 0 dX5_compare_58 rfl ?_
          obtain ⟨hi13, h⟩ := h
          refine g_iald X dX5_compare_60 (Nat.le_of_ble_eq_true rfl) rfl hi13 ?_
          refine g_iconst X (3 : Int32) dX5_compare_61 (by decide) ?_
          refine g_icmp_ne X 67 dX5_compare_62 (by decide) (fun hc => ?_) (fun hc => ?_)
          · have h := h.1 hc
            refine g_weak [1, 2, 4, 0] rfl ?_
            exact b_X5_compare_67 X hr h
          · have h := h.2 hc
            refine g_iconst X (0 : Int32) dX5_compare_65 (by decide) ?_
            exact g_iret X hr dX5_compare_66 rfl h
      · have h := h.2 hc
        refine g_bipush X (-13 : Int32) dX5_compare_35 (by decide) ?_
        exact g_iret X hr dX5_compare_37 rfl h
    · have h := h.2 hc
      refine g_bipush X (-11 : Int32) dX5_compare_23 (by decide) ?_
      exact g_iret X hr dX5_compare_25 rfl h
  · have h := h.2 hc
    refine g_bipush X (-3 : Int32) dX5_compare_12 (by decide) ?_
    exact g_iret X hr dX5_compare_14 rfl h
theorem c_X5_compare (l : Launch) (D : va_G) (cA : Nat → ClassId) {x1 : Int32} {x2 : Int32} {x3 : UInt64} {σ : St} {Q : Int32 → St → Prop} (h : w_X5_compare Q x1 x2 x3 σ) : CtI l yX5_compare cX5_compare 8 (some .int) rmX5_compare D cA shR [.ref 0, .int x1, .int x2, .double x3] σ Q := by
  refine CtI.of (own := RX5) rfl (by decide +kernel) [(0, .ref 0), (1, .int x1), (2, .int x2), (3, .double x3)] rfl (Nat.le_of_ble_eq_true rfl) ?_
  intro p e s m args below meth c ad0 A X hr
  exact b_X5_compare_0 X hr  h
def rmX5_isKeeper : Room := { frames := 1, cells := 0, slots := 0, locals := 25 }
def w_X5_isKeeper (Q : Int32 → St → Prop) (x0 : Int32) (σ : St) : Prop := w_X5_in (fun r2 σ1 => (bz r2 ∧ Q r2 σ1)) (x0.toInt64) (0 : Int64) (5 : Int64) σ
set_option maxRecDepth 100000 in
set_option maxHeartbeats 4000000 in
theorem b_X5_isKeeper_0 {p : Program} {l : Launch} {e : Env} {s : State} {m : MethodId} {args : Array Value} {below : List Frame} {meth : Method} {c : Code} {D : va_G} {cA : Nat → ClassId} {A : Nat → Prop} {ad0 : Nat → Nat} {sh : SH} {Q : Int32 → St → Prop} {x0 : Int32} {σ : St} (X : Cx p rmX5_isKeeper s m args meth c cX5_isKeeper 1 RX5 D cA A) (hr : meth.sig.returnType = some .boolean) (h : w_X5_isKeeper Q x0 σ) : G p l e rmX5_isKeeper s m args below meth c 1 D cA A (MQ below (va_Qi Q (EndW D cA ad0 sh) A) args s 0 0 A) 0 0 (fun ad => ad = ad0) sh σ [(0, .int x0)] 0 [] := by
  unfold w_X5_isKeeper at h
  refine g_iload_n X 0 dX5_isKeeper_0 rfl rfl ?_
  refine g_i2l X dX5_isKeeper_1 ?_
  refine g_lconst X (0 : Int64) dX5_isKeeper_2 (by decide) ?_
  refine g_ldc2 X q651 dX5_isKeeper_3 ?_
  refine g_callSI X (n := 3) [.long (x0.toInt64), .long (0 : Int64), .long (5 : Int64)] [] dX5_isKeeper_6 (c_X5_in l D cA sh h) q648 q649 q57 q650 ⟨by decide, by decide, by decide +kernel⟩ rfl rfl (Nat.le_of_ble_eq_true rfl) rfl rfl ⟨(Nat.le_of_ble_eq_true rfl), (Nat.le_of_ble_eq_true rfl)⟩ (Nat.le_of_ble_eq_true rfl) (Nat.le_of_ble_eq_true rfl) (fun r2 σ1 h => ?_)
  obtain ⟨hc, h⟩ := h
  exact g_iret X hr dX5_isKeeper_9 (bz_narrow hc) h
theorem c_X5_isKeeper (l : Launch) (D : va_G) (cA : Nat → ClassId) (sh : SH) {x0 : Int32} {σ : St} {Q : Int32 → St → Prop} (h : w_X5_isKeeper Q x0 σ) : CtI l yX5_isKeeper cX5_isKeeper 1 (some .boolean) rmX5_isKeeper D cA sh [.int x0] σ Q := by
  refine CtI.of (own := RX5) rfl (by decide +kernel) [(0, .int x0)] rfl (Nat.le_of_ble_eq_true rfl) ?_
  intro p e s m args below meth c ad0 A X hr
  exact b_X5_isKeeper_0 X hr  h
def rmX5_keep : Room := { frames := 0, cells := 0, slots := 0, locals := 0 }
def w_X5_keep_127 (Q : St → Prop) (s0 : Int32) (σ : St) : Prop := ∀ σ8 : St, σ8 = uI σ 0 15 s0 → (Q σ8)
set_option maxRecDepth 100000 in
set_option maxHeartbeats 4000000 in
theorem b_X5_keep_127 {p : Program} {l : Launch} {e : Env} {s : State} {m : MethodId} {args : Array Value} {below : List Frame} {meth : Method} {c : Code} {D : va_G} {cA : Nat → ClassId} {A : Nat → Prop} {ad0 : Nat → Nat} {Q : St → Prop} {s0 : Int32} {σ : St} (X : Cx p rmX5_keep s m args meth c cX5_keep 4 RX5 D cA A) (hr : meth.sig.returnType = none) (h : w_X5_keep_127 Q s0 σ) : G p l e rmX5_keep s m args below meth c 4 D cA A (MQ below (va_Qv Q (EndW D cA ad0 shR) A) args s 0 0 A) 0 0 (fun ad => ad = ad0) shR σ [] 127 [.int s0, .ref 0] := by
  unfold w_X5_keep_127 at h
  refine g_putI X (C := RX5) (T := TX5) (N := 23) (ty0 := tyX5) 15 dX5_keep_127 (Nat.le_of_ble_eq_true rfl) rfl rfl rfl inG5 tyX5_ok nmX5 (Nat.le_of_ble_eq_true rfl) rfl rfl q584 rfl rfl ?_
  refine g_nameS (fun σ8 eσ8 => ?_)
  have h := h σ8 eσ8
  exact g_vret X hr dX5_keep_130 h
def w_X5_keep_65 (Q : St → Prop) : Nat → Int32 → Int32 → Int32 → St → Prop
  | 0, _, _, _, _ => False
  | n + 1, x1, x2, x3, σ => (((3 : Int32) ≤ x3 → ∀ σ7 : St, σ7 = uI σ 0 14 ((x2 + (1 : Int32)) - (x2 + (1 : Int32)) / (12 : Int32) * (12 : Int32)) → (((12 : Int32) ≤ (gI σ7 0 15) → (w_X5_keep_127 Q (12 : Int32) σ7)) ∧ (¬ (12 : Int32) ≤ (gI σ7 0 15) → (w_X5_keep_127 Q ((gI σ7 0 15) + (1 : Int32)) σ7)))) ∧ (¬ (3 : Int32) ≤ x3 → vp_in (((3 : Int32) * x1) + x3) 21 ∧ vp_in (((3 : Int32) * x2) + x3) 36 ∧ ∀ σ11 : St, σ11 = uI σ 12 (ix (((3 : Int32) * x2) + x3)) (gI σ 8 (ix (((3 : Int32) * x1) + x3))) → ∀ y12 : Int32, y12 = x3 + (1 : Int32) → (w_X5_keep_65 Q n x1 x2 y12 σ11)))
set_option maxRecDepth 100000 in
set_option maxHeartbeats 4000000 in
theorem b_X5_keep_65 {p : Program} {l : Launch} {e : Env} {s : State} {m : MethodId} {args : Array Value} {below : List Frame} {meth : Method} {c : Code} {D : va_G} {cA : Nat → ClassId} {A : Nat → Prop} {ad0 : Nat → Nat} {Q : St → Prop} (X : Cx p rmX5_keep s m args meth c cX5_keep 4 RX5 D cA A) (hr : meth.sig.returnType = none) : ∀ (n : Nat) (x1 : Int32) (x2 : Int32) (x3 : Int32) (σ : St), w_X5_keep_65 Q n x1 x2 x3 σ → G p l e rmX5_keep s m args below meth c 4 D cA A (MQ below (va_Qv Q (EndW D cA ad0 shR) A) args s 0 0 A) 0 0 (fun ad => ad = ad0) shR σ [(0, .ref 0), (1, .int x1), (2, .int x2), (3, .int x3)] 65 [] := by
  intro n
  induction n with
  | zero => intro x1 x2 x3 σ h; exact h.elim
  | succ n ih =>
    intro x1 x2 x3 σ h
    rw [w_X5_keep_65] at h
    refine g_iload_n X 3 dX5_keep_65 rfl rfl ?_
    refine g_iconst X (3 : Int32) dX5_keep_66 (by decide) ?_
    refine g_icmp_ge X 96 dX5_keep_67 (by decide) (fun hc => ?_) (fun hc => ?_)
    · have h := h.1 hc
      refine g_aload_n X 0 dX5_keep_96 rfl rfl ?_
      refine g_iload_n X 2 dX5_keep_97 rfl rfl ?_
      refine g_iconst X (1 : Int32) dX5_keep_98 (by decide) ?_
      refine g_iadd X dX5_keep_99 ?_
      refine g_bipush X (12 : Int32) dX5_keep_100 (by decide) ?_
      refine g_irem X dX5_keep_102 (by decide) ?_
      refine g_putI X (C := RX5) (T := TX5) (N := 23) (ty0 := tyX5) 14 dX5_keep_103 (Nat.le_of_ble_eq_true rfl) rfl rfl rfl inG5 tyX5_ok nmX5 (Nat.le_of_ble_eq_true rfl) rfl rfl q583 rfl rfl ?_
      refine g_nameS (fun σ7 eσ7 => ?_)
      have h := h σ7 eσ7
      refine g_aload_n X 0 dX5_keep_106 rfl rfl ?_
      refine g_aload_n X 0 dX5_keep_107 rfl rfl ?_
      refine g_getI X (C := RX5) (T := TX5) (N := 23) 15 dX5_keep_108 (Nat.le_of_ble_eq_true rfl) rfl rfl rfl inG5 (Nat.le_of_ble_eq_true rfl) rfl q584 ?_
      refine g_bipush X (12 : Int32) dX5_keep_111 (by decide) ?_
      refine g_icmp_ge X 125 dX5_keep_113 (by decide) (fun hc => ?_) (fun hc => ?_)
      · have h := h.1 hc
        refine g_bipush X (12 : Int32) dX5_keep_125 (by decide) ?_
        refine g_weak [] rfl ?_
        exact b_X5_keep_127 X hr h
      · have h := h.2 hc
        refine g_aload_n X 0 dX5_keep_116 rfl rfl ?_
        refine g_getI X (C := RX5) (T := TX5) (N := 23) 15 dX5_keep_117 (Nat.le_of_ble_eq_true rfl) rfl rfl rfl inG5 (Nat.le_of_ble_eq_true rfl) rfl q584 ?_
        refine g_iconst X (1 : Int32) dX5_keep_120 (by decide) ?_
        refine g_iadd X dX5_keep_121 ?_
        refine g_goto X 127 dX5_keep_122 (by decide) ?_
        refine g_weak [] rfl ?_
        exact b_X5_keep_127 X hr h
    · have h := h.2 hc
      refine g_aload_n X 0 dX5_keep_70 rfl rfl ?_
      refine g_getR X (C := RX5) (T := TX5) (N := 23) 13 dX5_keep_71 (Nat.le_of_ble_eq_true rfl) rfl rfl rfl inG5 (Nat.le_of_ble_eq_true rfl) rfl rfl q582 ?_
      refine g_iconst X (3 : Int32) dX5_keep_74 (by decide) ?_
      refine g_iload_n X 2 dX5_keep_75 rfl rfl ?_
      refine g_imul X dX5_keep_76 ?_
      refine g_iload_n X 3 dX5_keep_77 rfl rfl ?_
      refine g_iadd X dX5_keep_78 ?_
      refine g_aload_n X 0 dX5_keep_79 rfl rfl ?_
      refine g_getR X (C := RX5) (T := TX5) (N := 23) 8 dX5_keep_80 (Nat.le_of_ble_eq_true rfl) rfl rfl rfl inG5 (Nat.le_of_ble_eq_true rfl) rfl rfl q577 ?_
      refine g_iconst X (3 : Int32) dX5_keep_83 (by decide) ?_
      refine g_iload_n X 1 dX5_keep_84 rfl rfl ?_
      refine g_imul X dX5_keep_85 ?_
      refine g_iload_n X 3 dX5_keep_86 rfl rfl ?_
      refine g_iadd X dX5_keep_87 ?_
      obtain ⟨hi9, h⟩ := h
      refine g_iald X dX5_keep_88 (Nat.le_of_ble_eq_true rfl) rfl hi9 ?_
      obtain ⟨hi10, h⟩ := h
      refine g_iast X dX5_keep_89 (Nat.le_of_ble_eq_true rfl) rfl hi10 ?_
      refine g_nameS (fun σ11 eσ11 => ?_)
      have h := h σ11 eσ11
      obtain ⟨y12, ey12⟩ : ∃ y : Int32, y = x3 + (1 : Int32) := ⟨_, rfl⟩
      have h := h y12 ey12
      refine g_iinc X 3 (1 : Int32) [(3, .int y12), (0, .ref 0), (1, .int x1), (2, .int x2)] dX5_keep_90 rfl (by decide) (Nat.le_of_ble_eq_true rfl) (by rw [ey12]; rfl) ?_
      refine g_goto X 65 dX5_keep_93 (by decide) ?_
      refine g_weak [1, 2, 3, 0] rfl ?_
      exact ih _ _ _ _ h
def w_X5_keep_26 (Q : St → Prop) : Nat → Int32 → Int32 → Int32 → St → Prop
  | 0, _, _, _, _ => False
  | n + 1, x1, x2, x3, σ => (((152 : Int32) ≤ x3 → (∃ fu13 : Nat, w_X5_keep_65 Q fu13 x1 x2 (0 : Int32) σ)) ∧ (¬ (152 : Int32) ≤ x3 → vp_in (((152 : Int32) * x1) + x3) 1064 ∧ vp_in (((152 : Int32) * x2) + x3) 1824 ∧ ∀ σ16 : St, σ16 = uI σ 11 (ix (((152 : Int32) * x2) + x3)) (gI σ 7 (ix (((152 : Int32) * x1) + x3))) → ∀ y17 : Int32, y17 = x3 + (1 : Int32) → (w_X5_keep_26 Q n x1 x2 y17 σ16)))
set_option maxRecDepth 100000 in
set_option maxHeartbeats 4000000 in
theorem b_X5_keep_26 {p : Program} {l : Launch} {e : Env} {s : State} {m : MethodId} {args : Array Value} {below : List Frame} {meth : Method} {c : Code} {D : va_G} {cA : Nat → ClassId} {A : Nat → Prop} {ad0 : Nat → Nat} {Q : St → Prop} (X : Cx p rmX5_keep s m args meth c cX5_keep 4 RX5 D cA A) (hr : meth.sig.returnType = none) : ∀ (n : Nat) (x1 : Int32) (x2 : Int32) (x3 : Int32) (σ : St), w_X5_keep_26 Q n x1 x2 x3 σ → G p l e rmX5_keep s m args below meth c 4 D cA A (MQ below (va_Qv Q (EndW D cA ad0 shR) A) args s 0 0 A) 0 0 (fun ad => ad = ad0) shR σ [(0, .ref 0), (1, .int x1), (2, .int x2), (3, .int x3)] 26 [] := by
  intro n
  induction n with
  | zero => intro x1 x2 x3 σ h; exact h.elim
  | succ n ih =>
    intro x1 x2 x3 σ h
    rw [w_X5_keep_26] at h
    refine g_iload_n X 3 dX5_keep_26 rfl rfl ?_
    refine g_sipush X (152 : Int32) dX5_keep_27 (by decide) ?_
    refine g_icmp_ge X 63 dX5_keep_30 (by decide) (fun hc => ?_) (fun hc => ?_)
    · have h := h.1 hc
      refine g_iconst X (0 : Int32) dX5_keep_63 (by decide) ?_
      refine g_istore_n X [(3, .int (0 : Int32)), (0, .ref 0), (1, .int x1), (2, .int x2)] dX5_keep_64 rfl (Nat.le_of_ble_eq_true rfl) rfl ?_
      refine g_weak [1, 2, 3, 0] rfl ?_
      obtain ⟨fu13, h⟩ := h
      exact b_X5_keep_65 X hr fu13 _ _ _ _ h
    · have h := h.2 hc
      refine g_aload_n X 0 dX5_keep_33 rfl rfl ?_
      refine g_getR X (C := RX5) (T := TX5) (N := 23) 12 dX5_keep_34 (Nat.le_of_ble_eq_true rfl) rfl rfl rfl inG5 (Nat.le_of_ble_eq_true rfl) rfl rfl q581 ?_
      refine g_sipush X (152 : Int32) dX5_keep_37 (by decide) ?_
      refine g_iload_n X 2 dX5_keep_40 rfl rfl ?_
      refine g_imul X dX5_keep_41 ?_
      refine g_iload_n X 3 dX5_keep_42 rfl rfl ?_
      refine g_iadd X dX5_keep_43 ?_
      refine g_aload_n X 0 dX5_keep_44 rfl rfl ?_
      refine g_getR X (C := RX5) (T := TX5) (N := 23) 7 dX5_keep_45 (Nat.le_of_ble_eq_true rfl) rfl rfl rfl inG5 (Nat.le_of_ble_eq_true rfl) rfl rfl q576 ?_
      refine g_sipush X (152 : Int32) dX5_keep_48 (by decide) ?_
      refine g_iload_n X 1 dX5_keep_51 rfl rfl ?_
      refine g_imul X dX5_keep_52 ?_
      refine g_iload_n X 3 dX5_keep_53 rfl rfl ?_
      refine g_iadd X dX5_keep_54 ?_
      obtain ⟨hi14, h⟩ := h
      refine g_iald X dX5_keep_55 (Nat.le_of_ble_eq_true rfl) rfl hi14 ?_
      obtain ⟨hi15, h⟩ := h
      refine g_iast X dX5_keep_56 (Nat.le_of_ble_eq_true rfl) rfl hi15 ?_
      refine g_nameS (fun σ16 eσ16 => ?_)
      have h := h σ16 eσ16
      obtain ⟨y17, ey17⟩ : ∃ y : Int32, y = x3 + (1 : Int32) := ⟨_, rfl⟩
      have h := h y17 ey17
      refine g_iinc X 3 (1 : Int32) [(3, .int y17), (0, .ref 0), (1, .int x1), (2, .int x2)] dX5_keep_57 rfl (by decide) (Nat.le_of_ble_eq_true rfl) (by rw [ey17]; rfl) ?_
      refine g_goto X 26 dX5_keep_60 (by decide) ?_
      refine g_weak [1, 2, 3, 0] rfl ?_
      exact ih _ _ _ _ h
def w_X5_keep (Q : St → Prop) (x1 : Int32) (σ : St) : Prop := ∀ y1 : Int32, y1 = (gI σ 0 14) → vp_in y1 12 ∧ ∀ σ3 : St, σ3 = uI σ 9 (ix y1) x1 → vp_in x1 7 ∧ vp_in y1 12 ∧ ∀ σ6 : St, σ6 = uI σ3 10 (ix y1) (gI σ3 6 (ix x1)) → (∃ fu18 : Nat, w_X5_keep_26 Q fu18 x1 y1 (0 : Int32) σ6)
set_option maxRecDepth 100000 in
set_option maxHeartbeats 4000000 in
theorem b_X5_keep_0 {p : Program} {l : Launch} {e : Env} {s : State} {m : MethodId} {args : Array Value} {below : List Frame} {meth : Method} {c : Code} {D : va_G} {cA : Nat → ClassId} {A : Nat → Prop} {ad0 : Nat → Nat} {Q : St → Prop} {x1 : Int32} {σ : St} (X : Cx p rmX5_keep s m args meth c cX5_keep 4 RX5 D cA A) (hr : meth.sig.returnType = none) (h : w_X5_keep Q x1 σ) : G p l e rmX5_keep s m args below meth c 4 D cA A (MQ below (va_Qv Q (EndW D cA ad0 shR) A) args s 0 0 A) 0 0 (fun ad => ad = ad0) shR σ [(0, .ref 0), (1, .int x1)] 0 [] := by
  unfold w_X5_keep at h
  refine g_aload_n X 0 dX5_keep_0 rfl rfl ?_
  refine g_getI X (C := RX5) (T := TX5) (N := 23) 14 dX5_keep_1 (Nat.le_of_ble_eq_true rfl) rfl rfl rfl inG5 (Nat.le_of_ble_eq_true rfl) rfl q583 ?_
  refine g_nameI (fun y1 ey1 => ?_)
  have h := h y1 ey1
  refine g_istore_n X [(2, .int y1), (0, .ref 0), (1, .int x1)] dX5_keep_4 rfl (Nat.le_of_ble_eq_true rfl) rfl ?_
  refine g_aload_n X 1 dX5_keep_5 rfl rfl ?_
  refine g_getR X (C := RX5) (T := TX5) (N := 23) 10 dX5_keep_6 (Nat.le_of_ble_eq_true rfl) rfl rfl rfl inG5 (Nat.le_of_ble_eq_true rfl) rfl rfl q579 ?_
  refine g_iload_n X 0 dX5_keep_9 rfl rfl ?_
  refine g_iload_n X 2 dX5_keep_10 rfl rfl ?_
  obtain ⟨hi2, h⟩ := h
  refine g_iast X dX5_keep_11 (Nat.le_of_ble_eq_true rfl) rfl hi2 ?_
  refine g_nameS (fun σ3 eσ3 => ?_)
  have h := h σ3 eσ3
  refine g_aload_n X 1 dX5_keep_12 rfl rfl ?_
  refine g_getR X (C := RX5) (T := TX5) (N := 23) 11 dX5_keep_13 (Nat.le_of_ble_eq_true rfl) rfl rfl rfl inG5 (Nat.le_of_ble_eq_true rfl) rfl rfl q580 ?_
  refine g_iload_n X 0 dX5_keep_16 rfl rfl ?_
  refine g_aload_n X 1 dX5_keep_17 rfl rfl ?_
  refine g_getR X (C := RX5) (T := TX5) (N := 23) 6 dX5_keep_18 (Nat.le_of_ble_eq_true rfl) rfl rfl rfl inG5 (Nat.le_of_ble_eq_true rfl) rfl rfl q575 ?_
  refine g_iload_n X 2 dX5_keep_21 rfl rfl ?_
  obtain ⟨hi4, h⟩ := h
  refine g_iald X dX5_keep_22 (Nat.le_of_ble_eq_true rfl) rfl hi4 ?_
  obtain ⟨hi5, h⟩ := h
  refine g_iast X dX5_keep_23 (Nat.le_of_ble_eq_true rfl) rfl hi5 ?_
  refine g_nameS (fun σ6 eσ6 => ?_)
  have h := h σ6 eσ6
  refine g_iconst X (0 : Int32) dX5_keep_24 (by decide) ?_
  refine g_istore_n X [(3, .int (0 : Int32)), (2, .int y1), (0, .ref 0), (1, .int x1)] dX5_keep_25 rfl (Nat.le_of_ble_eq_true rfl) rfl ?_
  refine g_weak [2, 3, 1, 0] rfl ?_
  obtain ⟨fu18, h⟩ := h
  exact b_X5_keep_26 X hr fu18 _ _ _ _ h
theorem c_X5_keep (l : Launch) (D : va_G) (cA : Nat → ClassId) {x1 : Int32} {σ : St} {Q : St → Prop} (h : w_X5_keep Q x1 σ) : CtV l yX5_keep cX5_keep 4 (none) rmX5_keep D cA shR [.ref 0, .int x1] σ Q := by
  refine CtV.of (own := RX5) rfl (by decide +kernel) [(0, .ref 0), (1, .int x1)] rfl (Nat.le_of_ble_eq_true rfl) ?_
  intro p e s m args below meth c ad0 A X hr
  exact b_X5_keep_0 X hr  h
def rmX5_undo : Room := { frames := 0, cells := 0, slots := 0, locals := 0 }
def w_X5_undo_105 (Q : Int32 → St → Prop) : Nat → Int32 → Int32 → Int32 → St → Prop
  | 0, _, _, _, _ => False
  | n + 1, x1, x2, x3, σ => (((3 : Int32) ≤ x3 → (Q x2 σ)) ∧ (¬ (3 : Int32) ≤ x3 → vp_in (((3 : Int32) * x1) + x3) 36 ∧ vp_in (((3 : Int32) * x2) + x3) 21 ∧ ∀ σ12 : St, σ12 = uI σ 8 (ix (((3 : Int32) * x2) + x3)) (gI σ 12 (ix (((3 : Int32) * x1) + x3))) → ∀ y13 : Int32, y13 = x3 + (1 : Int32) → (w_X5_undo_105 Q n x1 x2 y13 σ12)))
set_option maxRecDepth 100000 in
set_option maxHeartbeats 4000000 in
theorem b_X5_undo_105 {p : Program} {l : Launch} {e : Env} {s : State} {m : MethodId} {args : Array Value} {below : List Frame} {meth : Method} {c : Code} {D : va_G} {cA : Nat → ClassId} {A : Nat → Prop} {ad0 : Nat → Nat} {Q : Int32 → St → Prop} (X : Cx p rmX5_undo s m args meth c cX5_undo 4 RX5 D cA A) (hr : meth.sig.returnType = some .int) : ∀ (n : Nat) (x1 : Int32) (x2 : Int32) (x3 : Int32) (σ : St), w_X5_undo_105 Q n x1 x2 x3 σ → G p l e rmX5_undo s m args below meth c 4 D cA A (MQ below (va_Qi Q (EndW D cA ad0 shR) A) args s 0 0 A) 0 0 (fun ad => ad = ad0) shR σ [(0, .ref 0), (1, .int x1), (2, .int x2), (3, .int x3)] 105 [] := by
  intro n
  induction n with
  | zero => intro x1 x2 x3 σ h; exact h.elim
  | succ n ih =>
    intro x1 x2 x3 σ h
    rw [w_X5_undo_105] at h
    refine g_iload_n X 3 dX5_undo_105 rfl rfl ?_
    refine g_iconst X (3 : Int32) dX5_undo_106 (by decide) ?_
    refine g_icmp_ge X 136 dX5_undo_107 (by decide) (fun hc => ?_) (fun hc => ?_)
    · have h := h.1 hc
      refine g_iload_n X 2 dX5_undo_136 rfl rfl ?_
      exact g_iret X hr dX5_undo_137 rfl h
    · have h := h.2 hc
      refine g_aload_n X 0 dX5_undo_110 rfl rfl ?_
      refine g_getR X (C := RX5) (T := TX5) (N := 23) 8 dX5_undo_111 (Nat.le_of_ble_eq_true rfl) rfl rfl rfl inG5 (Nat.le_of_ble_eq_true rfl) rfl rfl q577 ?_
      refine g_iconst X (3 : Int32) dX5_undo_114 (by decide) ?_
      refine g_iload_n X 2 dX5_undo_115 rfl rfl ?_
      refine g_imul X dX5_undo_116 ?_
      refine g_iload_n X 3 dX5_undo_117 rfl rfl ?_
      refine g_iadd X dX5_undo_118 ?_
      refine g_aload_n X 0 dX5_undo_119 rfl rfl ?_
      refine g_getR X (C := RX5) (T := TX5) (N := 23) 13 dX5_undo_120 (Nat.le_of_ble_eq_true rfl) rfl rfl rfl inG5 (Nat.le_of_ble_eq_true rfl) rfl rfl q582 ?_
      refine g_iconst X (3 : Int32) dX5_undo_123 (by decide) ?_
      refine g_iload_n X 1 dX5_undo_124 rfl rfl ?_
      refine g_imul X dX5_undo_125 ?_
      refine g_iload_n X 3 dX5_undo_126 rfl rfl ?_
      refine g_iadd X dX5_undo_127 ?_
      obtain ⟨hi10, h⟩ := h
      refine g_iald X dX5_undo_128 (Nat.le_of_ble_eq_true rfl) rfl hi10 ?_
      obtain ⟨hi11, h⟩ := h
      refine g_iast X dX5_undo_129 (Nat.le_of_ble_eq_true rfl) rfl hi11 ?_
      refine g_nameS (fun σ12 eσ12 => ?_)
      have h := h σ12 eσ12
      obtain ⟨y13, ey13⟩ : ∃ y : Int32, y = x3 + (1 : Int32) := ⟨_, rfl⟩
      have h := h y13 ey13
      refine g_iinc X 3 (1 : Int32) [(3, .int y13), (0, .ref 0), (1, .int x1), (2, .int x2)] dX5_undo_130 rfl (by decide) (Nat.le_of_ble_eq_true rfl) (by rw [ey13]; rfl) ?_
      refine g_goto X 105 dX5_undo_133 (by decide) ?_
      refine g_weak [1, 2, 3, 0] rfl ?_
      exact ih _ _ _ _ h
def w_X5_undo_66 (Q : Int32 → St → Prop) : Nat → Int32 → Int32 → Int32 → St → Prop
  | 0, _, _, _, _ => False
  | n + 1, x1, x2, x3, σ => (((152 : Int32) ≤ x3 → (∃ fu14 : Nat, w_X5_undo_105 Q fu14 x1 x2 (0 : Int32) σ)) ∧ (¬ (152 : Int32) ≤ x3 → vp_in (((152 : Int32) * x1) + x3) 1824 ∧ vp_in (((152 : Int32) * x2) + x3) 1064 ∧ ∀ σ17 : St, σ17 = uI σ 7 (ix (((152 : Int32) * x2) + x3)) (gI σ 11 (ix (((152 : Int32) * x1) + x3))) → ∀ y18 : Int32, y18 = x3 + (1 : Int32) → (w_X5_undo_66 Q n x1 x2 y18 σ17)))
set_option maxRecDepth 100000 in
set_option maxHeartbeats 4000000 in
theorem b_X5_undo_66 {p : Program} {l : Launch} {e : Env} {s : State} {m : MethodId} {args : Array Value} {below : List Frame} {meth : Method} {c : Code} {D : va_G} {cA : Nat → ClassId} {A : Nat → Prop} {ad0 : Nat → Nat} {Q : Int32 → St → Prop} (X : Cx p rmX5_undo s m args meth c cX5_undo 4 RX5 D cA A) (hr : meth.sig.returnType = some .int) : ∀ (n : Nat) (x1 : Int32) (x2 : Int32) (x3 : Int32) (σ : St), w_X5_undo_66 Q n x1 x2 x3 σ → G p l e rmX5_undo s m args below meth c 4 D cA A (MQ below (va_Qi Q (EndW D cA ad0 shR) A) args s 0 0 A) 0 0 (fun ad => ad = ad0) shR σ [(0, .ref 0), (1, .int x1), (2, .int x2), (3, .int x3)] 66 [] := by
  intro n
  induction n with
  | zero => intro x1 x2 x3 σ h; exact h.elim
  | succ n ih =>
    intro x1 x2 x3 σ h
    rw [w_X5_undo_66] at h
    refine g_iload_n X 3 dX5_undo_66 rfl rfl ?_
    refine g_sipush X (152 : Int32) dX5_undo_67 (by decide) ?_
    refine g_icmp_ge X 103 dX5_undo_70 (by decide) (fun hc => ?_) (fun hc => ?_)
    · have h := h.1 hc
      refine g_iconst X (0 : Int32) dX5_undo_103 (by decide) ?_
      refine g_istore_n X [(3, .int (0 : Int32)), (0, .ref 0), (1, .int x1), (2, .int x2)] dX5_undo_104 rfl (Nat.le_of_ble_eq_true rfl) rfl ?_
      refine g_weak [1, 2, 3, 0] rfl ?_
      obtain ⟨fu14, h⟩ := h
      exact b_X5_undo_105 X hr fu14 _ _ _ _ h
    · have h := h.2 hc
      refine g_aload_n X 0 dX5_undo_73 rfl rfl ?_
      refine g_getR X (C := RX5) (T := TX5) (N := 23) 7 dX5_undo_74 (Nat.le_of_ble_eq_true rfl) rfl rfl rfl inG5 (Nat.le_of_ble_eq_true rfl) rfl rfl q576 ?_
      refine g_sipush X (152 : Int32) dX5_undo_77 (by decide) ?_
      refine g_iload_n X 2 dX5_undo_80 rfl rfl ?_
      refine g_imul X dX5_undo_81 ?_
      refine g_iload_n X 3 dX5_undo_82 rfl rfl ?_
      refine g_iadd X dX5_undo_83 ?_
      refine g_aload_n X 0 dX5_undo_84 rfl rfl ?_
      refine g_getR X (C := RX5) (T := TX5) (N := 23) 12 dX5_undo_85 (Nat.le_of_ble_eq_true rfl) rfl rfl rfl inG5 (Nat.le_of_ble_eq_true rfl) rfl rfl q581 ?_
      refine g_sipush X (152 : Int32) dX5_undo_88 (by decide) ?_
      refine g_iload_n X 1 dX5_undo_91 rfl rfl ?_
      refine g_imul X dX5_undo_92 ?_
      refine g_iload_n X 3 dX5_undo_93 rfl rfl ?_
      refine g_iadd X dX5_undo_94 ?_
      obtain ⟨hi15, h⟩ := h
      refine g_iald X dX5_undo_95 (Nat.le_of_ble_eq_true rfl) rfl hi15 ?_
      obtain ⟨hi16, h⟩ := h
      refine g_iast X dX5_undo_96 (Nat.le_of_ble_eq_true rfl) rfl hi16 ?_
      refine g_nameS (fun σ17 eσ17 => ?_)
      have h := h σ17 eσ17
      obtain ⟨y18, ey18⟩ : ∃ y : Int32, y = x3 + (1 : Int32) := ⟨_, rfl⟩
      have h := h y18 ey18
      refine g_iinc X 3 (1 : Int32) [(3, .int y18), (0, .ref 0), (1, .int x1), (2, .int x2)] dX5_undo_97 rfl (by decide) (Nat.le_of_ble_eq_true rfl) (by rw [ey18]; rfl) ?_
      refine g_goto X 66 dX5_undo_100 (by decide) ?_
      refine g_weak [1, 2, 3, 0] rfl ?_
      exact ih _ _ _ _ h
def w_X5_undo (Q : Int32 → St → Prop) (σ : St) : Prop := ∀ σ1 : St, σ1 = uI σ 0 0 (0 : Int32) → ((¬ (gI σ1 0 15) = 0 → ∀ σ2 : St, σ2 = uI σ1 0 14 ((((gI σ1 0 14) + (12 : Int32)) - (1 : Int32)) - (((gI σ1 0 14) + (12 : Int32)) - (1 : Int32)) / (12 : Int32) * (12 : Int32)) → ∀ σ3 : St, σ3 = uI σ2 0 15 ((gI σ2 0 15) - (1 : Int32)) → ∀ y4 : Int32, y4 = (gI σ3 0 14) → vp_in y4 12 ∧ ∀ y6 : Int32, y6 = (gI σ3 9 (ix y4)) → vp_in y4 12 ∧ vp_in y6 7 ∧ ∀ σ9 : St, σ9 = uI σ3 6 (ix y6) (gI σ3 10 (ix y4)) → (∃ fu19 : Nat, w_X5_undo_66 Q fu19 y4 y6 (0 : Int32) σ9)) ∧ ((gI σ1 0 15) = 0 → (Q (-1 : Int32) σ1)))
set_option maxRecDepth 100000 in
set_option maxHeartbeats 4000000 in
theorem b_X5_undo_0 {p : Program} {l : Launch} {e : Env} {s : State} {m : MethodId} {args : Array Value} {below : List Frame} {meth : Method} {c : Code} {D : va_G} {cA : Nat → ClassId} {A : Nat → Prop} {ad0 : Nat → Nat} {Q : Int32 → St → Prop} {σ : St} (X : Cx p rmX5_undo s m args meth c cX5_undo 4 RX5 D cA A) (hr : meth.sig.returnType = some .int) (h : w_X5_undo Q  σ) : G p l e rmX5_undo s m args below meth c 4 D cA A (MQ below (va_Qi Q (EndW D cA ad0 shR) A) args s 0 0 A) 0 0 (fun ad => ad = ad0) shR σ [(0, .ref 0)] 0 [] := by
  unfold w_X5_undo at h
  refine g_aload_n X 0 dX5_undo_0 rfl rfl ?_
  refine g_iconst X (0 : Int32) dX5_undo_1 (by decide) ?_
  refine g_putI X (C := RX5) (T := TX5) (N := 23) (ty0 := tyX5) 0 dX5_undo_2 (Nat.le_of_ble_eq_true rfl) rfl rfl rfl inG5 tyX5_ok nmX5 (Nat.le_of_ble_eq_true rfl) rfl rfl q569 rfl rfl ?_
  refine g_nameS (fun σ1 eσ1 => ?_)
  have h := h σ1 eσ1
  refine g_aload_n X 0 dX5_undo_5 rfl rfl ?_
  refine g_getI X (C := RX5) (T := TX5) (N := 23) 15 dX5_undo_6 (Nat.le_of_ble_eq_true rfl) rfl rfl rfl inG5 (Nat.le_of_ble_eq_true rfl) rfl q584 ?_
  refine g_if_ne X 14 dX5_undo_9 (by decide) (fun hc => ?_) (fun hc => ?_)
  · have h := h.1 hc
    refine g_aload_n X 0 dX5_undo_14 rfl rfl ?_
    refine g_aload_n X 0 dX5_undo_15 rfl rfl ?_
    refine g_getI X (C := RX5) (T := TX5) (N := 23) 14 dX5_undo_16 (Nat.le_of_ble_eq_true rfl) rfl rfl rfl inG5 (Nat.le_of_ble_eq_true rfl) rfl q583 ?_
    refine g_bipush X (12 : Int32) dX5_undo_19 (by decide) ?_
    refine g_iadd X dX5_undo_21 ?_
    refine g_iconst X (1 : Int32) dX5_undo_22 (by decide) ?_
    refine g_isub X dX5_undo_23 ?_
    refine g_bipush X (12 : Int32) dX5_undo_24 (by decide) ?_
    refine g_irem X dX5_undo_26 (by decide) ?_
    refine g_putI X (C := RX5) (T := TX5) (N := 23) (ty0 := tyX5) 14 dX5_undo_27 (Nat.le_of_ble_eq_true rfl) rfl rfl rfl inG5 tyX5_ok nmX5 (Nat.le_of_ble_eq_true rfl) rfl rfl q583 rfl rfl ?_
    refine g_nameS (fun σ2 eσ2 => ?_)
    have h := h σ2 eσ2
    refine g_aload_n X 0 dX5_undo_30 rfl rfl ?_
    refine g_dup X dX5_undo_31 rfl ?_
    refine g_getI X (C := RX5) (T := TX5) (N := 23) 15 dX5_undo_32 (Nat.le_of_ble_eq_true rfl) rfl rfl rfl inG5 (Nat.le_of_ble_eq_true rfl) rfl q584 ?_
    refine g_iconst X (1 : Int32) dX5_undo_35 (by decide) ?_
    refine g_isub X dX5_undo_36 ?_
    refine g_putI X (C := RX5) (T := TX5) (N := 23) (ty0 := tyX5) 15 dX5_undo_37 (Nat.le_of_ble_eq_true rfl) rfl rfl rfl inG5 tyX5_ok nmX5 (Nat.le_of_ble_eq_true rfl) rfl rfl q584 rfl rfl ?_
    refine g_nameS (fun σ3 eσ3 => ?_)
    have h := h σ3 eσ3
    refine g_aload_n X 0 dX5_undo_40 rfl rfl ?_
    refine g_getI X (C := RX5) (T := TX5) (N := 23) 14 dX5_undo_41 (Nat.le_of_ble_eq_true rfl) rfl rfl rfl inG5 (Nat.le_of_ble_eq_true rfl) rfl q583 ?_
    refine g_nameI (fun y4 ey4 => ?_)
    have h := h y4 ey4
    refine g_istore_n X [(1, .int y4), (0, .ref 0)] dX5_undo_44 rfl (Nat.le_of_ble_eq_true rfl) rfl ?_
    refine g_aload_n X 1 dX5_undo_45 rfl rfl ?_
    refine g_getR X (C := RX5) (T := TX5) (N := 23) 10 dX5_undo_46 (Nat.le_of_ble_eq_true rfl) rfl rfl rfl inG5 (Nat.le_of_ble_eq_true rfl) rfl rfl q579 ?_
    refine g_iload_n X 0 dX5_undo_49 rfl rfl ?_
    obtain ⟨hi5, h⟩ := h
    refine g_iald X dX5_undo_50 (Nat.le_of_ble_eq_true rfl) rfl hi5 ?_
    refine g_nameI (fun y6 ey6 => ?_)
    have h := h y6 ey6
    refine g_istore_n X [(2, .int y6), (1, .int y4), (0, .ref 0)] dX5_undo_51 rfl (Nat.le_of_ble_eq_true rfl) rfl ?_
    refine g_aload_n X 2 dX5_undo_52 rfl rfl ?_
    refine g_getR X (C := RX5) (T := TX5) (N := 23) 6 dX5_undo_53 (Nat.le_of_ble_eq_true rfl) rfl rfl rfl inG5 (Nat.le_of_ble_eq_true rfl) rfl rfl q575 ?_
    refine g_iload_n X 0 dX5_undo_56 rfl rfl ?_
    refine g_aload_n X 2 dX5_undo_57 rfl rfl ?_
    refine g_getR X (C := RX5) (T := TX5) (N := 23) 11 dX5_undo_58 (Nat.le_of_ble_eq_true rfl) rfl rfl rfl inG5 (Nat.le_of_ble_eq_true rfl) rfl rfl q580 ?_
    refine g_iload_n X 1 dX5_undo_61 rfl rfl ?_
    obtain ⟨hi7, h⟩ := h
    refine g_iald X dX5_undo_62 (Nat.le_of_ble_eq_true rfl) rfl hi7 ?_
    obtain ⟨hi8, h⟩ := h
    refine g_iast X dX5_undo_63 (Nat.le_of_ble_eq_true rfl) rfl hi8 ?_
    refine g_nameS (fun σ9 eσ9 => ?_)
    have h := h σ9 eσ9
    refine g_iconst X (0 : Int32) dX5_undo_64 (by decide) ?_
    refine g_istore_n X [(3, .int (0 : Int32)), (2, .int y6), (1, .int y4), (0, .ref 0)] dX5_undo_65 rfl (Nat.le_of_ble_eq_true rfl) rfl ?_
    refine g_weak [3, 2, 1, 0] rfl ?_
    obtain ⟨fu19, h⟩ := h
    exact b_X5_undo_66 X hr fu19 _ _ _ _ h
  · have h := h.2 hc
    refine g_iconst X (-1 : Int32) dX5_undo_12 (by decide) ?_
    exact g_iret X hr dX5_undo_13 rfl h
theorem c_X5_undo (l : Launch) (D : va_G) (cA : Nat → ClassId) {σ : St} {Q : Int32 → St → Prop} (h : w_X5_undo Q  σ) : CtI l yX5_undo cX5_undo 4 (some .int) rmX5_undo D cA shR [.ref 0] σ Q := by
  refine CtI.of (own := RX5) rfl (by decide +kernel) [(0, .ref 0)] rfl (Nat.le_of_ble_eq_true rfl) ?_
  intro p e s m args below meth c ad0 A X hr
  exact b_X5_undo_0 X hr  h
def rmX5_blank : Room := { frames := 0, cells := 0, slots := 0, locals := 0 }
def w_X5_blank_30 (Q : St → Prop) : Nat → Int32 → Int32 → St → Prop
  | 0, _, _, _ => False
  | n + 1, x1, x2, σ => (((3 : Int32) ≤ x2 → (Q σ)) ∧ (¬ (3 : Int32) ≤ x2 → vp_in (((3 : Int32) * x1) + x2) 21 ∧ ∀ σ2 : St, σ2 = uI σ 8 (ix (((3 : Int32) * x1) + x2)) (0 : Int32) → ∀ y3 : Int32, y3 = x2 + (1 : Int32) → (w_X5_blank_30 Q n x1 y3 σ2)))
set_option maxRecDepth 100000 in
set_option maxHeartbeats 4000000 in
theorem b_X5_blank_30 {p : Program} {l : Launch} {e : Env} {s : State} {m : MethodId} {args : Array Value} {below : List Frame} {meth : Method} {c : Code} {D : va_G} {cA : Nat → ClassId} {A : Nat → Prop} {ad0 : Nat → Nat} {Q : St → Prop} (X : Cx p rmX5_blank s m args meth c cX5_blank 3 RX5 D cA A) (hr : meth.sig.returnType = none) : ∀ (n : Nat) (x1 : Int32) (x2 : Int32) (σ : St), w_X5_blank_30 Q n x1 x2 σ → G p l e rmX5_blank s m args below meth c 3 D cA A (MQ below (va_Qv Q (EndW D cA ad0 shR) A) args s 0 0 A) 0 0 (fun ad => ad = ad0) shR σ [(0, .ref 0), (1, .int x1), (2, .int x2)] 30 [] := by
  intro n
  induction n with
  | zero => intro x1 x2 σ h; exact h.elim
  | succ n ih =>
    intro x1 x2 σ h
    rw [w_X5_blank_30] at h
    refine g_iload_n X 2 dX5_blank_30 rfl rfl ?_
    refine g_iconst X (3 : Int32) dX5_blank_31 (by decide) ?_
    refine g_icmp_ge X 52 dX5_blank_32 (by decide) (fun hc => ?_) (fun hc => ?_)
    · have h := h.1 hc
      exact g_vret X hr dX5_blank_52 h
    · have h := h.2 hc
      refine g_aload_n X 0 dX5_blank_35 rfl rfl ?_
      refine g_getR X (C := RX5) (T := TX5) (N := 23) 8 dX5_blank_36 (Nat.le_of_ble_eq_true rfl) rfl rfl rfl inG5 (Nat.le_of_ble_eq_true rfl) rfl rfl q577 ?_
      refine g_iconst X (3 : Int32) dX5_blank_39 (by decide) ?_
      refine g_iload_n X 1 dX5_blank_40 rfl rfl ?_
      refine g_imul X dX5_blank_41 ?_
      refine g_iload_n X 2 dX5_blank_42 rfl rfl ?_
      refine g_iadd X dX5_blank_43 ?_
      refine g_iconst X (0 : Int32) dX5_blank_44 (by decide) ?_
      obtain ⟨hi1, h⟩ := h
      refine g_iast X dX5_blank_45 (Nat.le_of_ble_eq_true rfl) rfl hi1 ?_
      refine g_nameS (fun σ2 eσ2 => ?_)
      have h := h σ2 eσ2
      obtain ⟨y3, ey3⟩ : ∃ y : Int32, y = x2 + (1 : Int32) := ⟨_, rfl⟩
      have h := h y3 ey3
      refine g_iinc X 2 (1 : Int32) [(2, .int y3), (0, .ref 0), (1, .int x1)] dX5_blank_46 rfl (by decide) (Nat.le_of_ble_eq_true rfl) (by rw [ey3]; rfl) ?_
      refine g_goto X 30 dX5_blank_49 (by decide) ?_
      refine g_weak [1, 2, 0] rfl ?_
      exact ih _ _ _ h
def w_X5_blank_2 (Q : St → Prop) : Nat → Int32 → Int32 → St → Prop
  | 0, _, _, _ => False
  | n + 1, x1, x2, σ => (((152 : Int32) ≤ x2 → (∃ fu4 : Nat, w_X5_blank_30 Q fu4 x1 (0 : Int32) σ)) ∧ (¬ (152 : Int32) ≤ x2 → vp_in (((152 : Int32) * x1) + x2) 1064 ∧ ∀ σ6 : St, σ6 = uI σ 7 (ix (((152 : Int32) * x1) + x2)) (0 : Int32) → ∀ y7 : Int32, y7 = x2 + (1 : Int32) → (w_X5_blank_2 Q n x1 y7 σ6)))
set_option maxRecDepth 100000 in
set_option maxHeartbeats 4000000 in
theorem b_X5_blank_2 {p : Program} {l : Launch} {e : Env} {s : State} {m : MethodId} {args : Array Value} {below : List Frame} {meth : Method} {c : Code} {D : va_G} {cA : Nat → ClassId} {A : Nat → Prop} {ad0 : Nat → Nat} {Q : St → Prop} (X : Cx p rmX5_blank s m args meth c cX5_blank 3 RX5 D cA A) (hr : meth.sig.returnType = none) : ∀ (n : Nat) (x1 : Int32) (x2 : Int32) (σ : St), w_X5_blank_2 Q n x1 x2 σ → G p l e rmX5_blank s m args below meth c 3 D cA A (MQ below (va_Qv Q (EndW D cA ad0 shR) A) args s 0 0 A) 0 0 (fun ad => ad = ad0) shR σ [(0, .ref 0), (1, .int x1), (2, .int x2)] 2 [] := by
  intro n
  induction n with
  | zero => intro x1 x2 σ h; exact h.elim
  | succ n ih =>
    intro x1 x2 σ h
    rw [w_X5_blank_2] at h
    refine g_iload_n X 2 dX5_blank_2 rfl rfl ?_
    refine g_sipush X (152 : Int32) dX5_blank_3 (by decide) ?_
    refine g_icmp_ge X 28 dX5_blank_6 (by decide) (fun hc => ?_) (fun hc => ?_)
    · have h := h.1 hc
      refine g_iconst X (0 : Int32) dX5_blank_28 (by decide) ?_
      refine g_istore_n X [(2, .int (0 : Int32)), (0, .ref 0), (1, .int x1)] dX5_blank_29 rfl (Nat.le_of_ble_eq_true rfl) rfl ?_
      refine g_weak [1, 2, 0] rfl ?_
      obtain ⟨fu4, h⟩ := h
      exact b_X5_blank_30 X hr fu4 _ _ _ h
    · have h := h.2 hc
      refine g_aload_n X 0 dX5_blank_9 rfl rfl ?_
      refine g_getR X (C := RX5) (T := TX5) (N := 23) 7 dX5_blank_10 (Nat.le_of_ble_eq_true rfl) rfl rfl rfl inG5 (Nat.le_of_ble_eq_true rfl) rfl rfl q576 ?_
      refine g_sipush X (152 : Int32) dX5_blank_13 (by decide) ?_
      refine g_iload_n X 1 dX5_blank_16 rfl rfl ?_
      refine g_imul X dX5_blank_17 ?_
      refine g_iload_n X 2 dX5_blank_18 rfl rfl ?_
      refine g_iadd X dX5_blank_19 ?_
      refine g_iconst X (0 : Int32) dX5_blank_20 (by decide) ?_
      obtain ⟨hi5, h⟩ := h
      refine g_iast X dX5_blank_21 (Nat.le_of_ble_eq_true rfl) rfl hi5 ?_
      refine g_nameS (fun σ6 eσ6 => ?_)
      have h := h σ6 eσ6
      obtain ⟨y7, ey7⟩ : ∃ y : Int32, y = x2 + (1 : Int32) := ⟨_, rfl⟩
      have h := h y7 ey7
      refine g_iinc X 2 (1 : Int32) [(2, .int y7), (0, .ref 0), (1, .int x1)] dX5_blank_22 rfl (by decide) (Nat.le_of_ble_eq_true rfl) (by rw [ey7]; rfl) ?_
      refine g_goto X 2 dX5_blank_25 (by decide) ?_
      refine g_weak [1, 2, 0] rfl ?_
      exact ih _ _ _ h
def w_X5_blank (Q : St → Prop) (x1 : Int32) (σ : St) : Prop := (∃ fu8 : Nat, w_X5_blank_2 Q fu8 x1 (0 : Int32) σ)
set_option maxRecDepth 100000 in
set_option maxHeartbeats 4000000 in
theorem b_X5_blank_0 {p : Program} {l : Launch} {e : Env} {s : State} {m : MethodId} {args : Array Value} {below : List Frame} {meth : Method} {c : Code} {D : va_G} {cA : Nat → ClassId} {A : Nat → Prop} {ad0 : Nat → Nat} {Q : St → Prop} {x1 : Int32} {σ : St} (X : Cx p rmX5_blank s m args meth c cX5_blank 3 RX5 D cA A) (hr : meth.sig.returnType = none) (h : w_X5_blank Q x1 σ) : G p l e rmX5_blank s m args below meth c 3 D cA A (MQ below (va_Qv Q (EndW D cA ad0 shR) A) args s 0 0 A) 0 0 (fun ad => ad = ad0) shR σ [(0, .ref 0), (1, .int x1)] 0 [] := by
  unfold w_X5_blank at h
  refine g_iconst X (0 : Int32) dX5_blank_0 (by decide) ?_
  refine g_istore_n X [(2, .int (0 : Int32)), (0, .ref 0), (1, .int x1)] dX5_blank_1 rfl (Nat.le_of_ble_eq_true rfl) rfl ?_
  refine g_weak [1, 2, 0] rfl ?_
  obtain ⟨fu8, h⟩ := h
  exact b_X5_blank_2 X hr fu8 _ _ _ h
theorem c_X5_blank (l : Launch) (D : va_G) (cA : Nat → ClassId) {x1 : Int32} {σ : St} {Q : St → Prop} (h : w_X5_blank Q x1 σ) : CtV l yX5_blank cX5_blank 3 (none) rmX5_blank D cA shR [.ref 0, .int x1] σ Q := by
  refine CtV.of (own := RX5) rfl (by decide +kernel) [(0, .ref 0), (1, .int x1)] rfl (Nat.le_of_ble_eq_true rfl) ?_
  intro p e s m args below meth c ad0 A X hr
  exact b_X5_blank_0 X hr  h
def rmX5_keeper : Room := { frames := 2, cells := 0, slots := 0, locals := 45 }
def w_X5_keeper (Q : Int32 → St → Prop) (x1 : Int32) (x2 : Int32) (σ : St) : Prop := ∀ σ1 : St, σ1 = uI σ 0 0 (0 : Int32) → w_X5_isKeeper (fun r3 σ2 => ((r3 = 0 → (Q (-3 : Int32) σ2)) ∧ (¬ r3 = 0 → w_X5_in (fun r5 σ4 => ((¬ r5 = 0 → w_X5_keep (fun σ6 => vp_in x1 7 ∧ ∀ σ8 : St, σ8 = uI σ6 6 (ix x1) x2 → w_X5_blank (fun σ9 => (Q (0 : Int32) σ9)) x1 σ8) x1 σ4) ∧ (r5 = 0 → (Q (-3 : Int32) σ4)))) (x2.toInt64) (0 : Int64) (2 : Int64) σ2))) x1 σ1
set_option maxRecDepth 100000 in
set_option maxHeartbeats 4000000 in
theorem b_X5_keeper_0 {p : Program} {l : Launch} {e : Env} {s : State} {m : MethodId} {args : Array Value} {below : List Frame} {meth : Method} {c : Code} {D : va_G} {cA : Nat → ClassId} {A : Nat → Prop} {ad0 : Nat → Nat} {Q : Int32 → St → Prop} {x1 : Int32} {x2 : Int32} {σ : St} (X : Cx p rmX5_keeper s m args meth c cX5_keeper 3 RX5 D cA A) (hr : meth.sig.returnType = some .int) (h : w_X5_keeper Q x1 x2 σ) : G p l e rmX5_keeper s m args below meth c 3 D cA A (MQ below (va_Qi Q (EndW D cA ad0 shR) A) args s 0 0 A) 0 0 (fun ad => ad = ad0) shR σ [(0, .ref 0), (1, .int x1), (2, .int x2)] 0 [] := by
  unfold w_X5_keeper at h
  refine g_aload_n X 0 dX5_keeper_0 rfl rfl ?_
  refine g_iconst X (0 : Int32) dX5_keeper_1 (by decide) ?_
  refine g_putI X (C := RX5) (T := TX5) (N := 23) (ty0 := tyX5) 0 dX5_keeper_2 (Nat.le_of_ble_eq_true rfl) rfl rfl rfl inG5 tyX5_ok nmX5 (Nat.le_of_ble_eq_true rfl) rfl rfl q569 rfl rfl ?_
  refine g_nameS (fun σ1 eσ1 => ?_)
  have h := h σ1 eσ1
  refine g_iload_n X 1 dX5_keeper_5 rfl rfl ?_
  refine g_callSI X (n := 1) [.int x1] [] dX5_keeper_6 (c_X5_isKeeper l D cA shR h) q731 q732 q57 q733 ⟨by decide, by decide, by decide +kernel⟩ rfl rfl (Nat.le_of_ble_eq_true rfl) rfl rfl ⟨(Nat.le_of_ble_eq_true rfl), (Nat.le_of_ble_eq_true rfl)⟩ (Nat.le_of_ble_eq_true rfl) (Nat.le_of_ble_eq_true rfl) (fun r3 σ2 h => ?_)
  refine g_if_eq X 24 dX5_keeper_9 (by decide) (fun hc => ?_) (fun hc => ?_)
  · have h := h.1 hc
    refine g_bipush X (-3 : Int32) dX5_keeper_24 (by decide) ?_
    exact g_iret X hr dX5_keeper_26 rfl h
  · have h := h.2 hc
    refine g_iload_n X 2 dX5_keeper_12 rfl rfl ?_
    refine g_i2l X dX5_keeper_13 ?_
    refine g_lconst X (0 : Int64) dX5_keeper_14 (by decide) ?_
    refine g_ldc2 X q734 dX5_keeper_15 ?_
    refine g_callSI X (n := 3) [.long (x2.toInt64), .long (0 : Int64), .long (2 : Int64)] [] dX5_keeper_18 (c_X5_in l D cA shR h) q648 q649 q57 q650 ⟨by decide, by decide, by decide +kernel⟩ rfl rfl (Nat.le_of_ble_eq_true rfl) rfl rfl ⟨(Nat.le_of_ble_eq_true rfl), (Nat.le_of_ble_eq_true rfl)⟩ (Nat.le_of_ble_eq_true rfl) (Nat.le_of_ble_eq_true rfl) (fun r5 σ4 h => ?_)
    refine g_if_ne X 27 dX5_keeper_21 (by decide) (fun hc => ?_) (fun hc => ?_)
    · have h := h.1 hc
      refine g_aload_n X 0 dX5_keeper_27 rfl rfl ?_
      refine g_iload_n X 1 dX5_keeper_28 rfl rfl ?_
      refine g_callVV X (C := RX5) (T := TX5) (N := 23) (n := 1) [.int x1] [] dX5_keeper_29 (c_X5_keep l D cA h) q735 q737 q24 q57 q738 (Nat.le_of_ble_eq_true rfl) rfl rfl ⟨rfl, by decide, by decide, by decide +kernel⟩ rfl rfl (Nat.le_of_ble_eq_true rfl) rfl rfl ⟨(Nat.le_of_ble_eq_true rfl), (Nat.le_of_ble_eq_true rfl)⟩ (Nat.le_of_ble_eq_true rfl) (Nat.le_of_ble_eq_true rfl) (fun σ6 h => ?_)
      refine g_aload_n X 0 dX5_keeper_32 rfl rfl ?_
      refine g_getR X (C := RX5) (T := TX5) (N := 23) 6 dX5_keeper_33 (Nat.le_of_ble_eq_true rfl) rfl rfl rfl inG5 (Nat.le_of_ble_eq_true rfl) rfl rfl q575 ?_
      refine g_iload_n X 1 dX5_keeper_36 rfl rfl ?_
      refine g_iload_n X 2 dX5_keeper_37 rfl rfl ?_
      obtain ⟨hi7, h⟩ := h
      refine g_iast X dX5_keeper_38 (Nat.le_of_ble_eq_true rfl) rfl hi7 ?_
      refine g_nameS (fun σ8 eσ8 => ?_)
      have h := h σ8 eσ8
      refine g_aload_n X 0 dX5_keeper_39 rfl rfl ?_
      refine g_iload_n X 1 dX5_keeper_40 rfl rfl ?_
      refine g_callVV X (C := RX5) (T := TX5) (N := 23) (n := 1) [.int x1] [] dX5_keeper_41 (c_X5_blank l D cA h) q739 q741 q25 q57 q742 (Nat.le_of_ble_eq_true rfl) rfl rfl ⟨rfl, by decide, by decide, by decide +kernel⟩ rfl rfl (Nat.le_of_ble_eq_true rfl) rfl rfl ⟨(Nat.le_of_ble_eq_true rfl), (Nat.le_of_ble_eq_true rfl)⟩ (Nat.le_of_ble_eq_true rfl) (Nat.le_of_ble_eq_true rfl) (fun σ9 h => ?_)
      refine g_iconst X (0 : Int32) dX5_keeper_44 (by decide) ?_
      exact g_iret X hr dX5_keeper_45 rfl h
    · have h := h.2 hc
      refine g_bipush X (-3 : Int32) dX5_keeper_24 (by decide) ?_
      exact g_iret X hr dX5_keeper_26 rfl h
theorem c_X5_keeper (l : Launch) (D : va_G) (cA : Nat → ClassId) {x1 : Int32} {x2 : Int32} {σ : St} {Q : Int32 → St → Prop} (h : w_X5_keeper Q x1 x2 σ) : CtI l yX5_keeper cX5_keeper 3 (some .int) rmX5_keeper D cA shR [.ref 0, .int x1, .int x2] σ Q := by
  refine CtI.of (own := RX5) rfl (by decide +kernel) [(0, .ref 0), (1, .int x1), (2, .int x2)] rfl (Nat.le_of_ble_eq_true rfl) ?_
  intro p e s m args below meth c ad0 A X hr
  exact b_X5_keeper_0 X hr  h
def rmX5_see_ : Room := { frames := 0, cells := 0, slots := 0, locals := 0 }
def w_X5_see__42 (Q : St → Prop) (s0 : Int64) (s1 : Int32) (σ : St) : Prop := vp_in s1 21 ∧ ∀ σ4 : St, σ4 = uI σ 8 (ix s1) (s0.toInt32) → (Q σ4)
set_option maxRecDepth 100000 in
set_option maxHeartbeats 4000000 in
theorem b_X5_see__42 {p : Program} {l : Launch} {e : Env} {s : State} {m : MethodId} {args : Array Value} {below : List Frame} {meth : Method} {c : Code} {D : va_G} {cA : Nat → ClassId} {A : Nat → Prop} {ad0 : Nat → Nat} {Q : St → Prop} {s0 : Int64} {s1 : Int32} {σ : St} (X : Cx p rmX5_see_ s m args meth c cX5_see_ 6 RX5 D cA A) (hr : meth.sig.returnType = none) (h : w_X5_see__42 Q s0 s1 σ) : G p l e rmX5_see_ s m args below meth c 6 D cA A (MQ below (va_Qv Q (EndW D cA ad0 shR) A) args s 0 0 A) 0 0 (fun ad => ad = ad0) shR σ [] 42 [.long s0, .int s1, .ref 8] := by
  unfold w_X5_see__42 at h
  refine g_l2i X dX5_see__42 ?_
  obtain ⟨hi3, h⟩ := h
  refine g_iast X dX5_see__43 (Nat.le_of_ble_eq_true rfl) rfl hi3 ?_
  refine g_nameS (fun σ4 eσ4 => ?_)
  have h := h σ4 eσ4
  exact g_vret X hr dX5_see__44 h
def w_X5_see_ (Q : St → Prop) (x1 : Int32) (x2 : Int32) (x3 : Int32) (σ : St) : Prop := vp_in (((3 : Int32) * x1) + x2) 21 ∧ ∀ y2 : Int64, y2 = (((gI σ 8 (ix (((3 : Int32) * x1) + x2))).toInt64) + (x3.toInt64)) → ((y2 ≤ (1000000000 : Int64) → (w_X5_see__42 Q y2 (((3 : Int32) * x1) + x2) σ)) ∧ (¬ y2 ≤ (1000000000 : Int64) → (w_X5_see__42 Q (1000000000 : Int64) (((3 : Int32) * x1) + x2) σ)))
set_option maxRecDepth 100000 in
set_option maxHeartbeats 4000000 in
theorem b_X5_see__0 {p : Program} {l : Launch} {e : Env} {s : State} {m : MethodId} {args : Array Value} {below : List Frame} {meth : Method} {c : Code} {D : va_G} {cA : Nat → ClassId} {A : Nat → Prop} {ad0 : Nat → Nat} {Q : St → Prop} {x1 : Int32} {x2 : Int32} {x3 : Int32} {σ : St} (X : Cx p rmX5_see_ s m args meth c cX5_see_ 6 RX5 D cA A) (hr : meth.sig.returnType = none) (h : w_X5_see_ Q x1 x2 x3 σ) : G p l e rmX5_see_ s m args below meth c 6 D cA A (MQ below (va_Qv Q (EndW D cA ad0 shR) A) args s 0 0 A) 0 0 (fun ad => ad = ad0) shR σ [(0, .ref 0), (1, .int x1), (2, .int x2), (3, .int x3)] 0 [] := by
  unfold w_X5_see_ at h
  refine g_aload_n X 0 dX5_see__0 rfl rfl ?_
  refine g_getR X (C := RX5) (T := TX5) (N := 23) 8 dX5_see__1 (Nat.le_of_ble_eq_true rfl) rfl rfl rfl inG5 (Nat.le_of_ble_eq_true rfl) rfl rfl q577 ?_
  refine g_iconst X (3 : Int32) dX5_see__4 (by decide) ?_
  refine g_iload_n X 1 dX5_see__5 rfl rfl ?_
  refine g_imul X dX5_see__6 ?_
  refine g_iload_n X 2 dX5_see__7 rfl rfl ?_
  refine g_iadd X dX5_see__8 ?_
  obtain ⟨hi1, h⟩ := h
  refine g_iald X dX5_see__9 (Nat.le_of_ble_eq_true rfl) rfl hi1 ?_
  refine g_i2l X dX5_see__10 ?_
  refine g_iload_n X 3 dX5_see__11 rfl rfl ?_
  refine g_i2l X dX5_see__12 ?_
  refine g_ladd X dX5_see__13 ?_
  refine g_nameJ (fun y2 ey2 => ?_)
  have h := h y2 ey2
  refine g_lstore X [(4, .long y2), (0, .ref 0), (1, .int x1), (2, .int x2), (3, .int x3)] dX5_see__14 (Nat.le_of_ble_eq_true rfl) rfl ?_
  refine g_aload_n X 1 dX5_see__16 rfl rfl ?_
  refine g_getR X (C := RX5) (T := TX5) (N := 23) 8 dX5_see__17 (Nat.le_of_ble_eq_true rfl) rfl rfl rfl inG5 (Nat.le_of_ble_eq_true rfl) rfl rfl q577 ?_
  refine g_iconst X (3 : Int32) dX5_see__20 (by decide) ?_
  refine g_iload_n X 2 dX5_see__21 rfl rfl ?_
  refine g_imul X dX5_see__22 ?_
  refine g_iload_n X 3 dX5_see__23 rfl rfl ?_
  refine g_iadd X dX5_see__24 ?_
  refine g_lload X 0 dX5_see__25 rfl ?_
  refine g_ldc2 X q768 dX5_see__27 ?_
  refine g_lcmp X dX5_see__30 ?_
  refine g_if_le X 40 dX5_see__31 (by decide) (fun hc => ?_) (fun hc => ?_)
  · have h := h.1 (lgc_le.mp hc)
    refine g_lload X 0 dX5_see__40 rfl ?_
    refine g_weak [] rfl ?_
    exact b_X5_see__42 X hr h
  · have h := h.2 (fun z => hc (lgc_le.mpr z))
    refine g_ldc2 X q768 dX5_see__34 ?_
    refine g_goto X 42 dX5_see__37 (by decide) ?_
    refine g_weak [] rfl ?_
    exact b_X5_see__42 X hr h
theorem c_X5_see_ (l : Launch) (D : va_G) (cA : Nat → ClassId) {x1 : Int32} {x2 : Int32} {x3 : Int32} {σ : St} {Q : St → Prop} (h : w_X5_see_ Q x1 x2 x3 σ) : CtV l yX5_see_ cX5_see_ 6 (none) rmX5_see_ D cA shR [.ref 0, .int x1, .int x2, .int x3] σ Q := by
  refine CtV.of (own := RX5) rfl (by decide +kernel) [(0, .ref 0), (1, .int x1), (2, .int x2), (3, .int x3)] rfl (Nat.le_of_ble_eq_true rfl) ?_
  intro p e s m args below meth c ad0 A X hr
  exact b_X5_see__0 X hr  h
def rmX5_carry : Room := { frames := 0, cells := 0, slots := 0, locals := 0 }
def w_X5_carry (Q : Int64 → St → Prop) (x1 : Int32) (x2 : Int64) (x4 : Int64) (σ : St) : Prop := vp_in x1 1064 ∧ ∀ y2 : Int64, y2 = (((((gI σ 7 (ix x1)).toInt64) &&& (4294967295 : Int64)) + x2) + x4) → vp_in x1 1064 ∧ ∀ σ4 : St, σ4 = uI σ 7 (ix x1) (y2.toInt32) → (Q (lushrF y2 (32 : Int32)) σ4)
set_option maxRecDepth 100000 in
set_option maxHeartbeats 4000000 in
theorem b_X5_carry_0 {p : Program} {l : Launch} {e : Env} {s : State} {m : MethodId} {args : Array Value} {below : List Frame} {meth : Method} {c : Code} {D : va_G} {cA : Nat → ClassId} {A : Nat → Prop} {ad0 : Nat → Nat} {Q : Int64 → St → Prop} {x1 : Int32} {x2 : Int64} {x4 : Int64} {σ : St} (X : Cx p rmX5_carry s m args meth c cX5_carry 8 RX5 D cA A) (hr : meth.sig.returnType = some .long) (h : w_X5_carry Q x1 x2 x4 σ) : G p l e rmX5_carry s m args below meth c 8 D cA A (MQ below (va_Ql Q (EndW D cA ad0 shR) A) args s 0 0 A) 0 0 (fun ad => ad = ad0) shR σ [(0, .ref 0), (1, .int x1), (2, .long x2), (4, .long x4)] 0 [] := by
  unfold w_X5_carry at h
  refine g_aload_n X 0 dX5_carry_0 rfl rfl ?_
  refine g_getR X (C := RX5) (T := TX5) (N := 23) 7 dX5_carry_1 (Nat.le_of_ble_eq_true rfl) rfl rfl rfl inG5 (Nat.le_of_ble_eq_true rfl) rfl rfl q576 ?_
  refine g_iload_n X 1 dX5_carry_4 rfl rfl ?_
  obtain ⟨hi1, h⟩ := h
  refine g_iald X dX5_carry_5 (Nat.le_of_ble_eq_true rfl) rfl hi1 ?_
  refine g_i2l X dX5_carry_6 ?_
  refine g_ldc2 X q795 dX5_carry_7 ?_
  refine g_land X dX5_carry_10 ?_
  refine g_lload_n X 2 dX5_carry_11 rfl rfl ?_
  refine g_ladd X dX5_carry_12 ?_
  refine g_lload X 3 dX5_carry_13 rfl ?_
  refine g_ladd X dX5_carry_15 ?_
  refine g_nameJ (fun y2 ey2 => ?_)
  have h := h y2 ey2
  refine g_lstore X [(6, .long y2), (0, .ref 0), (1, .int x1), (2, .long x2), (4, .long x4)] dX5_carry_16 (Nat.le_of_ble_eq_true rfl) rfl ?_
  refine g_aload_n X 1 dX5_carry_18 rfl rfl ?_
  refine g_getR X (C := RX5) (T := TX5) (N := 23) 7 dX5_carry_19 (Nat.le_of_ble_eq_true rfl) rfl rfl rfl inG5 (Nat.le_of_ble_eq_true rfl) rfl rfl q576 ?_
  refine g_iload_n X 2 dX5_carry_22 rfl rfl ?_
  refine g_lload X 0 dX5_carry_23 rfl ?_
  refine g_l2i X dX5_carry_25 ?_
  obtain ⟨hi3, h⟩ := h
  refine g_iast X dX5_carry_26 (Nat.le_of_ble_eq_true rfl) rfl hi3 ?_
  refine g_nameS (fun σ4 eσ4 => ?_)
  have h := h σ4 eσ4
  refine g_lload X 0 dX5_carry_27 rfl ?_
  refine g_bipush X (32 : Int32) dX5_carry_29 (by decide) ?_
  refine g_lushr X dX5_carry_31 ?_
  exact g_lret X hr dX5_carry_32 h
theorem c_X5_carry (l : Launch) (D : va_G) (cA : Nat → ClassId) {x1 : Int32} {x2 : Int64} {x4 : Int64} {σ : St} {Q : Int64 → St → Prop} (h : w_X5_carry Q x1 x2 x4 σ) : CtL l yX5_carry cX5_carry 8 (some .long) rmX5_carry D cA shR [.ref 0, .int x1, .long x2, .long x4] σ Q := by
  refine CtL.of (own := RX5) rfl (by decide +kernel) [(0, .ref 0), (1, .int x1), (2, .long x2), (4, .long x4)] rfl (Nat.le_of_ble_eq_true rfl) ?_
  intro p e s m args below meth c ad0 A X hr
  exact b_X5_carry_0 X hr  h
def rmX5_addBits : Room := { frames := 1, cells := 0, slots := 0, locals := 27 }
def w_X5_addBits_179 (K37 : Int32 → Int64 → Int64 → Int32 → Int32 → Int32 → Int64 → Int32 → St → Prop) (Q : St → Prop) (x1 : Int32) (x2 : Int64) (x4 : Int64) (x7 : Int32) (x9 : Int32) (x10 : Int32) (x11 : Int64) (x13 : Int32) (s0 : Int64) (s1 : Int32) (σ : St) : Prop := w_X5_carry (fun r5 σ4 => ∀ y6 : Int32, y6 = x13 + (1 : Int32) → (K37 x1 x2 x4 x7 x9 x10 r5 y6 σ4)) s1 s0 x11 σ
set_option maxRecDepth 100000 in
set_option maxHeartbeats 4000000 in
theorem b_X5_addBits_179 {p : Program} {l : Launch} {e : Env} {s : State} {m : MethodId} {args : Array Value} {below : List Frame} {meth : Method} {c : Code} {D : va_G} {cA : Nat → ClassId} {A : Nat → Prop} {ad0 : Nat → Nat} {K37 : Int32 → Int64 → Int64 → Int32 → Int32 → Int32 → Int64 → Int32 → St → Prop} {Q : St → Prop} {x1 : Int32} {x2 : Int64} {x4 : Int64} {x7 : Int32} {x9 : Int32} {x10 : Int32} {x11 : Int64} {x13 : Int32} {s0 : Int64} {s1 : Int32} {σ : St} (X : Cx p rmX5_addBits s m args meth c cX5_addBits 20 RX5 D cA A) (hr : meth.sig.returnType = none) (hK37 : ∀ (x1 : Int32) (x2 : Int64) (x4 : Int64) (x7 : Int32) (x9 : Int32) (x10 : Int32) (x11 : Int64) (x13 : Int32) (σ : St), K37 x1 x2 x4 x7 x9 x10 x11 x13 σ → G p l e rmX5_addBits s m args below meth c 20 D cA A (MQ below (va_Qv Q (EndW D cA ad0 shR) A) args s 0 0 A) 0 0 (fun ad => ad = ad0) shR σ [(0, .ref 0), (1, .int x1), (2, .long x2), (4, .long x4), (7, .int x7), (9, .int x9), (10, .int x10), (11, .long x11), (13, .int x13)] 37 []) (h : w_X5_addBits_179 K37 Q x1 x2 x4 x7 x9 x10 x11 x13 s0 s1 σ) : G p l e rmX5_addBits s m args below meth c 20 D cA A (MQ below (va_Qv Q (EndW D cA ad0 shR) A) args s 0 0 A) 0 0 (fun ad => ad = ad0) shR σ [(0, .ref 0), (1, .int x1), (2, .long x2), (4, .long x4), (7, .int x7), (9, .int x9), (10, .int x10), (11, .long x11), (13, .int x13)] 179 [.long s0, .int s1, .ref 0] := by
  unfold w_X5_addBits_179 at h
  refine g_lload X 7 dX5_addBits_179 rfl ?_
  refine g_callVL X (C := RX5) (T := TX5) (N := 23) (n := 3) [.int s1, .long s0, .long x11] [] dX5_addBits_181 (c_X5_carry l D cA h) q796 q798 q35 q57 q799 (Nat.le_of_ble_eq_true rfl) rfl rfl ⟨rfl, by decide, by decide, by decide +kernel⟩ rfl rfl (Nat.le_of_ble_eq_true rfl) rfl rfl ⟨(Nat.le_of_ble_eq_true rfl), (Nat.le_of_ble_eq_true rfl)⟩ (Nat.le_of_ble_eq_true rfl) (Nat.le_of_ble_eq_true rfl) (fun r5 σ4 h => ?_)
  refine g_lstore X [(11, .long r5), (0, .ref 0), (1, .int x1), (2, .long x2), (4, .long x4), (7, .int x7), (9, .int x9), (10, .int x10), (13, .int x13)] dX5_addBits_184 (Nat.le_of_ble_eq_true rfl) rfl ?_
  obtain ⟨y6, ey6⟩ : ∃ y : Int32, y = x13 + (1 : Int32) := ⟨_, rfl⟩
  have h := h y6 ey6
  refine g_iinc X 8 (1 : Int32) [(13, .int y6), (11, .long r5), (0, .ref 0), (1, .int x1), (2, .long x2), (4, .long x4), (7, .int x7), (9, .int x9), (10, .int x10)] dX5_addBits_186 rfl (by decide) (Nat.le_of_ble_eq_true rfl) (by rw [ey6]; rfl) ?_
  refine g_goto X 37 dX5_addBits_189 (by decide) ?_
  refine g_weak [2, 3, 4, 5, 6, 7, 8, 1, 0] rfl ?_
  exact hK37 _ _ _ _ _ _ _ _ _ h
def w_X5_addBits_150 (K37 : Int32 → Int64 → Int64 → Int32 → Int32 → Int32 → Int64 → Int32 → St → Prop) (Q : St → Prop) (x1 : Int32) (x2 : Int64) (x4 : Int64) (x7 : Int32) (x9 : Int32) (x10 : Int32) (x11 : Int64) (x13 : Int32) (x14 : Int64) (σ : St) : Prop := ((x7 = 0 → (w_X5_addBits_179 (K37) Q x1 x2 x4 x7 x9 x10 x11 x13 x14 (((152 : Int32) * x1) + x13) σ)) ∧ (¬ x7 = 0 → (w_X5_addBits_179 (K37) Q x1 x2 x4 x7 x9 x10 x11 x13 ((x14 ^^^ (-1 : Int64)) &&& (4294967295 : Int64)) (((152 : Int32) * x1) + x13) σ)))
set_option maxRecDepth 100000 in
set_option maxHeartbeats 4000000 in
theorem b_X5_addBits_150 {p : Program} {l : Launch} {e : Env} {s : State} {m : MethodId} {args : Array Value} {below : List Frame} {meth : Method} {c : Code} {D : va_G} {cA : Nat → ClassId} {A : Nat → Prop} {ad0 : Nat → Nat} {K37 : Int32 → Int64 → Int64 → Int32 → Int32 → Int32 → Int64 → Int32 → St → Prop} {Q : St → Prop} {x1 : Int32} {x2 : Int64} {x4 : Int64} {x7 : Int32} {x9 : Int32} {x10 : Int32} {x11 : Int64} {x13 : Int32} {x14 : Int64} {σ : St} (X : Cx p rmX5_addBits s m args meth c cX5_addBits 20 RX5 D cA A) (hr : meth.sig.returnType = none) (hK37 : ∀ (x1 : Int32) (x2 : Int64) (x4 : Int64) (x7 : Int32) (x9 : Int32) (x10 : Int32) (x11 : Int64) (x13 : Int32) (σ : St), K37 x1 x2 x4 x7 x9 x10 x11 x13 σ → G p l e rmX5_addBits s m args below meth c 20 D cA A (MQ below (va_Qv Q (EndW D cA ad0 shR) A) args s 0 0 A) 0 0 (fun ad => ad = ad0) shR σ [(0, .ref 0), (1, .int x1), (2, .long x2), (4, .long x4), (7, .int x7), (9, .int x9), (10, .int x10), (11, .long x11), (13, .int x13)] 37 []) (h : w_X5_addBits_150 K37 Q x1 x2 x4 x7 x9 x10 x11 x13 x14 σ) : G p l e rmX5_addBits s m args below meth c 20 D cA A (MQ below (va_Qv Q (EndW D cA ad0 shR) A) args s 0 0 A) 0 0 (fun ad => ad = ad0) shR σ [(0, .ref 0), (1, .int x1), (2, .long x2), (4, .long x4), (7, .int x7), (9, .int x9), (10, .int x10), (11, .long x11), (13, .int x13), (14, .long x14)] 150 [] := by
  unfold w_X5_addBits_150 at h
  refine g_aload_n X 0 dX5_addBits_150 rfl rfl ?_
  refine g_sipush X (152 : Int32) dX5_addBits_151 (by decide) ?_
  refine g_iload_n X 1 dX5_addBits_154 rfl rfl ?_
  refine g_imul X dX5_addBits_155 ?_
  refine g_iload X 8 dX5_addBits_156 rfl ?_
  refine g_iadd X dX5_addBits_158 ?_
  refine g_iload X 4 dX5_addBits_159 rfl ?_
  refine g_if_eq X 177 dX5_addBits_161 (by decide) (fun hc => ?_) (fun hc => ?_)
  · have h := h.1 hc
    refine g_lload X 9 dX5_addBits_177 rfl ?_
    refine g_weak [0, 1, 2, 3, 4, 5, 6, 7, 8] rfl ?_
    exact b_X5_addBits_179 X hr (hK37) h
  · have h := h.2 hc
    refine g_lload X 9 dX5_addBits_164 rfl ?_
    refine g_ldc2 X q794 dX5_addBits_166 ?_
    refine g_lxor X dX5_addBits_169 ?_
    refine g_ldc2 X q795 dX5_addBits_170 ?_
    refine g_land X dX5_addBits_173 ?_
    refine g_goto X 179 dX5_addBits_174 (by decide) ?_
    refine g_weak [0, 1, 2, 3, 4, 5, 6, 7, 8] rfl ?_
    exact b_X5_addBits_179 X hr (hK37) h
def w_X5_addBits_132 (K51 : Int32 → Int64 → Int64 → Int32 → Int32 → Int32 → Int64 → Int32 → Int64 → Int32 → St → Prop) (Q : St → Prop) (x1 : Int32) (x2 : Int64) (x4 : Int64) (x7 : Int32) (x9 : Int32) (x10 : Int32) (x11 : Int64) (x13 : Int32) (x14 : Int64) (x16 : Int32) (s0 : Int64) (σ : St) : Prop := ∀ y8 : Int64, y8 = (x14 ||| (lshlF s0 x16)) → ∀ y9 : Int32, y9 = x16 + (1 : Int32) → (K51 x1 x2 x4 x7 x9 x10 x11 x13 y8 y9 σ)
set_option maxRecDepth 100000 in
set_option maxHeartbeats 4000000 in
theorem b_X5_addBits_132 {p : Program} {l : Launch} {e : Env} {s : State} {m : MethodId} {args : Array Value} {below : List Frame} {meth : Method} {c : Code} {D : va_G} {cA : Nat → ClassId} {A : Nat → Prop} {ad0 : Nat → Nat} {K51 : Int32 → Int64 → Int64 → Int32 → Int32 → Int32 → Int64 → Int32 → Int64 → Int32 → St → Prop} {Q : St → Prop} {x1 : Int32} {x2 : Int64} {x4 : Int64} {x7 : Int32} {x9 : Int32} {x10 : Int32} {x11 : Int64} {x13 : Int32} {x14 : Int64} {x16 : Int32} {s0 : Int64} {σ : St} (X : Cx p rmX5_addBits s m args meth c cX5_addBits 20 RX5 D cA A) (hr : meth.sig.returnType = none) (hK51 : ∀ (x1 : Int32) (x2 : Int64) (x4 : Int64) (x7 : Int32) (x9 : Int32) (x10 : Int32) (x11 : Int64) (x13 : Int32) (x14 : Int64) (x16 : Int32) (σ : St), K51 x1 x2 x4 x7 x9 x10 x11 x13 x14 x16 σ → G p l e rmX5_addBits s m args below meth c 20 D cA A (MQ below (va_Qv Q (EndW D cA ad0 shR) A) args s 0 0 A) 0 0 (fun ad => ad = ad0) shR σ [(0, .ref 0), (1, .int x1), (2, .long x2), (4, .long x4), (7, .int x7), (9, .int x9), (10, .int x10), (11, .long x11), (13, .int x13), (14, .long x14), (16, .int x16)] 51 []) (h : w_X5_addBits_132 K51 Q x1 x2 x4 x7 x9 x10 x11 x13 x14 x16 s0 σ) : G p l e rmX5_addBits s m args below meth c 20 D cA A (MQ below (va_Qv Q (EndW D cA ad0 shR) A) args s 0 0 A) 0 0 (fun ad => ad = ad0) shR σ [(0, .ref 0), (1, .int x1), (2, .long x2), (4, .long x4), (7, .int x7), (9, .int x9), (10, .int x10), (11, .long x11), (13, .int x13), (14, .long x14), (16, .int x16)] 132 [.long s0] := by
  unfold w_X5_addBits_132 at h
  refine g_lstore X [(18, .long s0), (0, .ref 0), (1, .int x1), (2, .long x2), (4, .long x4), (7, .int x7), (9, .int x9), (10, .int x10), (11, .long x11), (13, .int x13), (14, .long x14), (16, .int x16)] dX5_addBits_132 (Nat.le_of_ble_eq_true rfl) rfl ?_
  refine g_lload X 10 dX5_addBits_134 rfl ?_
  refine g_lload X 0 dX5_addBits_136 rfl ?_
  refine g_iload X 11 dX5_addBits_138 rfl ?_
  refine g_lshl X dX5_addBits_140 ?_
  refine g_lor X dX5_addBits_141 ?_
  refine g_nameJ (fun y8 ey8 => ?_)
  have h := h y8 ey8
  refine g_lstore X [(14, .long y8), (18, .long s0), (0, .ref 0), (1, .int x1), (2, .long x2), (4, .long x4), (7, .int x7), (9, .int x9), (10, .int x10), (11, .long x11), (13, .int x13), (16, .int x16)] dX5_addBits_142 (Nat.le_of_ble_eq_true rfl) rfl ?_
  obtain ⟨y9, ey9⟩ : ∃ y : Int32, y = x16 + (1 : Int32) := ⟨_, rfl⟩
  have h := h y9 ey9
  refine g_iinc X 11 (1 : Int32) [(16, .int y9), (14, .long y8), (18, .long s0), (0, .ref 0), (1, .int x1), (2, .long x2), (4, .long x4), (7, .int x7), (9, .int x9), (10, .int x10), (11, .long x11), (13, .int x13)] dX5_addBits_144 rfl (by decide) (Nat.le_of_ble_eq_true rfl) (by rw [ey9]; rfl) ?_
  refine g_goto X 51 dX5_addBits_147 (by decide) ?_
  refine g_weak [3, 4, 5, 6, 7, 8, 9, 10, 11, 1, 0] rfl ?_
  exact hK51 _ _ _ _ _ _ _ _ _ _ _ h
def w_X5_addBits_102 (K51 : Int32 → Int64 → Int64 → Int32 → Int32 → Int32 → Int64 → Int32 → Int64 → Int32 → St → Prop) (Q : St → Prop) (x1 : Int32) (x2 : Int64) (x4 : Int64) (x7 : Int32) (x9 : Int32) (x10 : Int32) (x11 : Int64) (x13 : Int32) (x14 : Int64) (x16 : Int32) (σ : St) : Prop := (w_X5_addBits_132 (K51) Q x1 x2 x4 x7 x9 x10 x11 x13 x14 x16 (0 : Int64) σ)
set_option maxRecDepth 100000 in
set_option maxHeartbeats 4000000 in
theorem b_X5_addBits_102 {p : Program} {l : Launch} {e : Env} {s : State} {m : MethodId} {args : Array Value} {below : List Frame} {meth : Method} {c : Code} {D : va_G} {cA : Nat → ClassId} {A : Nat → Prop} {ad0 : Nat → Nat} {K51 : Int32 → Int64 → Int64 → Int32 → Int32 → Int32 → Int64 → Int32 → Int64 → Int32 → St → Prop} {Q : St → Prop} {x1 : Int32} {x2 : Int64} {x4 : Int64} {x7 : Int32} {x9 : Int32} {x10 : Int32} {x11 : Int64} {x13 : Int32} {x14 : Int64} {x16 : Int32} {σ : St} (X : Cx p rmX5_addBits s m args meth c cX5_addBits 20 RX5 D cA A) (hr : meth.sig.returnType = none) (hK51 : ∀ (x1 : Int32) (x2 : Int64) (x4 : Int64) (x7 : Int32) (x9 : Int32) (x10 : Int32) (x11 : Int64) (x13 : Int32) (x14 : Int64) (x16 : Int32) (σ : St), K51 x1 x2 x4 x7 x9 x10 x11 x13 x14 x16 σ → G p l e rmX5_addBits s m args below meth c 20 D cA A (MQ below (va_Qv Q (EndW D cA ad0 shR) A) args s 0 0 A) 0 0 (fun ad => ad = ad0) shR σ [(0, .ref 0), (1, .int x1), (2, .long x2), (4, .long x4), (7, .int x7), (9, .int x9), (10, .int x10), (11, .long x11), (13, .int x13), (14, .long x14), (16, .int x16)] 51 []) (h : w_X5_addBits_102 K51 Q x1 x2 x4 x7 x9 x10 x11 x13 x14 x16 σ) : G p l e rmX5_addBits s m args below meth c 20 D cA A (MQ below (va_Qv Q (EndW D cA ad0 shR) A) args s 0 0 A) 0 0 (fun ad => ad = ad0) shR σ [(0, .ref 0), (1, .int x1), (2, .long x2), (4, .long x4), (7, .int x7), (9, .int x9), (10, .int x10), (11, .long x11), (13, .int x13), (14, .long x14), (16, .int x16)] 102 [] := by
  unfold w_X5_addBits_102 at h
  refine g_lconst X (0 : Int64) dX5_addBits_102 (by decide) ?_
  refine g_goto X 132 dX5_addBits_103 (by decide) ?_
  exact b_X5_addBits_132 X hr (hK51) h
def w_X5_addBits_51 (K37 : Int32 → Int64 → Int64 → Int32 → Int32 → Int32 → Int64 → Int32 → St → Prop) (Q : St → Prop) : Nat → Int32 → Int64 → Int64 → Int32 → Int32 → Int32 → Int64 → Int32 → Int64 → Int32 → St → Prop
  | 0, _, _, _, _, _, _, _, _, _, _, _ => False
  | n + 1, x1, x2, x4, x7, x9, x10, x11, x13, x14, x16, σ => (((32 : Int32) ≤ x16 → (w_X5_addBits_150 (K37) Q x1 x2 x4 x7 x9 x10 x11 x13 x14 σ)) ∧ (¬ (32 : Int32) ≤ x16 → ((x13 < x9 → (w_X5_addBits_150 (K37) Q x1 x2 x4 x7 x9 x10 x11 x13 x14 σ)) ∧ (¬ x13 < x9 → (((x9 + (5 : Int32)) ≤ x13 → (w_X5_addBits_150 (K37) Q x1 x2 x4 x7 x9 x10 x11 x13 x14 σ)) ∧ (¬ (x9 + (5 : Int32)) ≤ x13 → ∀ y7 : Int32, y7 = ((((32 : Int32) * (x13 - x9)) + x16) - x10) → ((y7 < 0 → (w_X5_addBits_102 (fun x1 x2 x4 x7 x9 x10 x11 x13 x14 x16 σ => w_X5_addBits_51 K37 Q n x1 x2 x4 x7 x9 x10 x11 x13 x14 x16 σ) Q x1 x2 x4 x7 x9 x10 x11 x13 x14 x16 σ)) ∧ (¬ y7 < 0 → ((y7 ≤ (127 : Int32) → (((64 : Int32) ≤ y7 → (w_X5_addBits_132 (fun x1 x2 x4 x7 x9 x10 x11 x13 x14 x16 σ => w_X5_addBits_51 K37 Q n x1 x2 x4 x7 x9 x10 x11 x13 x14 x16 σ) Q x1 x2 x4 x7 x9 x10 x11 x13 x14 x16 ((lushrF x2 (y7 - (64 : Int32))) &&& (1 : Int64)) σ)) ∧ (¬ (64 : Int32) ≤ y7 → (w_X5_addBits_132 (fun x1 x2 x4 x7 x9 x10 x11 x13 x14 x16 σ => w_X5_addBits_51 K37 Q n x1 x2 x4 x7 x9 x10 x11 x13 x14 x16 σ) Q x1 x2 x4 x7 x9 x10 x11 x13 x14 x16 ((lushrF x4 y7) &&& (1 : Int64)) σ)))) ∧ (¬ y7 ≤ (127 : Int32) → (w_X5_addBits_102 (fun x1 x2 x4 x7 x9 x10 x11 x13 x14 x16 σ => w_X5_addBits_51 K37 Q n x1 x2 x4 x7 x9 x10 x11 x13 x14 x16 σ) Q x1 x2 x4 x7 x9 x10 x11 x13 x14 x16 σ)))))))))))
set_option maxRecDepth 100000 in
set_option maxHeartbeats 4000000 in
theorem b_X5_addBits_51 {p : Program} {l : Launch} {e : Env} {s : State} {m : MethodId} {args : Array Value} {below : List Frame} {meth : Method} {c : Code} {D : va_G} {cA : Nat → ClassId} {A : Nat → Prop} {ad0 : Nat → Nat} {K37 : Int32 → Int64 → Int64 → Int32 → Int32 → Int32 → Int64 → Int32 → St → Prop} {Q : St → Prop} (X : Cx p rmX5_addBits s m args meth c cX5_addBits 20 RX5 D cA A) (hr : meth.sig.returnType = none) (hK37 : ∀ (x1 : Int32) (x2 : Int64) (x4 : Int64) (x7 : Int32) (x9 : Int32) (x10 : Int32) (x11 : Int64) (x13 : Int32) (σ : St), K37 x1 x2 x4 x7 x9 x10 x11 x13 σ → G p l e rmX5_addBits s m args below meth c 20 D cA A (MQ below (va_Qv Q (EndW D cA ad0 shR) A) args s 0 0 A) 0 0 (fun ad => ad = ad0) shR σ [(0, .ref 0), (1, .int x1), (2, .long x2), (4, .long x4), (7, .int x7), (9, .int x9), (10, .int x10), (11, .long x11), (13, .int x13)] 37 []) : ∀ (n : Nat) (x1 : Int32) (x2 : Int64) (x4 : Int64) (x7 : Int32) (x9 : Int32) (x10 : Int32) (x11 : Int64) (x13 : Int32) (x14 : Int64) (x16 : Int32) (σ : St), w_X5_addBits_51 K37 Q n x1 x2 x4 x7 x9 x10 x11 x13 x14 x16 σ → G p l e rmX5_addBits s m args below meth c 20 D cA A (MQ below (va_Qv Q (EndW D cA ad0 shR) A) args s 0 0 A) 0 0 (fun ad => ad = ad0) shR σ [(0, .ref 0), (1, .int x1), (2, .long x2), (4, .long x4), (7, .int x7), (9, .int x9), (10, .int x10), (11, .long x11), (13, .int x13), (14, .long x14), (16, .int x16)] 51 [] := by
  intro n
  induction n with
  | zero => intro x1 x2 x4 x7 x9 x10 x11 x13 x14 x16 σ h; exact h.elim
  | succ n ih =>
    intro x1 x2 x4 x7 x9 x10 x11 x13 x14 x16 σ h
    rw [w_X5_addBits_51] at h
    refine g_iload X 10 dX5_addBits_51 rfl ?_
    refine g_bipush X (32 : Int32) dX5_addBits_53 (by decide) ?_
    refine g_icmp_ge X 150 dX5_addBits_55 (by decide) (fun hc => ?_) (fun hc => ?_)
    · have h := h.1 hc
      refine g_weak [0, 1, 2, 3, 4, 5, 6, 7, 8, 9] rfl ?_
      exact b_X5_addBits_150 X hr (hK37) h
    · have h := h.2 hc
      refine g_iload X 8 dX5_addBits_58 rfl ?_
      refine g_iload X 5 dX5_addBits_60 rfl ?_
      refine g_icmp_lt X 150 dX5_addBits_62 (by decide) (fun hc => ?_) (fun hc => ?_)
      · have h := h.1 hc
        refine g_weak [0, 1, 2, 3, 4, 5, 6, 7, 8, 9] rfl ?_
        exact b_X5_addBits_150 X hr (hK37) h
      · have h := h.2 hc
        refine g_iload X 8 dX5_addBits_65 rfl ?_
        refine g_iload X 5 dX5_addBits_67 rfl ?_
        refine g_iconst X (5 : Int32) dX5_addBits_69 (by decide) ?_
        refine g_iadd X dX5_addBits_70 ?_
        refine g_icmp_ge X 150 dX5_addBits_71 (by decide) (fun hc => ?_) (fun hc => ?_)
        · have h := h.1 hc
          refine g_weak [0, 1, 2, 3, 4, 5, 6, 7, 8, 9] rfl ?_
          exact b_X5_addBits_150 X hr (hK37) h
        · have h := h.2 hc
          refine g_bipush X (32 : Int32) dX5_addBits_74 (by decide) ?_
          refine g_iload X 8 dX5_addBits_76 rfl ?_
          refine g_iload X 5 dX5_addBits_78 rfl ?_
          refine g_isub X dX5_addBits_80 ?_
          refine g_imul X dX5_addBits_81 ?_
          refine g_iload X 10 dX5_addBits_82 rfl ?_
          refine g_iadd X dX5_addBits_84 ?_
          refine g_iload X 6 dX5_addBits_85 rfl ?_
          refine g_isub X dX5_addBits_87 ?_
          refine g_nameI (fun y7 ey7 => ?_)
          have h := h y7 ey7
          refine g_istore X [(17, .int y7), (0, .ref 0), (1, .int x1), (2, .long x2), (4, .long x4), (7, .int x7), (9, .int x9), (10, .int x10), (11, .long x11), (13, .int x13), (14, .long x14), (16, .int x16)] dX5_addBits_88 (Nat.le_of_ble_eq_true rfl) rfl ?_
          refine g_iload X 0 dX5_addBits_90 rfl ?_
          refine g_if_lt X 102 dX5_addBits_92 (by decide) (fun hc => ?_) (fun hc => ?_)
          · have h := h.1 hc
            refine g_weak [1, 2, 3, 4, 5, 6, 7, 8, 9, 10, 11] rfl ?_
            exact b_X5_addBits_102 X hr (ih) h
          · have h := h.2 hc
            refine g_iload X 0 dX5_addBits_95 rfl ?_
            refine g_bipush X (127 : Int32) dX5_addBits_97 (by decide) ?_
            refine g_icmp_le X 106 dX5_addBits_99 (by decide) (fun hc => ?_) (fun hc => ?_)
            · have h := h.1 hc
              refine g_iload X 0 dX5_addBits_106 rfl ?_
              refine g_bipush X (64 : Int32) dX5_addBits_108 (by decide) ?_
              refine g_icmp_ge X 123 dX5_addBits_110 (by decide) (fun hc => ?_) (fun hc => ?_)
              · have h := h.1 hc
                refine g_lload_n X 3 dX5_addBits_123 rfl rfl ?_
                refine g_iload X 0 dX5_addBits_124 rfl ?_
                refine g_bipush X (64 : Int32) dX5_addBits_126 (by decide) ?_
                refine g_isub X dX5_addBits_128 ?_
                refine g_lushr X dX5_addBits_129 ?_
                refine g_lconst X (1 : Int64) dX5_addBits_130 (by decide) ?_
                refine g_land X dX5_addBits_131 ?_
                refine g_weak [1, 2, 3, 4, 5, 6, 7, 8, 9, 10, 11] rfl ?_
                exact b_X5_addBits_132 X hr (ih) h
              · have h := h.2 hc
                refine g_lload X 4 dX5_addBits_113 rfl ?_
                refine g_iload X 0 dX5_addBits_115 rfl ?_
                refine g_lushr X dX5_addBits_117 ?_
                refine g_lconst X (1 : Int64) dX5_addBits_118 (by decide) ?_
                refine g_land X dX5_addBits_119 ?_
                refine g_goto X 132 dX5_addBits_120 (by decide) ?_
                refine g_weak [1, 2, 3, 4, 5, 6, 7, 8, 9, 10, 11] rfl ?_
                exact b_X5_addBits_132 X hr (ih) h
            · have h := h.2 hc
              refine g_weak [1, 2, 3, 4, 5, 6, 7, 8, 9, 10, 11] rfl ?_
              exact b_X5_addBits_102 X hr (ih) h
def w_X5_addBits_37 (Q : St → Prop) : Nat → Int32 → Int64 → Int64 → Int32 → Int32 → Int32 → Int64 → Int32 → St → Prop
  | 0, _, _, _, _, _, _, _, _, _ => False
  | n + 1, x1, x2, x4, x7, x9, x10, x11, x13, σ => (((152 : Int32) ≤ x13 → (Q σ)) ∧ (¬ (152 : Int32) ≤ x13 → (∃ fu10 : Nat, w_X5_addBits_51 (fun x1 x2 x4 x7 x9 x10 x11 x13 σ => w_X5_addBits_37 Q n x1 x2 x4 x7 x9 x10 x11 x13 σ) Q fu10 x1 x2 x4 x7 x9 x10 x11 x13 (0 : Int64) (0 : Int32) σ)))
set_option maxRecDepth 100000 in
set_option maxHeartbeats 4000000 in
theorem b_X5_addBits_37 {p : Program} {l : Launch} {e : Env} {s : State} {m : MethodId} {args : Array Value} {below : List Frame} {meth : Method} {c : Code} {D : va_G} {cA : Nat → ClassId} {A : Nat → Prop} {ad0 : Nat → Nat} {Q : St → Prop} (X : Cx p rmX5_addBits s m args meth c cX5_addBits 20 RX5 D cA A) (hr : meth.sig.returnType = none) : ∀ (n : Nat) (x1 : Int32) (x2 : Int64) (x4 : Int64) (x7 : Int32) (x9 : Int32) (x10 : Int32) (x11 : Int64) (x13 : Int32) (σ : St), w_X5_addBits_37 Q n x1 x2 x4 x7 x9 x10 x11 x13 σ → G p l e rmX5_addBits s m args below meth c 20 D cA A (MQ below (va_Qv Q (EndW D cA ad0 shR) A) args s 0 0 A) 0 0 (fun ad => ad = ad0) shR σ [(0, .ref 0), (1, .int x1), (2, .long x2), (4, .long x4), (7, .int x7), (9, .int x9), (10, .int x10), (11, .long x11), (13, .int x13)] 37 [] := by
  intro n
  induction n with
  | zero => intro x1 x2 x4 x7 x9 x10 x11 x13 σ h; exact h.elim
  | succ n ih =>
    intro x1 x2 x4 x7 x9 x10 x11 x13 σ h
    rw [w_X5_addBits_37] at h
    refine g_iload X 8 dX5_addBits_37 rfl ?_
    refine g_sipush X (152 : Int32) dX5_addBits_39 (by decide) ?_
    refine g_icmp_ge X 192 dX5_addBits_42 (by decide) (fun hc => ?_) (fun hc => ?_)
    · have h := h.1 hc
      exact g_vret X hr dX5_addBits_192 h
    · have h := h.2 hc
      refine g_lconst X (0 : Int64) dX5_addBits_45 (by decide) ?_
      refine g_lstore X [(14, .long (0 : Int64)), (0, .ref 0), (1, .int x1), (2, .long x2), (4, .long x4), (7, .int x7), (9, .int x9), (10, .int x10), (11, .long x11), (13, .int x13)] dX5_addBits_46 (Nat.le_of_ble_eq_true rfl) rfl ?_
      refine g_iconst X (0 : Int32) dX5_addBits_48 (by decide) ?_
      refine g_istore X [(16, .int (0 : Int32)), (14, .long (0 : Int64)), (0, .ref 0), (1, .int x1), (2, .long x2), (4, .long x4), (7, .int x7), (9, .int x9), (10, .int x10), (11, .long x11), (13, .int x13)] dX5_addBits_49 (Nat.le_of_ble_eq_true rfl) rfl ?_
      refine g_weak [2, 3, 4, 5, 6, 7, 8, 9, 10, 1, 0] rfl ?_
      obtain ⟨fu10, h⟩ := h
      exact b_X5_addBits_51 X hr (ih) fu10 _ _ _ _ _ _ _ _ _ _ _ h
def w_X5_addBits_32 (Q : St → Prop) (x1 : Int32) (x2 : Int64) (x4 : Int64) (x7 : Int32) (x9 : Int32) (x10 : Int32) (s0 : Int64) (σ : St) : Prop := (∃ fu11 : Nat, w_X5_addBits_37 Q fu11 x1 x2 x4 x7 x9 x10 s0 (0 : Int32) σ)
set_option maxRecDepth 100000 in
set_option maxHeartbeats 4000000 in
theorem b_X5_addBits_32 {p : Program} {l : Launch} {e : Env} {s : State} {m : MethodId} {args : Array Value} {below : List Frame} {meth : Method} {c : Code} {D : va_G} {cA : Nat → ClassId} {A : Nat → Prop} {ad0 : Nat → Nat} {Q : St → Prop} {x1 : Int32} {x2 : Int64} {x4 : Int64} {x7 : Int32} {x9 : Int32} {x10 : Int32} {s0 : Int64} {σ : St} (X : Cx p rmX5_addBits s m args meth c cX5_addBits 20 RX5 D cA A) (hr : meth.sig.returnType = none) (h : w_X5_addBits_32 Q x1 x2 x4 x7 x9 x10 s0 σ) : G p l e rmX5_addBits s m args below meth c 20 D cA A (MQ below (va_Qv Q (EndW D cA ad0 shR) A) args s 0 0 A) 0 0 (fun ad => ad = ad0) shR σ [(0, .ref 0), (1, .int x1), (2, .long x2), (4, .long x4), (7, .int x7), (9, .int x9), (10, .int x10)] 32 [.long s0] := by
  unfold w_X5_addBits_32 at h
  refine g_lstore X [(11, .long s0), (0, .ref 0), (1, .int x1), (2, .long x2), (4, .long x4), (7, .int x7), (9, .int x9), (10, .int x10)] dX5_addBits_32 (Nat.le_of_ble_eq_true rfl) rfl ?_
  refine g_iconst X (0 : Int32) dX5_addBits_34 (by decide) ?_
  refine g_istore X [(13, .int (0 : Int32)), (11, .long s0), (0, .ref 0), (1, .int x1), (2, .long x2), (4, .long x4), (7, .int x7), (9, .int x9), (10, .int x10)] dX5_addBits_35 (Nat.le_of_ble_eq_true rfl) rfl ?_
  refine g_weak [2, 3, 4, 5, 6, 7, 8, 1, 0] rfl ?_
  obtain ⟨fu11, h⟩ := h
  exact b_X5_addBits_37 X hr fu11 _ _ _ _ _ _ _ _ _ h
def w_X5_addBits (Q : St → Prop) (x1 : Int32) (x2 : Int64) (x4 : Int64) (x6 : Int32) (x7 : Int32) (σ : St) : Prop := ∀ y1 : Int32, y1 = (x6 + (2148 : Int32)) → ∀ y2 : Int32, y2 = (y1 / (32 : Int32)) → ∀ y3 : Int32, y3 = (y1 - y1 / (32 : Int32) * (32 : Int32)) → ((x7 = 0 → (w_X5_addBits_32 Q x1 x2 x4 x7 y2 y3 (0 : Int64) σ)) ∧ (¬ x7 = 0 → (w_X5_addBits_32 Q x1 x2 x4 x7 y2 y3 (1 : Int64) σ)))
set_option maxRecDepth 100000 in
set_option maxHeartbeats 4000000 in
theorem b_X5_addBits_0 {p : Program} {l : Launch} {e : Env} {s : State} {m : MethodId} {args : Array Value} {below : List Frame} {meth : Method} {c : Code} {D : va_G} {cA : Nat → ClassId} {A : Nat → Prop} {ad0 : Nat → Nat} {Q : St → Prop} {x1 : Int32} {x2 : Int64} {x4 : Int64} {x6 : Int32} {x7 : Int32} {σ : St} (X : Cx p rmX5_addBits s m args meth c cX5_addBits 20 RX5 D cA A) (hr : meth.sig.returnType = none) (h : w_X5_addBits Q x1 x2 x4 x6 x7 σ) : G p l e rmX5_addBits s m args below meth c 20 D cA A (MQ below (va_Qv Q (EndW D cA ad0 shR) A) args s 0 0 A) 0 0 (fun ad => ad = ad0) shR σ [(0, .ref 0), (1, .int x1), (2, .long x2), (4, .long x4), (6, .int x6), (7, .int x7)] 0 [] := by
  unfold w_X5_addBits at h
  refine g_iload X 4 dX5_addBits_0 rfl ?_
  refine g_sipush X (2148 : Int32) dX5_addBits_2 (by decide) ?_
  refine g_iadd X dX5_addBits_5 ?_
  refine g_nameI (fun y1 ey1 => ?_)
  have h := h y1 ey1
  refine g_istore X [(8, .int y1), (0, .ref 0), (1, .int x1), (2, .long x2), (4, .long x4), (6, .int x6), (7, .int x7)] dX5_addBits_6 (Nat.le_of_ble_eq_true rfl) rfl ?_
  refine g_iload X 0 dX5_addBits_8 rfl ?_
  refine g_bipush X (32 : Int32) dX5_addBits_10 (by decide) ?_
  refine g_idiv X dX5_addBits_12 (by decide) ?_
  refine g_nameI (fun y2 ey2 => ?_)
  have h := h y2 ey2
  refine g_istore X [(9, .int y2), (8, .int y1), (0, .ref 0), (1, .int x1), (2, .long x2), (4, .long x4), (6, .int x6), (7, .int x7)] dX5_addBits_13 (Nat.le_of_ble_eq_true rfl) rfl ?_
  refine g_iload X 1 dX5_addBits_15 rfl ?_
  refine g_bipush X (32 : Int32) dX5_addBits_17 (by decide) ?_
  refine g_irem X dX5_addBits_19 (by decide) ?_
  refine g_nameI (fun y3 ey3 => ?_)
  have h := h y3 ey3
  refine g_istore X [(10, .int y3), (9, .int y2), (8, .int y1), (0, .ref 0), (1, .int x1), (2, .long x2), (4, .long x4), (6, .int x6), (7, .int x7)] dX5_addBits_20 (Nat.le_of_ble_eq_true rfl) rfl ?_
  refine g_iload X 8 dX5_addBits_22 rfl ?_
  refine g_if_eq X 31 dX5_addBits_24 (by decide) (fun hc => ?_) (fun hc => ?_)
  · have h := h.1 hc
    refine g_lconst X (0 : Int64) dX5_addBits_31 (by decide) ?_
    refine g_weak [3, 4, 5, 6, 8, 1, 0] rfl ?_
    exact b_X5_addBits_32 X hr h
  · have h := h.2 hc
    refine g_lconst X (1 : Int64) dX5_addBits_27 (by decide) ?_
    refine g_goto X 32 dX5_addBits_28 (by decide) ?_
    refine g_weak [3, 4, 5, 6, 8, 1, 0] rfl ?_
    exact b_X5_addBits_32 X hr h
theorem c_X5_addBits (l : Launch) (D : va_G) (cA : Nat → ClassId) {x1 : Int32} {x2 : Int64} {x4 : Int64} {x6 : Int32} {x7 : Int32} {σ : St} {Q : St → Prop} (h : w_X5_addBits Q x1 x2 x4 x6 x7 σ) : CtV l yX5_addBits cX5_addBits 20 (none) rmX5_addBits D cA shR [.ref 0, .int x1, .long x2, .long x4, .int x6, .int x7] σ Q := by
  refine CtV.of (own := RX5) rfl (by decide +kernel) [(0, .ref 0), (1, .int x1), (2, .long x2), (4, .long x4), (6, .int x6), (7, .int x7)] rfl (Nat.le_of_ble_eq_true rfl) ?_
  intro p e s m args below meth c ad0 A X hr
  exact b_X5_addBits_0 X hr  h
def rmX5_apart_ : Room := { frames := 0, cells := 0, slots := 0, locals := 0 }
def w_X5_apart__61 (Q : St → Prop) : Nat → UInt64 → St → Prop
  | 0, _, _ => False
  | n + 1, x3, σ => (((dcmpF x3 (FP.l2d (FP.d2l x3)) .l) = 0 → ∀ σ3 : St, σ3 = uJ σ 0 16 (FP.d2l x3) → (Q σ3)) ∧ (¬ (dcmpF x3 (FP.l2d (FP.d2l x3)) .l) = 0 → vf_n64 (FP.dmul x3 (4611686018427387904 : UInt64)) ∧ ∀ y4 : UInt64, y4 = (FP.dmul x3 (4611686018427387904 : UInt64)) → ∀ σ5 : St, σ5 = uI σ 0 17 ((gI σ 0 17) - (1 : Int32)) → (w_X5_apart__61 Q n y4 σ5)))
set_option maxRecDepth 100000 in
set_option maxHeartbeats 4000000 in
theorem b_X5_apart__61 {p : Program} {l : Launch} {e : Env} {s : State} {m : MethodId} {args : Array Value} {below : List Frame} {meth : Method} {c : Code} {D : va_G} {cA : Nat → ClassId} {A : Nat → Prop} {ad0 : Nat → Nat} {Q : St → Prop} (X : Cx p rmX5_apart_ s m args meth c cX5_apart_ 5 RX5 D cA A) (hr : meth.sig.returnType = none) : ∀ (n : Nat) (x3 : UInt64) (σ : St), w_X5_apart__61 Q n x3 σ → G p l e rmX5_apart_ s m args below meth c 5 D cA A (MQ below (va_Qv Q (EndW D cA ad0 shR) A) args s 0 0 A) 0 0 (fun ad => ad = ad0) shR σ [(0, .ref 0), (3, .double x3)] 61 [] := by
  intro n
  induction n with
  | zero => intro x3 σ h; exact h.elim
  | succ n ih =>
    intro x3 σ h
    rw [w_X5_apart__61] at h
    refine g_dload_n X 1 dX5_apart__61 rfl rfl ?_
    refine g_dload_n X 1 dX5_apart__62 rfl rfl ?_
    refine g_d2l X dX5_apart__63 ?_
    refine g_l2d X dX5_apart__64 ?_
    refine g_dcmp X dX5_apart__65 ?_
    refine g_if_eq X 88 dX5_apart__66 (by decide) (fun hc => ?_) (fun hc => ?_)
    · have h := h.1 hc
      refine g_aload_n X 0 dX5_apart__88 rfl rfl ?_
      refine g_dload_n X 1 dX5_apart__89 rfl rfl ?_
      refine g_d2l X dX5_apart__90 ?_
      refine g_putJ X (C := RX5) (T := TX5) (N := 23) (ty0 := tyX5) 16 dX5_apart__91 (Nat.le_of_ble_eq_true rfl) rfl rfl rfl inG5 tyX5_ok nmX5 (Nat.le_of_ble_eq_true rfl) rfl rfl q585 rfl rfl ?_
      refine g_nameS (fun σ3 eσ3 => ?_)
      have h := h σ3 eσ3
      exact g_vret X hr dX5_apart__94 h
    · have h := h.2 hc
      refine g_dload_n X 1 dX5_apart__69 rfl rfl ?_
      refine g_ldc2d X q675 dX5_apart__70 ?_
      obtain ⟨hc, h⟩ := h
      refine g_dmul X dX5_apart__73 hc ?_
      refine g_nameD (fun y4 ey4 => ?_)
      have h := h y4 ey4
      refine g_dstore_n X [(3, .double y4), (0, .ref 0)] dX5_apart__74 rfl (Nat.le_of_ble_eq_true rfl) rfl ?_
      refine g_aload_n X 1 dX5_apart__75 rfl rfl ?_
      refine g_dup X dX5_apart__76 rfl ?_
      refine g_getI X (C := RX5) (T := TX5) (N := 23) 17 dX5_apart__77 (Nat.le_of_ble_eq_true rfl) rfl rfl rfl inG5 (Nat.le_of_ble_eq_true rfl) rfl q586 ?_
      refine g_iconst X (1 : Int32) dX5_apart__80 (by decide) ?_
      refine g_isub X dX5_apart__81 ?_
      refine g_putI X (C := RX5) (T := TX5) (N := 23) (ty0 := tyX5) 17 dX5_apart__82 (Nat.le_of_ble_eq_true rfl) rfl rfl rfl inG5 tyX5_ok nmX5 (Nat.le_of_ble_eq_true rfl) rfl rfl q586 rfl rfl ?_
      refine g_nameS (fun σ5 eσ5 => ?_)
      have h := h σ5 eσ5
      refine g_goto X 61 dX5_apart__85 (by decide) ?_
      refine g_weak [1, 0] rfl ?_
      exact ih _ _ h
def w_X5_apart__34 (Q : St → Prop) : Nat → UInt64 → St → Prop
  | 0, _, _ => False
  | n + 1, x3, σ => (((dcmpF x3 (4845873199050653696 : UInt64) .l) < 0 → (∃ fu6 : Nat, w_X5_apart__61 Q fu6 x3 σ)) ∧ (¬ (dcmpF x3 (4845873199050653696 : UInt64) .l) < 0 → vf_n64 (FP.dmul x3 (4602678819172646912 : UInt64)) ∧ ∀ y7 : UInt64, y7 = (FP.dmul x3 (4602678819172646912 : UInt64)) → ∀ σ8 : St, σ8 = uI σ 0 17 ((gI σ 0 17) + (1 : Int32)) → (w_X5_apart__34 Q n y7 σ8)))
set_option maxRecDepth 100000 in
set_option maxHeartbeats 4000000 in
theorem b_X5_apart__34 {p : Program} {l : Launch} {e : Env} {s : State} {m : MethodId} {args : Array Value} {below : List Frame} {meth : Method} {c : Code} {D : va_G} {cA : Nat → ClassId} {A : Nat → Prop} {ad0 : Nat → Nat} {Q : St → Prop} (X : Cx p rmX5_apart_ s m args meth c cX5_apart_ 5 RX5 D cA A) (hr : meth.sig.returnType = none) : ∀ (n : Nat) (x3 : UInt64) (σ : St), w_X5_apart__34 Q n x3 σ → G p l e rmX5_apart_ s m args below meth c 5 D cA A (MQ below (va_Qv Q (EndW D cA ad0 shR) A) args s 0 0 A) 0 0 (fun ad => ad = ad0) shR σ [(0, .ref 0), (3, .double x3)] 34 [] := by
  intro n
  induction n with
  | zero => intro x3 σ h; exact h.elim
  | succ n ih =>
    intro x3 σ h
    rw [w_X5_apart__34] at h
    refine g_dload_n X 1 dX5_apart__34 rfl rfl ?_
    refine g_ldc2d X q785 dX5_apart__35 ?_
    refine g_dcmp X dX5_apart__38 ?_
    refine g_if_lt X 61 dX5_apart__39 (by decide) (fun hc => ?_) (fun hc => ?_)
    · have h := h.1 hc
      obtain ⟨fu6, h⟩ := h
      exact b_X5_apart__61 X hr fu6 _ _ h
    · have h := h.2 hc
      refine g_dload_n X 1 dX5_apart__42 rfl rfl ?_
      refine g_ldc2d X q676 dX5_apart__43 ?_
      obtain ⟨hc, h⟩ := h
      refine g_dmul X dX5_apart__46 hc ?_
      refine g_nameD (fun y7 ey7 => ?_)
      have h := h y7 ey7
      refine g_dstore_n X [(3, .double y7), (0, .ref 0)] dX5_apart__47 rfl (Nat.le_of_ble_eq_true rfl) rfl ?_
      refine g_aload_n X 1 dX5_apart__48 rfl rfl ?_
      refine g_dup X dX5_apart__49 rfl ?_
      refine g_getI X (C := RX5) (T := TX5) (N := 23) 17 dX5_apart__50 (Nat.le_of_ble_eq_true rfl) rfl rfl rfl inG5 (Nat.le_of_ble_eq_true rfl) rfl q586 ?_
      refine g_iconst X (1 : Int32) dX5_apart__53 (by decide) ?_
      refine g_iadd X dX5_apart__54 ?_
      refine g_putI X (C := RX5) (T := TX5) (N := 23) (ty0 := tyX5) 17 dX5_apart__55 (Nat.le_of_ble_eq_true rfl) rfl rfl rfl inG5 tyX5_ok nmX5 (Nat.le_of_ble_eq_true rfl) rfl rfl q586 rfl rfl ?_
      refine g_nameS (fun σ8 eσ8 => ?_)
      have h := h σ8 eσ8
      refine g_goto X 34 dX5_apart__58 (by decide) ?_
      refine g_weak [1, 0] rfl ?_
      exact ih _ _ h
def w_X5_apart__33 (Q : St → Prop) (s0 : UInt64) (σ : St) : Prop := (∃ fu9 : Nat, w_X5_apart__34 Q fu9 s0 σ)
set_option maxRecDepth 100000 in
set_option maxHeartbeats 4000000 in
theorem b_X5_apart__33 {p : Program} {l : Launch} {e : Env} {s : State} {m : MethodId} {args : Array Value} {below : List Frame} {meth : Method} {c : Code} {D : va_G} {cA : Nat → ClassId} {A : Nat → Prop} {ad0 : Nat → Nat} {Q : St → Prop} {s0 : UInt64} {σ : St} (X : Cx p rmX5_apart_ s m args meth c cX5_apart_ 5 RX5 D cA A) (hr : meth.sig.returnType = none) (h : w_X5_apart__33 Q s0 σ) : G p l e rmX5_apart_ s m args below meth c 5 D cA A (MQ below (va_Qv Q (EndW D cA ad0 shR) A) args s 0 0 A) 0 0 (fun ad => ad = ad0) shR σ [(0, .ref 0)] 33 [.double s0] := by
  unfold w_X5_apart__33 at h
  refine g_dstore_n X [(3, .double s0), (0, .ref 0)] dX5_apart__33 rfl (Nat.le_of_ble_eq_true rfl) rfl ?_
  refine g_weak [1, 0] rfl ?_
  obtain ⟨fu9, h⟩ := h
  exact b_X5_apart__34 X hr fu9 _ _ h
def w_X5_apart__17 (Q : St → Prop) (x1 : UInt64) (s0 : Int32) (σ : St) : Prop := bz s0 ∧ ∀ σ2 : St, σ2 = uI σ 0 18 s0 → (((gI σ2 0 18) = 0 → (w_X5_apart__33 Q x1 σ2)) ∧ (¬ (gI σ2 0 18) = 0 → (w_X5_apart__33 Q (FP.dneg x1) σ2)))
set_option maxRecDepth 100000 in
set_option maxHeartbeats 4000000 in
theorem b_X5_apart__17 {p : Program} {l : Launch} {e : Env} {s : State} {m : MethodId} {args : Array Value} {below : List Frame} {meth : Method} {c : Code} {D : va_G} {cA : Nat → ClassId} {A : Nat → Prop} {ad0 : Nat → Nat} {Q : St → Prop} {x1 : UInt64} {s0 : Int32} {σ : St} (X : Cx p rmX5_apart_ s m args meth c cX5_apart_ 5 RX5 D cA A) (hr : meth.sig.returnType = none) (h : w_X5_apart__17 Q x1 s0 σ) : G p l e rmX5_apart_ s m args below meth c 5 D cA A (MQ below (va_Qv Q (EndW D cA ad0 shR) A) args s 0 0 A) 0 0 (fun ad => ad = ad0) shR σ [(0, .ref 0), (1, .double x1)] 17 [.int s0, .ref 0] := by
  unfold w_X5_apart__17 at h
  obtain ⟨hc, h⟩ := h
  refine g_putI X (C := RX5) (T := TX5) (N := 23) (ty0 := tyX5) 18 dX5_apart__17 (Nat.le_of_ble_eq_true rfl) rfl rfl rfl inG5 tyX5_ok nmX5 (Nat.le_of_ble_eq_true rfl) rfl rfl q587 (bz_narrow hc) (bz_fits hc) ?_
  refine g_nameS (fun σ2 eσ2 => ?_)
  have h := h σ2 eσ2
  refine g_aload_n X 0 dX5_apart__20 rfl rfl ?_
  refine g_getI X (C := RX5) (T := TX5) (N := 23) 18 dX5_apart__21 (Nat.le_of_ble_eq_true rfl) rfl rfl rfl inG5 (Nat.le_of_ble_eq_true rfl) rfl q587 ?_
  refine g_if_eq X 32 dX5_apart__24 (by decide) (fun hc => ?_) (fun hc => ?_)
  · have h := h.1 hc
    refine g_dload_n X 1 dX5_apart__32 rfl rfl ?_
    refine g_weak [0] rfl ?_
    exact b_X5_apart__33 X hr h
  · have h := h.2 hc
    refine g_dload_n X 1 dX5_apart__27 rfl rfl ?_
    refine g_dneg X dX5_apart__28 ?_
    refine g_goto X 33 dX5_apart__29 (by decide) ?_
    refine g_weak [0] rfl ?_
    exact b_X5_apart__33 X hr h
def w_X5_apart_ (Q : St → Prop) (x1 : UInt64) (σ : St) : Prop := ∀ σ1 : St, σ1 = uI σ 0 17 (0 : Int32) → ((0 ≤ (dcmpF x1 FP.dconst0 .g) → (w_X5_apart__17 Q x1 (0 : Int32) σ1)) ∧ (¬ 0 ≤ (dcmpF x1 FP.dconst0 .g) → (w_X5_apart__17 Q x1 (1 : Int32) σ1)))
set_option maxRecDepth 100000 in
set_option maxHeartbeats 4000000 in
theorem b_X5_apart__0 {p : Program} {l : Launch} {e : Env} {s : State} {m : MethodId} {args : Array Value} {below : List Frame} {meth : Method} {c : Code} {D : va_G} {cA : Nat → ClassId} {A : Nat → Prop} {ad0 : Nat → Nat} {Q : St → Prop} {x1 : UInt64} {σ : St} (X : Cx p rmX5_apart_ s m args meth c cX5_apart_ 5 RX5 D cA A) (hr : meth.sig.returnType = none) (h : w_X5_apart_ Q x1 σ) : G p l e rmX5_apart_ s m args below meth c 5 D cA A (MQ below (va_Qv Q (EndW D cA ad0 shR) A) args s 0 0 A) 0 0 (fun ad => ad = ad0) shR σ [(0, .ref 0), (1, .double x1)] 0 [] := by
  unfold w_X5_apart_ at h
  refine g_aload_n X 0 dX5_apart__0 rfl rfl ?_
  refine g_iconst X (0 : Int32) dX5_apart__1 (by decide) ?_
  refine g_putI X (C := RX5) (T := TX5) (N := 23) (ty0 := tyX5) 17 dX5_apart__2 (Nat.le_of_ble_eq_true rfl) rfl rfl rfl inG5 tyX5_ok nmX5 (Nat.le_of_ble_eq_true rfl) rfl rfl q586 rfl rfl ?_
  refine g_nameS (fun σ1 eσ1 => ?_)
  have h := h σ1 eσ1
  refine g_aload_n X 0 dX5_apart__5 rfl rfl ?_
  refine g_dload_n X 1 dX5_apart__6 rfl rfl ?_
  refine g_dconst0 X dX5_apart__7 ?_
  refine g_dcmp X dX5_apart__8 ?_
  refine g_if_ge X 16 dX5_apart__9 (by decide) (fun hc => ?_) (fun hc => ?_)
  · have h := h.1 hc
    refine g_iconst X (0 : Int32) dX5_apart__16 (by decide) ?_
    exact b_X5_apart__17 X hr h
  · have h := h.2 hc
    refine g_iconst X (1 : Int32) dX5_apart__12 (by decide) ?_
    refine g_goto X 17 dX5_apart__13 (by decide) ?_
    exact b_X5_apart__17 X hr h
theorem c_X5_apart_ (l : Launch) (D : va_G) (cA : Nat → ClassId) {x1 : UInt64} {σ : St} {Q : St → Prop} (h : w_X5_apart_ Q x1 σ) : CtV l yX5_apart_ cX5_apart_ 5 (none) rmX5_apart_ D cA shR [.ref 0, .double x1] σ Q := by
  refine CtV.of (own := RX5) rfl (by decide +kernel) [(0, .ref 0), (1, .double x1)] rfl (Nat.le_of_ble_eq_true rfl) ?_
  intro p e s m args below meth c ad0 A X hr
  exact b_X5_apart__0 X hr  h
def rmX5_apart : Room := { frames := 1, cells := 0, slots := 0, locals := 24 }
def w_X5_apart_57 (Q : St → Prop) (s0 : Int64) (σ : St) : Prop := ∀ σ9 : St, σ9 = uJ σ 0 16 s0 → (Q σ9)
set_option maxRecDepth 100000 in
set_option maxHeartbeats 4000000 in
theorem b_X5_apart_57 {p : Program} {l : Launch} {e : Env} {s : State} {m : MethodId} {args : Array Value} {below : List Frame} {meth : Method} {c : Code} {D : va_G} {cA : Nat → ClassId} {A : Nat → Prop} {ad0 : Nat → Nat} {Q : St → Prop} {s0 : Int64} {σ : St} (X : Cx p rmX5_apart s m args meth c cX5_apart 3 RX5 D cA A) (hr : meth.sig.returnType = none) (h : w_X5_apart_57 Q s0 σ) : G p l e rmX5_apart s m args below meth c 3 D cA A (MQ below (va_Qv Q (EndW D cA ad0 shR) A) args s 0 0 A) 0 0 (fun ad => ad = ad0) shR σ [] 57 [.long s0, .ref 0] := by
  unfold w_X5_apart_57 at h
  refine g_putJ X (C := RX5) (T := TX5) (N := 23) (ty0 := tyX5) 16 dX5_apart_57 (Nat.le_of_ble_eq_true rfl) rfl rfl rfl inG5 tyX5_ok nmX5 (Nat.le_of_ble_eq_true rfl) rfl rfl q585 rfl rfl ?_
  refine g_nameS (fun σ9 eσ9 => ?_)
  have h := h σ9 eσ9
  exact g_vret X hr dX5_apart_60 h
def w_X5_apart_30 (Q : St → Prop) (x2 : Int32) (s0 : Int32) (σ : St) : Prop := bz s0 ∧ ∀ σ7 : St, σ7 = uI σ 0 18 s0 → (((gI σ7 0 18) = 0 → vp_in x2 480 ∧ (w_X5_apart_57 Q (gJ σ7 3 (ix x2)) σ7)) ∧ (¬ (gI σ7 0 18) = 0 → vp_in x2 480 ∧ (w_X5_apart_57 Q (-(gJ σ7 3 (ix x2))) σ7)))
set_option maxRecDepth 100000 in
set_option maxHeartbeats 4000000 in
theorem b_X5_apart_30 {p : Program} {l : Launch} {e : Env} {s : State} {m : MethodId} {args : Array Value} {below : List Frame} {meth : Method} {c : Code} {D : va_G} {cA : Nat → ClassId} {A : Nat → Prop} {ad0 : Nat → Nat} {Q : St → Prop} {x2 : Int32} {s0 : Int32} {σ : St} (X : Cx p rmX5_apart s m args meth c cX5_apart 3 RX5 D cA A) (hr : meth.sig.returnType = none) (h : w_X5_apart_30 Q x2 s0 σ) : G p l e rmX5_apart s m args below meth c 3 D cA A (MQ below (va_Qv Q (EndW D cA ad0 shR) A) args s 0 0 A) 0 0 (fun ad => ad = ad0) shR σ [(0, .ref 0), (2, .int x2)] 30 [.int s0, .ref 0] := by
  unfold w_X5_apart_30 at h
  obtain ⟨hc, h⟩ := h
  refine g_putI X (C := RX5) (T := TX5) (N := 23) (ty0 := tyX5) 18 dX5_apart_30 (Nat.le_of_ble_eq_true rfl) rfl rfl rfl inG5 tyX5_ok nmX5 (Nat.le_of_ble_eq_true rfl) rfl rfl q587 (bz_narrow hc) (bz_fits hc) ?_
  refine g_nameS (fun σ7 eσ7 => ?_)
  have h := h σ7 eσ7
  refine g_aload_n X 0 dX5_apart_33 rfl rfl ?_
  refine g_aload_n X 0 dX5_apart_34 rfl rfl ?_
  refine g_getI X (C := RX5) (T := TX5) (N := 23) 18 dX5_apart_35 (Nat.le_of_ble_eq_true rfl) rfl rfl rfl inG5 (Nat.le_of_ble_eq_true rfl) rfl q587 ?_
  refine g_if_eq X 51 dX5_apart_38 (by decide) (fun hc => ?_) (fun hc => ?_)
  · have h := h.1 hc
    refine g_aload_n X 0 dX5_apart_51 rfl rfl ?_
    refine g_getR X (C := RX5) (T := TX5) (N := 23) 3 dX5_apart_52 (Nat.le_of_ble_eq_true rfl) rfl rfl rfl inG5 (Nat.le_of_ble_eq_true rfl) rfl rfl q572 ?_
    refine g_iload_n X 1 dX5_apart_55 rfl rfl ?_
    obtain ⟨hi8, h⟩ := h
    refine g_lald X dX5_apart_56 (Nat.le_of_ble_eq_true rfl) rfl hi8 ?_
    refine g_weak [] rfl ?_
    exact b_X5_apart_57 X hr h
  · have h := h.2 hc
    refine g_aload_n X 0 dX5_apart_41 rfl rfl ?_
    refine g_getR X (C := RX5) (T := TX5) (N := 23) 3 dX5_apart_42 (Nat.le_of_ble_eq_true rfl) rfl rfl rfl inG5 (Nat.le_of_ble_eq_true rfl) rfl rfl q572 ?_
    refine g_iload_n X 1 dX5_apart_45 rfl rfl ?_
    obtain ⟨hi10, h⟩ := h
    refine g_lald X dX5_apart_46 (Nat.le_of_ble_eq_true rfl) rfl hi10 ?_
    refine g_lneg X dX5_apart_47 ?_
    refine g_goto X 57 dX5_apart_48 (by decide) ?_
    refine g_weak [] rfl ?_
    exact b_X5_apart_57 X hr h
def w_X5_apart (Q : St → Prop) (x1 : Int32) (x2 : Int32) (σ : St) : Prop := ∀ σ1 : St, σ1 = uI σ 0 17 (0 : Int32) → w_X5_isReal (fun r3 σ2 => ((¬ r3 = 0 → vp_in x2 480 ∧ w_X5_apart_ (fun σ5 => (Q σ5)) (gD σ2 4 (ix x2)) σ2) ∧ (r3 = 0 → vp_in x2 480 ∧ (((0 : Int64) ≤ (gJ σ2 3 (ix x2)) → (w_X5_apart_30 Q x2 (0 : Int32) σ2)) ∧ (¬ (0 : Int64) ≤ (gJ σ2 3 (ix x2)) → (w_X5_apart_30 Q x2 (1 : Int32) σ2)))))) x1 σ1
set_option maxRecDepth 100000 in
set_option maxHeartbeats 4000000 in
theorem b_X5_apart_0 {p : Program} {l : Launch} {e : Env} {s : State} {m : MethodId} {args : Array Value} {below : List Frame} {meth : Method} {c : Code} {D : va_G} {cA : Nat → ClassId} {A : Nat → Prop} {ad0 : Nat → Nat} {Q : St → Prop} {x1 : Int32} {x2 : Int32} {σ : St} (X : Cx p rmX5_apart s m args meth c cX5_apart 3 RX5 D cA A) (hr : meth.sig.returnType = none) (h : w_X5_apart Q x1 x2 σ) : G p l e rmX5_apart s m args below meth c 3 D cA A (MQ below (va_Qv Q (EndW D cA ad0 shR) A) args s 0 0 A) 0 0 (fun ad => ad = ad0) shR σ [(0, .ref 0), (1, .int x1), (2, .int x2)] 0 [] := by
  unfold w_X5_apart at h
  refine g_aload_n X 0 dX5_apart_0 rfl rfl ?_
  refine g_iconst X (0 : Int32) dX5_apart_1 (by decide) ?_
  refine g_putI X (C := RX5) (T := TX5) (N := 23) (ty0 := tyX5) 17 dX5_apart_2 (Nat.le_of_ble_eq_true rfl) rfl rfl rfl inG5 tyX5_ok nmX5 (Nat.le_of_ble_eq_true rfl) rfl rfl q586 rfl rfl ?_
  refine g_nameS (fun σ1 eσ1 => ?_)
  have h := h σ1 eσ1
  refine g_aload_n X 0 dX5_apart_5 rfl rfl ?_
  refine g_iload_n X 1 dX5_apart_6 rfl rfl ?_
  refine g_callVI X (C := RX5) (T := TX5) (N := 23) (n := 1) [.int x1] [] dX5_apart_7 (c_X5_isReal l D cA h) q686 q688 q21 q57 q689 (Nat.le_of_ble_eq_true rfl) rfl rfl ⟨rfl, by decide, by decide, by decide +kernel⟩ rfl rfl (Nat.le_of_ble_eq_true rfl) rfl rfl ⟨(Nat.le_of_ble_eq_true rfl), (Nat.le_of_ble_eq_true rfl)⟩ (Nat.le_of_ble_eq_true rfl) (Nat.le_of_ble_eq_true rfl) (fun r3 σ2 h => ?_)
  refine g_if_ne X 61 dX5_apart_10 (by decide) (fun hc => ?_) (fun hc => ?_)
  · have h := h.1 hc
    refine g_aload_n X 0 dX5_apart_61 rfl rfl ?_
    refine g_aload_n X 0 dX5_apart_62 rfl rfl ?_
    refine g_getR X (C := RX5) (T := TX5) (N := 23) 4 dX5_apart_63 (Nat.le_of_ble_eq_true rfl) rfl rfl rfl inG5 (Nat.le_of_ble_eq_true rfl) rfl rfl q573 ?_
    refine g_iload_n X 2 dX5_apart_66 rfl rfl ?_
    obtain ⟨hi4, h⟩ := h
    refine g_dald X dX5_apart_67 (Nat.le_of_ble_eq_true rfl) rfl hi4 ?_
    refine g_callVV X (C := RX5) (T := TX5) (N := 23) (n := 1) [.double (gD σ2 4 (ix x2))] [] dX5_apart_68 (c_X5_apart_ l D cA h) q781 q783 q33 q57 q784 (Nat.le_of_ble_eq_true rfl) rfl rfl ⟨rfl, by decide, by decide, by decide +kernel⟩ rfl rfl (Nat.le_of_ble_eq_true rfl) rfl rfl ⟨(Nat.le_of_ble_eq_true rfl), (Nat.le_of_ble_eq_true rfl)⟩ (Nat.le_of_ble_eq_true rfl) (Nat.le_of_ble_eq_true rfl) (fun σ5 h => ?_)
    exact g_vret X hr dX5_apart_71 h
  · have h := h.2 hc
    refine g_aload_n X 0 dX5_apart_13 rfl rfl ?_
    refine g_aload_n X 0 dX5_apart_14 rfl rfl ?_
    refine g_getR X (C := RX5) (T := TX5) (N := 23) 3 dX5_apart_15 (Nat.le_of_ble_eq_true rfl) rfl rfl rfl inG5 (Nat.le_of_ble_eq_true rfl) rfl rfl q572 ?_
    refine g_iload_n X 2 dX5_apart_18 rfl rfl ?_
    obtain ⟨hi6, h⟩ := h
    refine g_lald X dX5_apart_19 (Nat.le_of_ble_eq_true rfl) rfl hi6 ?_
    refine g_lconst X (0 : Int64) dX5_apart_20 (by decide) ?_
    refine g_lcmp X dX5_apart_21 ?_
    refine g_if_ge X 29 dX5_apart_22 (by decide) (fun hc => ?_) (fun hc => ?_)
    · have h := h.1 (lgc_ge.mp hc)
      refine g_iconst X (0 : Int32) dX5_apart_29 (by decide) ?_
      refine g_weak [0, 2] rfl ?_
      exact b_X5_apart_30 X hr h
    · have h := h.2 (fun z => hc (lgc_ge.mpr z))
      refine g_iconst X (1 : Int32) dX5_apart_25 (by decide) ?_
      refine g_goto X 30 dX5_apart_26 (by decide) ?_
      refine g_weak [0, 2] rfl ?_
      exact b_X5_apart_30 X hr h
theorem c_X5_apart (l : Launch) (D : va_G) (cA : Nat → ClassId) {x1 : Int32} {x2 : Int32} {σ : St} {Q : St → Prop} (h : w_X5_apart Q x1 x2 σ) : CtV l yX5_apart cX5_apart 3 (none) rmX5_apart D cA shR [.ref 0, .int x1, .int x2] σ Q := by
  refine CtV.of (own := RX5) rfl (by decide +kernel) [(0, .ref 0), (1, .int x1), (2, .int x2)] rfl (Nat.le_of_ble_eq_true rfl) ?_
  intro p e s m args below meth c ad0 A X hr
  exact b_X5_apart_0 X hr  h
def rmX5_sortOf : Room := { frames := 1, cells := 0, slots := 0, locals := 21 }
def w_X5_sortOf (Q : Int32 → St → Prop) (x1 : Int32) (x2 : Int32) (σ : St) : Prop := w_X5_isReal (fun r2 σ1 => ((r2 = 0 → (Q (0 : Int32) σ1)) ∧ (¬ r2 = 0 → vp_in x2 480 ∧ (Q (gI σ1 5 (ix x2)) σ1)))) x1 σ
set_option maxRecDepth 100000 in
set_option maxHeartbeats 4000000 in
theorem b_X5_sortOf_0 {p : Program} {l : Launch} {e : Env} {s : State} {m : MethodId} {args : Array Value} {below : List Frame} {meth : Method} {c : Code} {D : va_G} {cA : Nat → ClassId} {A : Nat → Prop} {ad0 : Nat → Nat} {Q : Int32 → St → Prop} {x1 : Int32} {x2 : Int32} {σ : St} (X : Cx p rmX5_sortOf s m args meth c cX5_sortOf 3 RX5 D cA A) (hr : meth.sig.returnType = some .int) (h : w_X5_sortOf Q x1 x2 σ) : G p l e rmX5_sortOf s m args below meth c 3 D cA A (MQ below (va_Qi Q (EndW D cA ad0 shR) A) args s 0 0 A) 0 0 (fun ad => ad = ad0) shR σ [(0, .ref 0), (1, .int x1), (2, .int x2)] 0 [] := by
  unfold w_X5_sortOf at h
  refine g_aload_n X 0 dX5_sortOf_0 rfl rfl ?_
  refine g_iload_n X 1 dX5_sortOf_1 rfl rfl ?_
  refine g_callVI X (C := RX5) (T := TX5) (N := 23) (n := 1) [.int x1] [] dX5_sortOf_2 (c_X5_isReal l D cA h) q686 q688 q21 q57 q689 (Nat.le_of_ble_eq_true rfl) rfl rfl ⟨rfl, by decide, by decide, by decide +kernel⟩ rfl rfl (Nat.le_of_ble_eq_true rfl) rfl rfl ⟨(Nat.le_of_ble_eq_true rfl), (Nat.le_of_ble_eq_true rfl)⟩ (Nat.le_of_ble_eq_true rfl) (Nat.le_of_ble_eq_true rfl) (fun r2 σ1 h => ?_)
  refine g_if_eq X 17 dX5_sortOf_5 (by decide) (fun hc => ?_) (fun hc => ?_)
  · have h := h.1 hc
    refine g_iconst X (0 : Int32) dX5_sortOf_17 (by decide) ?_
    exact g_iret X hr dX5_sortOf_18 rfl h
  · have h := h.2 hc
    refine g_aload_n X 0 dX5_sortOf_8 rfl rfl ?_
    refine g_getR X (C := RX5) (T := TX5) (N := 23) 5 dX5_sortOf_9 (Nat.le_of_ble_eq_true rfl) rfl rfl rfl inG5 (Nat.le_of_ble_eq_true rfl) rfl rfl q574 ?_
    refine g_iload_n X 2 dX5_sortOf_12 rfl rfl ?_
    obtain ⟨hi3, h⟩ := h
    refine g_iald X dX5_sortOf_13 (Nat.le_of_ble_eq_true rfl) rfl hi3 ?_
    refine g_goto X 18 dX5_sortOf_14 (by decide) ?_
    exact g_iret X hr dX5_sortOf_18 rfl h
theorem c_X5_sortOf (l : Launch) (D : va_G) (cA : Nat → ClassId) {x1 : Int32} {x2 : Int32} {σ : St} {Q : Int32 → St → Prop} (h : w_X5_sortOf Q x1 x2 σ) : CtI l yX5_sortOf cX5_sortOf 3 (some .int) rmX5_sortOf D cA shR [.ref 0, .int x1, .int x2] σ Q := by
  refine CtI.of (own := RX5) rfl (by decide +kernel) [(0, .ref 0), (1, .int x1), (2, .int x2)] rfl (Nat.le_of_ble_eq_true rfl) ?_
  intro p e s m args below meth c ad0 A X hr
  exact b_X5_sortOf_0 X hr  h
def rmX5_isZero : Room := { frames := 1, cells := 0, slots := 0, locals := 21 }
def w_X5_isZero (Q : Int32 → St → Prop) (x1 : Int32) (x2 : Int32) (σ : St) : Prop := w_X5_isReal (fun r2 σ1 => ((r2 = 0 → vp_in x2 480 ∧ ((¬ (gJ σ1 3 (ix x2)) = (0 : Int64) → (Q (0 : Int32) σ1)) ∧ ((gJ σ1 3 (ix x2)) = (0 : Int64) → (Q (1 : Int32) σ1)))) ∧ (¬ r2 = 0 → vp_in x2 480 ∧ ((¬ (gI σ1 5 (ix x2)) = 0 → (Q (0 : Int32) σ1)) ∧ ((gI σ1 5 (ix x2)) = 0 → vp_in x2 480 ∧ ((¬ (dcmpF (gD σ1 4 (ix x2)) FP.dconst0 .l) = 0 → (Q (0 : Int32) σ1)) ∧ ((dcmpF (gD σ1 4 (ix x2)) FP.dconst0 .l) = 0 → (Q (1 : Int32) σ1)))))))) x1 σ
set_option maxRecDepth 100000 in
set_option maxHeartbeats 4000000 in
theorem b_X5_isZero_0 {p : Program} {l : Launch} {e : Env} {s : State} {m : MethodId} {args : Array Value} {below : List Frame} {meth : Method} {c : Code} {D : va_G} {cA : Nat → ClassId} {A : Nat → Prop} {ad0 : Nat → Nat} {Q : Int32 → St → Prop} {x1 : Int32} {x2 : Int32} {σ : St} (X : Cx p rmX5_isZero s m args meth c cX5_isZero 3 RX5 D cA A) (hr : meth.sig.returnType = some .boolean) (h : w_X5_isZero Q x1 x2 σ) : G p l e rmX5_isZero s m args below meth c 3 D cA A (MQ below (va_Qi Q (EndW D cA ad0 shR) A) args s 0 0 A) 0 0 (fun ad => ad = ad0) shR σ [(0, .ref 0), (1, .int x1), (2, .int x2)] 0 [] := by
  unfold w_X5_isZero at h
  refine g_aload_n X 0 dX5_isZero_0 rfl rfl ?_
  refine g_iload_n X 1 dX5_isZero_1 rfl rfl ?_
  refine g_callVI X (C := RX5) (T := TX5) (N := 23) (n := 1) [.int x1] [] dX5_isZero_2 (c_X5_isReal l D cA h) q686 q688 q21 q57 q689 (Nat.le_of_ble_eq_true rfl) rfl rfl ⟨rfl, by decide, by decide, by decide +kernel⟩ rfl rfl (Nat.le_of_ble_eq_true rfl) rfl rfl ⟨(Nat.le_of_ble_eq_true rfl), (Nat.le_of_ble_eq_true rfl)⟩ (Nat.le_of_ble_eq_true rfl) (Nat.le_of_ble_eq_true rfl) (fun r2 σ1 h => ?_)
  refine g_if_eq X 36 dX5_isZero_5 (by decide) (fun hc => ?_) (fun hc => ?_)
  · have h := h.1 hc
    refine g_aload_n X 0 dX5_isZero_36 rfl rfl ?_
    refine g_getR X (C := RX5) (T := TX5) (N := 23) 3 dX5_isZero_37 (Nat.le_of_ble_eq_true rfl) rfl rfl rfl inG5 (Nat.le_of_ble_eq_true rfl) rfl rfl q572 ?_
    refine g_iload_n X 2 dX5_isZero_40 rfl rfl ?_
    obtain ⟨hi3, h⟩ := h
    refine g_lald X dX5_isZero_41 (Nat.le_of_ble_eq_true rfl) rfl hi3 ?_
    refine g_lconst X (0 : Int64) dX5_isZero_42 (by decide) ?_
    refine g_lcmp X dX5_isZero_43 ?_
    refine g_if_ne X 51 dX5_isZero_44 (by decide) (fun hc => ?_) (fun hc => ?_)
    · have h := h.1 (fun z => hc (lgc_eq.mpr z))
      refine g_iconst X (0 : Int32) dX5_isZero_51 (by decide) ?_
      exact g_iret X hr dX5_isZero_52 (by decide) h
    · have h := h.2 (lgc_eq.mp hc)
      refine g_iconst X (1 : Int32) dX5_isZero_47 (by decide) ?_
      refine g_goto X 52 dX5_isZero_48 (by decide) ?_
      exact g_iret X hr dX5_isZero_52 (by decide) h
  · have h := h.2 hc
    refine g_aload_n X 0 dX5_isZero_8 rfl rfl ?_
    refine g_getR X (C := RX5) (T := TX5) (N := 23) 5 dX5_isZero_9 (Nat.le_of_ble_eq_true rfl) rfl rfl rfl inG5 (Nat.le_of_ble_eq_true rfl) rfl rfl q574 ?_
    refine g_iload_n X 2 dX5_isZero_12 rfl rfl ?_
    obtain ⟨hi4, h⟩ := h
    refine g_iald X dX5_isZero_13 (Nat.le_of_ble_eq_true rfl) rfl hi4 ?_
    refine g_if_ne X 32 dX5_isZero_14 (by decide) (fun hc => ?_) (fun hc => ?_)
    · have h := h.1 hc
      refine g_iconst X (0 : Int32) dX5_isZero_32 (by decide) ?_
      refine g_goto X 52 dX5_isZero_33 (by decide) ?_
      exact g_iret X hr dX5_isZero_52 (by decide) h
    · have h := h.2 hc
      refine g_aload_n X 0 dX5_isZero_17 rfl rfl ?_
      refine g_getR X (C := RX5) (T := TX5) (N := 23) 4 dX5_isZero_18 (Nat.le_of_ble_eq_true rfl) rfl rfl rfl inG5 (Nat.le_of_ble_eq_true rfl) rfl rfl q573 ?_
      refine g_iload_n X 2 dX5_isZero_21 rfl rfl ?_
      obtain ⟨hi5, h⟩ := h
      refine g_dald X dX5_isZero_22 (Nat.le_of_ble_eq_true rfl) rfl hi5 ?_
      refine g_dconst0 X dX5_isZero_23 ?_
      refine g_dcmp X dX5_isZero_24 ?_
      refine g_if_ne X 32 dX5_isZero_25 (by decide) (fun hc => ?_) (fun hc => ?_)
      · have h := h.1 hc
        refine g_iconst X (0 : Int32) dX5_isZero_32 (by decide) ?_
        refine g_goto X 52 dX5_isZero_33 (by decide) ?_
        exact g_iret X hr dX5_isZero_52 (by decide) h
      · have h := h.2 hc
        refine g_iconst X (1 : Int32) dX5_isZero_28 (by decide) ?_
        refine g_goto X 52 dX5_isZero_29 (by decide) ?_
        exact g_iret X hr dX5_isZero_52 (by decide) h
theorem c_X5_isZero (l : Launch) (D : va_G) (cA : Nat → ClassId) {x1 : Int32} {x2 : Int32} {σ : St} {Q : Int32 → St → Prop} (h : w_X5_isZero Q x1 x2 σ) : CtI l yX5_isZero cX5_isZero 3 (some .boolean) rmX5_isZero D cA shR [.ref 0, .int x1, .int x2] σ Q := by
  refine CtI.of (own := RX5) rfl (by decide +kernel) [(0, .ref 0), (1, .int x1), (2, .int x2)] rfl (Nat.le_of_ble_eq_true rfl) ?_
  intro p e s m args below meth c ad0 A X hr
  exact b_X5_isZero_0 X hr  h
def rmX5_isBelow : Room := { frames := 1, cells := 0, slots := 0, locals := 21 }
def w_X5_isBelow (Q : Int32 → St → Prop) (x1 : Int32) (x2 : Int32) (σ : St) : Prop := w_X5_isReal (fun r2 σ1 => ((r2 = 0 → vp_in x2 480 ∧ (((0 : Int64) ≤ (gJ σ1 3 (ix x2)) → (Q (0 : Int32) σ1)) ∧ (¬ (0 : Int64) ≤ (gJ σ1 3 (ix x2)) → (Q (1 : Int32) σ1)))) ∧ (¬ r2 = 0 → vp_in x2 480 ∧ (((gI σ1 5 (ix x2)) = (2 : Int32) → (Q (1 : Int32) σ1)) ∧ (¬ (gI σ1 5 (ix x2)) = (2 : Int32) → vp_in x2 480 ∧ ((¬ (gI σ1 5 (ix x2)) = 0 → (Q (0 : Int32) σ1)) ∧ ((gI σ1 5 (ix x2)) = 0 → vp_in x2 480 ∧ ((0 ≤ (dcmpF (gD σ1 4 (ix x2)) FP.dconst0 .g) → (Q (0 : Int32) σ1)) ∧ (¬ 0 ≤ (dcmpF (gD σ1 4 (ix x2)) FP.dconst0 .g) → (Q (1 : Int32) σ1)))))))))) x1 σ
set_option maxRecDepth 100000 in
set_option maxHeartbeats 4000000 in
theorem b_X5_isBelow_0 {p : Program} {l : Launch} {e : Env} {s : State} {m : MethodId} {args : Array Value} {below : List Frame} {meth : Method} {c : Code} {D : va_G} {cA : Nat → ClassId} {A : Nat → Prop} {ad0 : Nat → Nat} {Q : Int32 → St → Prop} {x1 : Int32} {x2 : Int32} {σ : St} (X : Cx p rmX5_isBelow s m args meth c cX5_isBelow 3 RX5 D cA A) (hr : meth.sig.returnType = some .boolean) (h : w_X5_isBelow Q x1 x2 σ) : G p l e rmX5_isBelow s m args below meth c 3 D cA A (MQ below (va_Qi Q (EndW D cA ad0 shR) A) args s 0 0 A) 0 0 (fun ad => ad = ad0) shR σ [(0, .ref 0), (1, .int x1), (2, .int x2)] 0 [] := by
  unfold w_X5_isBelow at h
  refine g_aload_n X 0 dX5_isBelow_0 rfl rfl ?_
  refine g_iload_n X 1 dX5_isBelow_1 rfl rfl ?_
  refine g_callVI X (C := RX5) (T := TX5) (N := 23) (n := 1) [.int x1] [] dX5_isBelow_2 (c_X5_isReal l D cA h) q686 q688 q21 q57 q689 (Nat.le_of_ble_eq_true rfl) rfl rfl ⟨rfl, by decide, by decide, by decide +kernel⟩ rfl rfl (Nat.le_of_ble_eq_true rfl) rfl rfl ⟨(Nat.le_of_ble_eq_true rfl), (Nat.le_of_ble_eq_true rfl)⟩ (Nat.le_of_ble_eq_true rfl) (Nat.le_of_ble_eq_true rfl) (fun r2 σ1 h => ?_)
  refine g_if_eq X 46 dX5_isBelow_5 (by decide) (fun hc => ?_) (fun hc => ?_)
  · have h := h.1 hc
    refine g_aload_n X 0 dX5_isBelow_46 rfl rfl ?_
    refine g_getR X (C := RX5) (T := TX5) (N := 23) 3 dX5_isBelow_47 (Nat.le_of_ble_eq_true rfl) rfl rfl rfl inG5 (Nat.le_of_ble_eq_true rfl) rfl rfl q572 ?_
    refine g_iload_n X 2 dX5_isBelow_50 rfl rfl ?_
    obtain ⟨hi3, h⟩ := h
    refine g_lald X dX5_isBelow_51 (Nat.le_of_ble_eq_true rfl) rfl hi3 ?_
    refine g_lconst X (0 : Int64) dX5_isBelow_52 (by decide) ?_
    refine g_lcmp X dX5_isBelow_53 ?_
    refine g_if_ge X 61 dX5_isBelow_54 (by decide) (fun hc => ?_) (fun hc => ?_)
    · have h := h.1 (lgc_ge.mp hc)
      refine g_iconst X (0 : Int32) dX5_isBelow_61 (by decide) ?_
      exact g_iret X hr dX5_isBelow_62 (by decide) h
    · have h := h.2 (fun z => hc (lgc_ge.mpr z))
      refine g_iconst X (1 : Int32) dX5_isBelow_57 (by decide) ?_
      refine g_goto X 62 dX5_isBelow_58 (by decide) ?_
      exact g_iret X hr dX5_isBelow_62 (by decide) h
  · have h := h.2 hc
    refine g_aload_n X 0 dX5_isBelow_8 rfl rfl ?_
    refine g_getR X (C := RX5) (T := TX5) (N := 23) 5 dX5_isBelow_9 (Nat.le_of_ble_eq_true rfl) rfl rfl rfl inG5 (Nat.le_of_ble_eq_true rfl) rfl rfl q574 ?_
    refine g_iload_n X 2 dX5_isBelow_12 rfl rfl ?_
    obtain ⟨hi4, h⟩ := h
    refine g_iald X dX5_isBelow_13 (Nat.le_of_ble_eq_true rfl) rfl hi4 ?_
    refine g_iconst X (2 : Int32) dX5_isBelow_14 (by decide) ?_
    refine g_icmp_eq X 38 dX5_isBelow_15 (by decide) (fun hc => ?_) (fun hc => ?_)
    · have h := h.1 hc
      refine g_iconst X (1 : Int32) dX5_isBelow_38 (by decide) ?_
      refine g_goto X 62 dX5_isBelow_39 (by decide) ?_
      exact g_iret X hr dX5_isBelow_62 (by decide) h
    · have h := h.2 hc
      refine g_aload_n X 0 dX5_isBelow_18 rfl rfl ?_
      refine g_getR X (C := RX5) (T := TX5) (N := 23) 5 dX5_isBelow_19 (Nat.le_of_ble_eq_true rfl) rfl rfl rfl inG5 (Nat.le_of_ble_eq_true rfl) rfl rfl q574 ?_
      refine g_iload_n X 2 dX5_isBelow_22 rfl rfl ?_
      obtain ⟨hi5, h⟩ := h
      refine g_iald X dX5_isBelow_23 (Nat.le_of_ble_eq_true rfl) rfl hi5 ?_
      refine g_if_ne X 42 dX5_isBelow_24 (by decide) (fun hc => ?_) (fun hc => ?_)
      · have h := h.1 hc
        refine g_iconst X (0 : Int32) dX5_isBelow_42 (by decide) ?_
        refine g_goto X 62 dX5_isBelow_43 (by decide) ?_
        exact g_iret X hr dX5_isBelow_62 (by decide) h
      · have h := h.2 hc
        refine g_aload_n X 0 dX5_isBelow_27 rfl rfl ?_
        refine g_getR X (C := RX5) (T := TX5) (N := 23) 4 dX5_isBelow_28 (Nat.le_of_ble_eq_true rfl) rfl rfl rfl inG5 (Nat.le_of_ble_eq_true rfl) rfl rfl q573 ?_
        refine g_iload_n X 2 dX5_isBelow_31 rfl rfl ?_
        obtain ⟨hi6, h⟩ := h
        refine g_dald X dX5_isBelow_32 (Nat.le_of_ble_eq_true rfl) rfl hi6 ?_
        refine g_dconst0 X dX5_isBelow_33 ?_
        refine g_dcmp X dX5_isBelow_34 ?_
        refine g_if_ge X 42 dX5_isBelow_35 (by decide) (fun hc => ?_) (fun hc => ?_)
        · have h := h.1 hc
          refine g_iconst X (0 : Int32) dX5_isBelow_42 (by decide) ?_
          refine g_goto X 62 dX5_isBelow_43 (by decide) ?_
          exact g_iret X hr dX5_isBelow_62 (by decide) h
        · have h := h.2 hc
          refine g_iconst X (1 : Int32) dX5_isBelow_38 (by decide) ?_
          refine g_goto X 62 dX5_isBelow_39 (by decide) ?_
          exact g_iret X hr dX5_isBelow_62 (by decide) h
theorem c_X5_isBelow (l : Launch) (D : va_G) (cA : Nat → ClassId) {x1 : Int32} {x2 : Int32} {σ : St} {Q : Int32 → St → Prop} (h : w_X5_isBelow Q x1 x2 σ) : CtI l yX5_isBelow cX5_isBelow 3 (some .boolean) rmX5_isBelow D cA shR [.ref 0, .int x1, .int x2] σ Q := by
  refine CtI.of (own := RX5) rfl (by decide +kernel) [(0, .ref 0), (1, .int x1), (2, .int x2)] rfl (Nat.le_of_ble_eq_true rfl) ?_
  intro p e s m args below meth c ad0 A X hr
  exact b_X5_isBelow_0 X hr  h
def rmX5_endless : Room := { frames := 1, cells := 0, slots := 0, locals := 25 }
def w_X5_endless_12 (Q : St → Prop) (s0 : Int32) (s1 : Int32) (σ : St) : Prop := w_X5_see_ (fun σ1 => (Q σ1)) s1 s0 (1 : Int32) σ
set_option maxRecDepth 100000 in
set_option maxHeartbeats 4000000 in
theorem b_X5_endless_12 {p : Program} {l : Launch} {e : Env} {s : State} {m : MethodId} {args : Array Value} {below : List Frame} {meth : Method} {c : Code} {D : va_G} {cA : Nat → ClassId} {A : Nat → Prop} {ad0 : Nat → Nat} {Q : St → Prop} {s0 : Int32} {s1 : Int32} {σ : St} (X : Cx p rmX5_endless s m args meth c cX5_endless 4 RX5 D cA A) (hr : meth.sig.returnType = none) (h : w_X5_endless_12 Q s0 s1 σ) : G p l e rmX5_endless s m args below meth c 4 D cA A (MQ below (va_Qv Q (EndW D cA ad0 shR) A) args s 0 0 A) 0 0 (fun ad => ad = ad0) shR σ [] 12 [.int s0, .int s1, .ref 0] := by
  unfold w_X5_endless_12 at h
  refine g_iconst X (1 : Int32) dX5_endless_12 (by decide) ?_
  refine g_callVV X (C := RX5) (T := TX5) (N := 23) (n := 3) [.int s1, .int s0, .int (1 : Int32)] [] dX5_endless_13 (c_X5_see_ l D cA h) q764 q766 q29 q57 q767 (Nat.le_of_ble_eq_true rfl) rfl rfl ⟨rfl, by decide, by decide, by decide +kernel⟩ rfl rfl (Nat.le_of_ble_eq_true rfl) rfl rfl ⟨(Nat.le_of_ble_eq_true rfl), (Nat.le_of_ble_eq_true rfl)⟩ (Nat.le_of_ble_eq_true rfl) (Nat.le_of_ble_eq_true rfl) (fun σ1 h => ?_)
  exact g_vret X hr dX5_endless_16 h
def w_X5_endless (Q : St → Prop) (x1 : Int32) (x2 : Int32) (x3 : Int32) (σ : St) : Prop := ((x2 = x3 → (w_X5_endless_12 Q (1 : Int32) x1 σ)) ∧ (¬ x2 = x3 → (w_X5_endless_12 Q (2 : Int32) x1 σ)))
set_option maxRecDepth 100000 in
set_option maxHeartbeats 4000000 in
theorem b_X5_endless_0 {p : Program} {l : Launch} {e : Env} {s : State} {m : MethodId} {args : Array Value} {below : List Frame} {meth : Method} {c : Code} {D : va_G} {cA : Nat → ClassId} {A : Nat → Prop} {ad0 : Nat → Nat} {Q : St → Prop} {x1 : Int32} {x2 : Int32} {x3 : Int32} {σ : St} (X : Cx p rmX5_endless s m args meth c cX5_endless 4 RX5 D cA A) (hr : meth.sig.returnType = none) (h : w_X5_endless Q x1 x2 x3 σ) : G p l e rmX5_endless s m args below meth c 4 D cA A (MQ below (va_Qv Q (EndW D cA ad0 shR) A) args s 0 0 A) 0 0 (fun ad => ad = ad0) shR σ [(0, .ref 0), (1, .int x1), (2, .int x2), (3, .int x3)] 0 [] := by
  unfold w_X5_endless at h
  refine g_aload_n X 0 dX5_endless_0 rfl rfl ?_
  refine g_iload_n X 1 dX5_endless_1 rfl rfl ?_
  refine g_iload_n X 2 dX5_endless_2 rfl rfl ?_
  refine g_iload_n X 3 dX5_endless_3 rfl rfl ?_
  refine g_icmp_eq X 11 dX5_endless_4 (by decide) (fun hc => ?_) (fun hc => ?_)
  · have h := h.1 hc
    refine g_iconst X (1 : Int32) dX5_endless_11 (by decide) ?_
    refine g_weak [] rfl ?_
    exact b_X5_endless_12 X hr h
  · have h := h.2 hc
    refine g_iconst X (2 : Int32) dX5_endless_7 (by decide) ?_
    refine g_goto X 12 dX5_endless_8 (by decide) ?_
    refine g_weak [] rfl ?_
    exact b_X5_endless_12 X hr h
theorem c_X5_endless (l : Launch) (D : va_G) (cA : Nat → ClassId) {x1 : Int32} {x2 : Int32} {x3 : Int32} {σ : St} {Q : St → Prop} (h : w_X5_endless Q x1 x2 x3 σ) : CtV l yX5_endless cX5_endless 4 (none) rmX5_endless D cA shR [.ref 0, .int x1, .int x2, .int x3] σ Q := by
  refine CtV.of (own := RX5) rfl (by decide +kernel) [(0, .ref 0), (1, .int x1), (2, .int x2), (3, .int x3)] rfl (Nat.le_of_ble_eq_true rfl) ?_
  intro p e s m args below meth c ad0 A X hr
  exact b_X5_endless_0 X hr  h
def rmX5_addPlace : Room := { frames := 2, cells := 0, slots := 0, locals := 66 }
def w_X5_addPlace_81 (Q : St → Prop) (s0 : Int32) (s1 : Int32) (s2 : Int64) (s3 : Int64) (s4 : Int32) (σ : St) : Prop := w_X5_addBits (fun σ4 => (Q σ4)) s4 s3 s2 s1 s0 σ
set_option maxRecDepth 100000 in
set_option maxHeartbeats 4000000 in
theorem b_X5_addPlace_81 {p : Program} {l : Launch} {e : Env} {s : State} {m : MethodId} {args : Array Value} {below : List Frame} {meth : Method} {c : Code} {D : va_G} {cA : Nat → ClassId} {A : Nat → Prop} {ad0 : Nat → Nat} {Q : St → Prop} {s0 : Int32} {s1 : Int32} {s2 : Int64} {s3 : Int64} {s4 : Int32} {σ : St} (X : Cx p rmX5_addPlace s m args meth c cX5_addPlace 6 RX5 D cA A) (hr : meth.sig.returnType = none) (h : w_X5_addPlace_81 Q s0 s1 s2 s3 s4 σ) : G p l e rmX5_addPlace s m args below meth c 6 D cA A (MQ below (va_Qv Q (EndW D cA ad0 shR) A) args s 0 0 A) 0 0 (fun ad => ad = ad0) shR σ [] 81 [.int s0, .int s1, .long s2, .long s3, .int s4, .ref 0] := by
  unfold w_X5_addPlace_81 at h
  refine g_callVV X (C := RX5) (T := TX5) (N := 23) (n := 5) [.int s4, .long s3, .long s2, .int s1, .int s0] [] dX5_addPlace_81 (c_X5_addBits l D cA h) q790 q792 q34 q57 q793 (Nat.le_of_ble_eq_true rfl) rfl rfl ⟨rfl, by decide, by decide, by decide +kernel⟩ rfl rfl (Nat.le_of_ble_eq_true rfl) rfl rfl ⟨(Nat.le_of_ble_eq_true rfl), (Nat.le_of_ble_eq_true rfl)⟩ (Nat.le_of_ble_eq_true rfl) (Nat.le_of_ble_eq_true rfl) (fun σ4 h => ?_)
  exact g_vret X hr dX5_addPlace_84 h
def w_X5_addPlace_42 (Q : St → Prop) (x4 : Int32) (s0 : Int32) (s1 : Int32) (σ : St) : Prop := w_X5_endless (fun σ5 => (Q σ5)) s1 s0 x4 σ
set_option maxRecDepth 100000 in
set_option maxHeartbeats 4000000 in
theorem b_X5_addPlace_42 {p : Program} {l : Launch} {e : Env} {s : State} {m : MethodId} {args : Array Value} {below : List Frame} {meth : Method} {c : Code} {D : va_G} {cA : Nat → ClassId} {A : Nat → Prop} {ad0 : Nat → Nat} {Q : St → Prop} {x4 : Int32} {s0 : Int32} {s1 : Int32} {σ : St} (X : Cx p rmX5_addPlace s m args meth c cX5_addPlace 6 RX5 D cA A) (hr : meth.sig.returnType = none) (h : w_X5_addPlace_42 Q x4 s0 s1 σ) : G p l e rmX5_addPlace s m args below meth c 6 D cA A (MQ below (va_Qv Q (EndW D cA ad0 shR) A) args s 0 0 A) 0 0 (fun ad => ad = ad0) shR σ [(4, .int x4)] 42 [.int s0, .int s1, .ref 0] := by
  unfold w_X5_addPlace_42 at h
  refine g_iload X 0 dX5_addPlace_42 rfl ?_
  refine g_callVV X (C := RX5) (T := TX5) (N := 23) (n := 3) [.int s1, .int s0, .int x4] [] dX5_addPlace_44 (c_X5_endless l D cA h) q773 q775 q31 q57 q776 (Nat.le_of_ble_eq_true rfl) rfl rfl ⟨rfl, by decide, by decide, by decide +kernel⟩ rfl rfl (Nat.le_of_ble_eq_true rfl) rfl rfl ⟨(Nat.le_of_ble_eq_true rfl), (Nat.le_of_ble_eq_true rfl)⟩ (Nat.le_of_ble_eq_true rfl) (Nat.le_of_ble_eq_true rfl) (fun σ5 h => ?_)
  refine g_goto X 84 dX5_addPlace_47 (by decide) ?_
  exact g_vret X hr dX5_addPlace_84 h
def w_X5_addPlace (Q : St → Prop) (x1 : Int32) (x2 : Int32) (x3 : Int32) (x4 : Int32) (σ : St) : Prop := w_X5_sortOf (fun r2 σ1 => ((¬ r2 = (3 : Int32) → ((r2 = 0 → w_X5_apart (fun σ3 => (((gI σ3 0 18) = x4 → (w_X5_addPlace_81 Q (0 : Int32) (gI σ3 0 17) (gJ σ3 0 16) (0 : Int64) x1 σ3)) ∧ (¬ (gI σ3 0 18) = x4 → (w_X5_addPlace_81 Q (1 : Int32) (gI σ3 0 17) (gJ σ3 0 16) (0 : Int64) x1 σ3)))) x2 x3 σ1) ∧ (¬ r2 = 0 → ((¬ r2 = (2 : Int32) → (w_X5_addPlace_42 Q x4 (0 : Int32) x1 σ1)) ∧ (r2 = (2 : Int32) → (w_X5_addPlace_42 Q x4 (1 : Int32) x1 σ1)))))) ∧ (r2 = (3 : Int32) → w_X5_see_ (fun σ6 => (Q σ6)) x1 (0 : Int32) (1 : Int32) σ1))) x2 x3 σ
set_option maxRecDepth 100000 in
set_option maxHeartbeats 4000000 in
theorem b_X5_addPlace_0 {p : Program} {l : Launch} {e : Env} {s : State} {m : MethodId} {args : Array Value} {below : List Frame} {meth : Method} {c : Code} {D : va_G} {cA : Nat → ClassId} {A : Nat → Prop} {ad0 : Nat → Nat} {Q : St → Prop} {x1 : Int32} {x2 : Int32} {x3 : Int32} {x4 : Int32} {σ : St} (X : Cx p rmX5_addPlace s m args meth c cX5_addPlace 6 RX5 D cA A) (hr : meth.sig.returnType = none) (h : w_X5_addPlace Q x1 x2 x3 x4 σ) : G p l e rmX5_addPlace s m args below meth c 6 D cA A (MQ below (va_Qv Q (EndW D cA ad0 shR) A) args s 0 0 A) 0 0 (fun ad => ad = ad0) shR σ [(0, .ref 0), (1, .int x1), (2, .int x2), (3, .int x3), (4, .int x4)] 0 [] := by
  unfold w_X5_addPlace at h
  refine g_aload_n X 0 dX5_addPlace_0 rfl rfl ?_
  refine g_iload_n X 2 dX5_addPlace_1 rfl rfl ?_
  refine g_iload_n X 3 dX5_addPlace_2 rfl rfl ?_
  refine g_callVI X (C := RX5) (T := TX5) (N := 23) (n := 2) [.int x2, .int x3] [] dX5_addPlace_3 (c_X5_sortOf l D cA h) q756 q758 q27 q57 q759 (Nat.le_of_ble_eq_true rfl) rfl rfl ⟨rfl, by decide, by decide, by decide +kernel⟩ rfl rfl (Nat.le_of_ble_eq_true rfl) rfl rfl ⟨(Nat.le_of_ble_eq_true rfl), (Nat.le_of_ble_eq_true rfl)⟩ (Nat.le_of_ble_eq_true rfl) (Nat.le_of_ble_eq_true rfl) (fun r2 σ1 h => ?_)
  refine g_istore X [(5, .int r2), (0, .ref 0), (1, .int x1), (2, .int x2), (3, .int x3), (4, .int x4)] dX5_addPlace_6 (Nat.le_of_ble_eq_true rfl) rfl ?_
  refine g_iload X 0 dX5_addPlace_8 rfl ?_
  refine g_iconst X (3 : Int32) dX5_addPlace_10 (by decide) ?_
  refine g_icmp_ne X 24 dX5_addPlace_11 (by decide) (fun hc => ?_) (fun hc => ?_)
  · have h := h.1 hc
    refine g_iload X 0 dX5_addPlace_24 rfl ?_
    refine g_if_eq X 50 dX5_addPlace_26 (by decide) (fun hc => ?_) (fun hc => ?_)
    · have h := h.1 hc
      refine g_aload_n X 1 dX5_addPlace_50 rfl rfl ?_
      refine g_iload_n X 3 dX5_addPlace_51 rfl rfl ?_
      refine g_iload_n X 4 dX5_addPlace_52 rfl rfl ?_
      refine g_callVV X (C := RX5) (T := TX5) (N := 23) (n := 2) [.int x2, .int x3] [] dX5_addPlace_53 (c_X5_apart l D cA h) q777 q779 q32 q57 q780 (Nat.le_of_ble_eq_true rfl) rfl rfl ⟨rfl, by decide, by decide, by decide +kernel⟩ rfl rfl (Nat.le_of_ble_eq_true rfl) rfl rfl ⟨(Nat.le_of_ble_eq_true rfl), (Nat.le_of_ble_eq_true rfl)⟩ (Nat.le_of_ble_eq_true rfl) (Nat.le_of_ble_eq_true rfl) (fun σ3 h => ?_)
      refine g_aload_n X 1 dX5_addPlace_56 rfl rfl ?_
      refine g_iload_n X 2 dX5_addPlace_57 rfl rfl ?_
      refine g_lconst X (0 : Int64) dX5_addPlace_58 (by decide) ?_
      refine g_aload_n X 1 dX5_addPlace_59 rfl rfl ?_
      refine g_getJ X (C := RX5) (T := TX5) (N := 23) 16 dX5_addPlace_60 (Nat.le_of_ble_eq_true rfl) rfl rfl rfl inG5 (Nat.le_of_ble_eq_true rfl) rfl q585 ?_
      refine g_aload_n X 1 dX5_addPlace_63 rfl rfl ?_
      refine g_getI X (C := RX5) (T := TX5) (N := 23) 17 dX5_addPlace_64 (Nat.le_of_ble_eq_true rfl) rfl rfl rfl inG5 (Nat.le_of_ble_eq_true rfl) rfl q586 ?_
      refine g_aload_n X 1 dX5_addPlace_67 rfl rfl ?_
      refine g_getI X (C := RX5) (T := TX5) (N := 23) 18 dX5_addPlace_68 (Nat.le_of_ble_eq_true rfl) rfl rfl rfl inG5 (Nat.le_of_ble_eq_true rfl) rfl q587 ?_
      refine g_iload X 5 dX5_addPlace_71 rfl ?_
      refine g_icmp_eq X 80 dX5_addPlace_73 (by decide) (fun hc => ?_) (fun hc => ?_)
      · have h := h.1 hc
        refine g_iconst X (0 : Int32) dX5_addPlace_80 (by decide) ?_
        refine g_weak [] rfl ?_
        exact b_X5_addPlace_81 X hr h
      · have h := h.2 hc
        refine g_iconst X (1 : Int32) dX5_addPlace_76 (by decide) ?_
        refine g_goto X 81 dX5_addPlace_77 (by decide) ?_
        refine g_weak [] rfl ?_
        exact b_X5_addPlace_81 X hr h
    · have h := h.2 hc
      refine g_aload_n X 1 dX5_addPlace_29 rfl rfl ?_
      refine g_iload_n X 2 dX5_addPlace_30 rfl rfl ?_
      refine g_iload X 0 dX5_addPlace_31 rfl ?_
      refine g_iconst X (2 : Int32) dX5_addPlace_33 (by decide) ?_
      refine g_icmp_ne X 41 dX5_addPlace_34 (by decide) (fun hc => ?_) (fun hc => ?_)
      · have h := h.1 hc
        refine g_iconst X (0 : Int32) dX5_addPlace_41 (by decide) ?_
        refine g_weak [5] rfl ?_
        exact b_X5_addPlace_42 X hr h
      · have h := h.2 hc
        refine g_iconst X (1 : Int32) dX5_addPlace_37 (by decide) ?_
        refine g_goto X 42 dX5_addPlace_38 (by decide) ?_
        refine g_weak [5] rfl ?_
        exact b_X5_addPlace_42 X hr h
  · have h := h.2 hc
    refine g_aload_n X 1 dX5_addPlace_14 rfl rfl ?_
    refine g_iload_n X 2 dX5_addPlace_15 rfl rfl ?_
    refine g_iconst X (0 : Int32) dX5_addPlace_16 (by decide) ?_
    refine g_iconst X (1 : Int32) dX5_addPlace_17 (by decide) ?_
    refine g_callVV X (C := RX5) (T := TX5) (N := 23) (n := 3) [.int x1, .int (0 : Int32), .int (1 : Int32)] [] dX5_addPlace_18 (c_X5_see_ l D cA h) q764 q766 q29 q57 q767 (Nat.le_of_ble_eq_true rfl) rfl rfl ⟨rfl, by decide, by decide, by decide +kernel⟩ rfl rfl (Nat.le_of_ble_eq_true rfl) rfl rfl ⟨(Nat.le_of_ble_eq_true rfl), (Nat.le_of_ble_eq_true rfl)⟩ (Nat.le_of_ble_eq_true rfl) (Nat.le_of_ble_eq_true rfl) (fun σ6 h => ?_)
    refine g_goto X 84 dX5_addPlace_21 (by decide) ?_
    exact g_vret X hr dX5_addPlace_84 h
theorem c_X5_addPlace (l : Launch) (D : va_G) (cA : Nat → ClassId) {x1 : Int32} {x2 : Int32} {x3 : Int32} {x4 : Int32} {σ : St} {Q : St → Prop} (h : w_X5_addPlace Q x1 x2 x3 x4 σ) : CtV l yX5_addPlace cX5_addPlace 6 (none) rmX5_addPlace D cA shR [.ref 0, .int x1, .int x2, .int x3, .int x4] σ Q := by
  refine CtV.of (own := RX5) rfl (by decide +kernel) [(0, .ref 0), (1, .int x1), (2, .int x2), (3, .int x3), (4, .int x4)] rfl (Nat.le_of_ble_eq_true rfl) ?_
  intro p e s m args below meth c ad0 A X hr
  exact b_X5_addPlace_0 X hr  h
def rmJ9_multiplyHigh_f86c9 : Room := { frames := 0, cells := 0, slots := 0, locals := 0 }
def w_J9_multiplyHigh_f86c9 (Q : Int64 → St → Prop) (x0 : Int64) (x2 : Int64) (σ : St) : Prop := ∀ y1 : Int64, y1 = (lshrF x0 (32 : Int32)) → ∀ y2 : Int64, y2 = (x0 &&& (4294967295 : Int64)) → ∀ y3 : Int64, y3 = (lshrF x2 (32 : Int32)) → ∀ y4 : Int64, y4 = (x2 &&& (4294967295 : Int64)) → ∀ y5 : Int64, y5 = (y2 * y4) → ∀ y6 : Int64, y6 = ((y1 * y4) + (lushrF y5 (32 : Int32))) → ∀ y7 : Int64, y7 = (y6 &&& (4294967295 : Int64)) → ∀ y8 : Int64, y8 = (lshrF y6 (32 : Int32)) → ∀ y9 : Int64, y9 = (y7 + (y2 * y3)) → (Q (((y1 * y3) + y8) + (lshrF y9 (32 : Int32))) σ)
set_option maxRecDepth 100000 in
set_option maxHeartbeats 4000000 in
theorem b_J9_multiplyHigh_f86c9_0 {p : Program} {l : Launch} {e : Env} {s : State} {m : MethodId} {args : Array Value} {below : List Frame} {meth : Method} {c : Code} {D : va_G} {cA : Nat → ClassId} {A : Nat → Prop} {ad0 : Nat → Nat} {sh : SH} {Q : Int64 → St → Prop} {x0 : Int64} {x2 : Int64} {σ : St} (X : Cx p rmJ9_multiplyHigh_f86c9 s m args meth c cJ9_multiplyHigh_f86c9 20 RJ9 D cA A) (hr : meth.sig.returnType = some .long) (h : w_J9_multiplyHigh_f86c9 Q x0 x2 σ) : G p l e rmJ9_multiplyHigh_f86c9 s m args below meth c 20 D cA A (MQ below (va_Ql Q (EndW D cA ad0 sh) A) args s 0 0 A) 0 0 (fun ad => ad = ad0) sh σ [(0, .long x0), (2, .long x2)] 0 [] := by
  unfold w_J9_multiplyHigh_f86c9 at h
  refine g_lload_n X 0 dJ9_multiplyHigh_f86c9_0 rfl rfl ?_
  refine g_bipush X (32 : Int32) dJ9_multiplyHigh_f86c9_1 (by decide) ?_
  refine g_lshr X dJ9_multiplyHigh_f86c9_3 ?_
  refine g_nameJ (fun y1 ey1 => ?_)
  have h := h y1 ey1
  refine g_lstore X [(4, .long y1), (0, .long x0), (2, .long x2)] dJ9_multiplyHigh_f86c9_4 (Nat.le_of_ble_eq_true rfl) rfl ?_
  refine g_lload_n X 1 dJ9_multiplyHigh_f86c9_6 rfl rfl ?_
  refine g_ldc2 X q789 dJ9_multiplyHigh_f86c9_7 ?_
  refine g_land X dJ9_multiplyHigh_f86c9_10 ?_
  refine g_nameJ (fun y2 ey2 => ?_)
  have h := h y2 ey2
  refine g_lstore X [(6, .long y2), (4, .long y1), (0, .long x0), (2, .long x2)] dJ9_multiplyHigh_f86c9_11 (Nat.le_of_ble_eq_true rfl) rfl ?_
  refine g_lload_n X 3 dJ9_multiplyHigh_f86c9_13 rfl rfl ?_
  refine g_bipush X (32 : Int32) dJ9_multiplyHigh_f86c9_14 (by decide) ?_
  refine g_lshr X dJ9_multiplyHigh_f86c9_16 ?_
  refine g_nameJ (fun y3 ey3 => ?_)
  have h := h y3 ey3
  refine g_lstore X [(8, .long y3), (6, .long y2), (4, .long y1), (0, .long x0), (2, .long x2)] dJ9_multiplyHigh_f86c9_17 (Nat.le_of_ble_eq_true rfl) rfl ?_
  refine g_lload_n X 4 dJ9_multiplyHigh_f86c9_19 rfl rfl ?_
  refine g_ldc2 X q789 dJ9_multiplyHigh_f86c9_20 ?_
  refine g_land X dJ9_multiplyHigh_f86c9_23 ?_
  refine g_nameJ (fun y4 ey4 => ?_)
  have h := h y4 ey4
  refine g_lstore X [(10, .long y4), (8, .long y3), (6, .long y2), (4, .long y1), (0, .long x0), (2, .long x2)] dJ9_multiplyHigh_f86c9_24 (Nat.le_of_ble_eq_true rfl) rfl ?_
  refine g_lload X 2 dJ9_multiplyHigh_f86c9_26 rfl ?_
  refine g_lload X 0 dJ9_multiplyHigh_f86c9_28 rfl ?_
  refine g_lmul X dJ9_multiplyHigh_f86c9_30 ?_
  refine g_nameJ (fun y5 ey5 => ?_)
  have h := h y5 ey5
  refine g_lstore X [(12, .long y5), (10, .long y4), (8, .long y3), (6, .long y2), (4, .long y1), (0, .long x0), (2, .long x2)] dJ9_multiplyHigh_f86c9_31 (Nat.le_of_ble_eq_true rfl) rfl ?_
  refine g_lload X 4 dJ9_multiplyHigh_f86c9_33 rfl ?_
  refine g_lload X 1 dJ9_multiplyHigh_f86c9_35 rfl ?_
  refine g_lmul X dJ9_multiplyHigh_f86c9_37 ?_
  refine g_lload X 0 dJ9_multiplyHigh_f86c9_38 rfl ?_
  refine g_bipush X (32 : Int32) dJ9_multiplyHigh_f86c9_40 (by decide) ?_
  refine g_lushr X dJ9_multiplyHigh_f86c9_42 ?_
  refine g_ladd X dJ9_multiplyHigh_f86c9_43 ?_
  refine g_nameJ (fun y6 ey6 => ?_)
  have h := h y6 ey6
  refine g_lstore X [(14, .long y6), (12, .long y5), (10, .long y4), (8, .long y3), (6, .long y2), (4, .long y1), (0, .long x0), (2, .long x2)] dJ9_multiplyHigh_f86c9_44 (Nat.le_of_ble_eq_true rfl) rfl ?_
  refine g_lload X 0 dJ9_multiplyHigh_f86c9_46 rfl ?_
  refine g_ldc2 X q789 dJ9_multiplyHigh_f86c9_48 ?_
  refine g_land X dJ9_multiplyHigh_f86c9_51 ?_
  refine g_nameJ (fun y7 ey7 => ?_)
  have h := h y7 ey7
  refine g_lstore X [(16, .long y7), (14, .long y6), (12, .long y5), (10, .long y4), (8, .long y3), (6, .long y2), (4, .long y1), (0, .long x0), (2, .long x2)] dJ9_multiplyHigh_f86c9_52 (Nat.le_of_ble_eq_true rfl) rfl ?_
  refine g_lload X 1 dJ9_multiplyHigh_f86c9_54 rfl ?_
  refine g_bipush X (32 : Int32) dJ9_multiplyHigh_f86c9_56 (by decide) ?_
  refine g_lshr X dJ9_multiplyHigh_f86c9_58 ?_
  refine g_nameJ (fun y8 ey8 => ?_)
  have h := h y8 ey8
  refine g_lstore X [(18, .long y8), (16, .long y7), (14, .long y6), (12, .long y5), (10, .long y4), (8, .long y3), (6, .long y2), (4, .long y1), (0, .long x0), (2, .long x2)] dJ9_multiplyHigh_f86c9_59 (Nat.le_of_ble_eq_true rfl) rfl ?_
  refine g_lload X 1 dJ9_multiplyHigh_f86c9_61 rfl ?_
  refine g_lload X 6 dJ9_multiplyHigh_f86c9_63 rfl ?_
  refine g_lload X 5 dJ9_multiplyHigh_f86c9_65 rfl ?_
  refine g_lmul X dJ9_multiplyHigh_f86c9_67 ?_
  refine g_ladd X dJ9_multiplyHigh_f86c9_68 ?_
  refine g_nameJ (fun y9 ey9 => ?_)
  have h := h y9 ey9
  refine g_lstore X [(16, .long y9), (18, .long y8), (14, .long y6), (12, .long y5), (10, .long y4), (8, .long y3), (6, .long y2), (4, .long y1), (0, .long x0), (2, .long x2)] dJ9_multiplyHigh_f86c9_69 (Nat.le_of_ble_eq_true rfl) rfl ?_
  refine g_lload X 7 dJ9_multiplyHigh_f86c9_71 rfl ?_
  refine g_lload X 5 dJ9_multiplyHigh_f86c9_73 rfl ?_
  refine g_lmul X dJ9_multiplyHigh_f86c9_75 ?_
  refine g_lload X 1 dJ9_multiplyHigh_f86c9_76 rfl ?_
  refine g_ladd X dJ9_multiplyHigh_f86c9_78 ?_
  refine g_lload X 0 dJ9_multiplyHigh_f86c9_79 rfl ?_
  refine g_bipush X (32 : Int32) dJ9_multiplyHigh_f86c9_81 (by decide) ?_
  refine g_lshr X dJ9_multiplyHigh_f86c9_83 ?_
  refine g_ladd X dJ9_multiplyHigh_f86c9_84 ?_
  exact g_lret X hr dJ9_multiplyHigh_f86c9_85 h
theorem c_J9_multiplyHigh_f86c9 (l : Launch) (D : va_G) (cA : Nat → ClassId) (sh : SH) {x0 : Int64} {x2 : Int64} {σ : St} {Q : Int64 → St → Prop} (h : w_J9_multiplyHigh_f86c9 Q x0 x2 σ) : CtL l yJ9_multiplyHigh_f86c9 cJ9_multiplyHigh_f86c9 20 (some .long) rmJ9_multiplyHigh_f86c9 D cA sh [.long x0, .long x2] σ Q := by
  refine CtL.of (own := RJ9) rfl (by decide +kernel) [(0, .long x0), (2, .long x2)] rfl (Nat.le_of_ble_eq_true rfl) ?_
  intro p e s m args below meth c ad0 A X hr
  exact b_J9_multiplyHigh_f86c9_0 X hr  h
def rmX5_addProduct : Room := { frames := 2, cells := 0, slots := 0, locals := 66 }
def w_X5_addProduct_116 (Q : St → Prop) (x6 : Int32) (s0 : Int32) (s1 : Int32) (σ : St) : Prop := w_X5_endless (fun σ9 => (Q σ9)) s1 s0 x6 σ
set_option maxRecDepth 100000 in
set_option maxHeartbeats 4000000 in
theorem b_X5_addProduct_116 {p : Program} {l : Launch} {e : Env} {s : State} {m : MethodId} {args : Array Value} {below : List Frame} {meth : Method} {c : Code} {D : va_G} {cA : Nat → ClassId} {A : Nat → Prop} {ad0 : Nat → Nat} {Q : St → Prop} {x6 : Int32} {s0 : Int32} {s1 : Int32} {σ : St} (X : Cx p rmX5_addProduct s m args meth c cX5_addProduct 16 RX5 D cA A) (hr : meth.sig.returnType = none) (h : w_X5_addProduct_116 Q x6 s0 s1 σ) : G p l e rmX5_addProduct s m args below meth c 16 D cA A (MQ below (va_Qv Q (EndW D cA ad0 shR) A) args s 0 0 A) 0 0 (fun ad => ad = ad0) shR σ [(6, .int x6)] 116 [.int s0, .int s1, .ref 0] := by
  unfold w_X5_addProduct_116 at h
  refine g_iload X 0 dX5_addProduct_116 rfl ?_
  refine g_callVV X (C := RX5) (T := TX5) (N := 23) (n := 3) [.int s1, .int s0, .int x6] [] dX5_addProduct_118 (c_X5_endless l D cA h) q773 q775 q31 q57 q776 (Nat.le_of_ble_eq_true rfl) rfl rfl ⟨rfl, by decide, by decide, by decide +kernel⟩ rfl rfl (Nat.le_of_ble_eq_true rfl) rfl rfl ⟨(Nat.le_of_ble_eq_true rfl), (Nat.le_of_ble_eq_true rfl)⟩ (Nat.le_of_ble_eq_true rfl) (Nat.le_of_ble_eq_true rfl) (fun σ9 h => ?_)
  refine g_goto X 244 dX5_addProduct_121 (by decide) ?_
  exact g_vret X hr dX5_addProduct_244 h
def w_X5_addProduct_92 (Q : St → Prop) (x1 : Int32) (x2 : Int32) (x3 : Int32) (x4 : Int32) (x5 : Int32) (x6 : Int32) (σ : St) : Prop := w_X5_isBelow (fun r6 σ5 => w_X5_isBelow (fun r8 σ7 => ((r6 = r8 → (w_X5_addProduct_116 Q x6 (0 : Int32) x1 σ7)) ∧ (¬ r6 = r8 → (w_X5_addProduct_116 Q x6 (1 : Int32) x1 σ7)))) x4 x5 σ5) x2 x3 σ
set_option maxRecDepth 100000 in
set_option maxHeartbeats 4000000 in
theorem b_X5_addProduct_92 {p : Program} {l : Launch} {e : Env} {s : State} {m : MethodId} {args : Array Value} {below : List Frame} {meth : Method} {c : Code} {D : va_G} {cA : Nat → ClassId} {A : Nat → Prop} {ad0 : Nat → Nat} {Q : St → Prop} {x1 : Int32} {x2 : Int32} {x3 : Int32} {x4 : Int32} {x5 : Int32} {x6 : Int32} {σ : St} (X : Cx p rmX5_addProduct s m args meth c cX5_addProduct 16 RX5 D cA A) (hr : meth.sig.returnType = none) (h : w_X5_addProduct_92 Q x1 x2 x3 x4 x5 x6 σ) : G p l e rmX5_addProduct s m args below meth c 16 D cA A (MQ below (va_Qv Q (EndW D cA ad0 shR) A) args s 0 0 A) 0 0 (fun ad => ad = ad0) shR σ [(0, .ref 0), (1, .int x1), (2, .int x2), (3, .int x3), (4, .int x4), (5, .int x5), (6, .int x6)] 92 [] := by
  unfold w_X5_addProduct_92 at h
  refine g_aload_n X 0 dX5_addProduct_92 rfl rfl ?_
  refine g_iload_n X 1 dX5_addProduct_93 rfl rfl ?_
  refine g_aload_n X 0 dX5_addProduct_94 rfl rfl ?_
  refine g_iload_n X 2 dX5_addProduct_95 rfl rfl ?_
  refine g_iload_n X 3 dX5_addProduct_96 rfl rfl ?_
  refine g_callVI X (C := RX5) (T := TX5) (N := 23) (n := 2) [.int x2, .int x3] [.int x1, .ref 0] dX5_addProduct_97 (c_X5_isBelow l D cA h) q769 q771 q30 q57 q772 (Nat.le_of_ble_eq_true rfl) rfl rfl ⟨rfl, by decide, by decide, by decide +kernel⟩ rfl rfl (Nat.le_of_ble_eq_true rfl) rfl rfl ⟨(Nat.le_of_ble_eq_true rfl), (Nat.le_of_ble_eq_true rfl)⟩ (Nat.le_of_ble_eq_true rfl) (Nat.le_of_ble_eq_true rfl) (fun r6 σ5 h => ?_)
  refine g_aload_n X 0 dX5_addProduct_100 rfl rfl ?_
  refine g_iload X 4 dX5_addProduct_101 rfl ?_
  refine g_iload X 5 dX5_addProduct_103 rfl ?_
  refine g_callVI X (C := RX5) (T := TX5) (N := 23) (n := 2) [.int x4, .int x5] [.int r6, .int x1, .ref 0] dX5_addProduct_105 (c_X5_isBelow l D cA h) q769 q771 q30 q57 q772 (Nat.le_of_ble_eq_true rfl) rfl rfl ⟨rfl, by decide, by decide, by decide +kernel⟩ rfl rfl (Nat.le_of_ble_eq_true rfl) rfl rfl ⟨(Nat.le_of_ble_eq_true rfl), (Nat.le_of_ble_eq_true rfl)⟩ (Nat.le_of_ble_eq_true rfl) (Nat.le_of_ble_eq_true rfl) (fun r8 σ7 h => ?_)
  refine g_icmp_eq X 115 dX5_addProduct_108 (by decide) (fun hc => ?_) (fun hc => ?_)
  · have h := h.1 hc
    refine g_iconst X (0 : Int32) dX5_addProduct_115 (by decide) ?_
    refine g_weak [6] rfl ?_
    exact b_X5_addProduct_116 X hr h
  · have h := h.2 hc
    refine g_iconst X (1 : Int32) dX5_addProduct_111 (by decide) ?_
    refine g_goto X 116 dX5_addProduct_112 (by decide) ?_
    refine g_weak [6] rfl ?_
    exact b_X5_addProduct_116 X hr h
def w_X5_addProduct_241 (Q : St → Prop) (s0 : Int32) (s1 : Int32) (s2 : Int64) (s3 : Int64) (s4 : Int32) (σ : St) : Prop := w_X5_addBits (fun σ18 => (Q σ18)) s4 s3 s2 s1 s0 σ
set_option maxRecDepth 100000 in
set_option maxHeartbeats 4000000 in
theorem b_X5_addProduct_241 {p : Program} {l : Launch} {e : Env} {s : State} {m : MethodId} {args : Array Value} {below : List Frame} {meth : Method} {c : Code} {D : va_G} {cA : Nat → ClassId} {A : Nat → Prop} {ad0 : Nat → Nat} {Q : St → Prop} {s0 : Int32} {s1 : Int32} {s2 : Int64} {s3 : Int64} {s4 : Int32} {σ : St} (X : Cx p rmX5_addProduct s m args meth c cX5_addProduct 16 RX5 D cA A) (hr : meth.sig.returnType = none) (h : w_X5_addProduct_241 Q s0 s1 s2 s3 s4 σ) : G p l e rmX5_addProduct s m args below meth c 16 D cA A (MQ below (va_Qv Q (EndW D cA ad0 shR) A) args s 0 0 A) 0 0 (fun ad => ad = ad0) shR σ [] 241 [.int s0, .int s1, .long s2, .long s3, .int s4, .ref 0] := by
  unfold w_X5_addProduct_241 at h
  refine g_callVV X (C := RX5) (T := TX5) (N := 23) (n := 5) [.int s4, .long s3, .long s2, .int s1, .int s0] [] dX5_addProduct_241 (c_X5_addBits l D cA h) q790 q792 q34 q57 q793 (Nat.le_of_ble_eq_true rfl) rfl rfl ⟨rfl, by decide, by decide, by decide +kernel⟩ rfl rfl (Nat.le_of_ble_eq_true rfl) rfl rfl ⟨(Nat.le_of_ble_eq_true rfl), (Nat.le_of_ble_eq_true rfl)⟩ (Nat.le_of_ble_eq_true rfl) (Nat.le_of_ble_eq_true rfl) (fun σ18 h => ?_)
  exact g_vret X hr dX5_addProduct_244 h
def w_X5_addProduct_231 (Q : St → Prop) (x6 : Int32) (s0 : Int32) (s1 : Int32) (s2 : Int64) (s3 : Int64) (s4 : Int32) (σ : St) : Prop := ((s0 = x6 → (w_X5_addProduct_241 Q (0 : Int32) s1 s2 s3 s4 σ)) ∧ (¬ s0 = x6 → (w_X5_addProduct_241 Q (1 : Int32) s1 s2 s3 s4 σ)))
set_option maxRecDepth 100000 in
set_option maxHeartbeats 4000000 in
theorem b_X5_addProduct_231 {p : Program} {l : Launch} {e : Env} {s : State} {m : MethodId} {args : Array Value} {below : List Frame} {meth : Method} {c : Code} {D : va_G} {cA : Nat → ClassId} {A : Nat → Prop} {ad0 : Nat → Nat} {Q : St → Prop} {x6 : Int32} {s0 : Int32} {s1 : Int32} {s2 : Int64} {s3 : Int64} {s4 : Int32} {σ : St} (X : Cx p rmX5_addProduct s m args meth c cX5_addProduct 16 RX5 D cA A) (hr : meth.sig.returnType = none) (h : w_X5_addProduct_231 Q x6 s0 s1 s2 s3 s4 σ) : G p l e rmX5_addProduct s m args below meth c 16 D cA A (MQ below (va_Qv Q (EndW D cA ad0 shR) A) args s 0 0 A) 0 0 (fun ad => ad = ad0) shR σ [(6, .int x6)] 231 [.int s0, .int s1, .long s2, .long s3, .int s4, .ref 0] := by
  unfold w_X5_addProduct_231 at h
  refine g_iload X 0 dX5_addProduct_231 rfl ?_
  refine g_icmp_eq X 240 dX5_addProduct_233 (by decide) (fun hc => ?_) (fun hc => ?_)
  · have h := h.1 hc
    refine g_iconst X (0 : Int32) dX5_addProduct_240 (by decide) ?_
    refine g_weak [] rfl ?_
    exact b_X5_addProduct_241 X hr h
  · have h := h.2 hc
    refine g_iconst X (1 : Int32) dX5_addProduct_236 (by decide) ?_
    refine g_goto X 241 dX5_addProduct_237 (by decide) ?_
    refine g_weak [] rfl ?_
    exact b_X5_addProduct_241 X hr h
def w_X5_addProduct_196 (Q : St → Prop) (x1 : Int32) (x6 : Int32) (x10 : Int64) (x12 : Int32) (x13 : Int32) (s0 : Int64) (s1 : Int64) (σ : St) : Prop := ∀ y17 : Int64, y17 = (s1 + s0) → ((x13 = (gI σ 0 18) → (w_X5_addProduct_231 Q x6 (0 : Int32) (x12 + (gI σ 0 17)) (x10 * (gJ σ 0 16)) y17 x1 σ)) ∧ (¬ x13 = (gI σ 0 18) → (w_X5_addProduct_231 Q x6 (1 : Int32) (x12 + (gI σ 0 17)) (x10 * (gJ σ 0 16)) y17 x1 σ)))
set_option maxRecDepth 100000 in
set_option maxHeartbeats 4000000 in
theorem b_X5_addProduct_196 {p : Program} {l : Launch} {e : Env} {s : State} {m : MethodId} {args : Array Value} {below : List Frame} {meth : Method} {c : Code} {D : va_G} {cA : Nat → ClassId} {A : Nat → Prop} {ad0 : Nat → Nat} {Q : St → Prop} {x1 : Int32} {x6 : Int32} {x10 : Int64} {x12 : Int32} {x13 : Int32} {s0 : Int64} {s1 : Int64} {σ : St} (X : Cx p rmX5_addProduct s m args meth c cX5_addProduct 16 RX5 D cA A) (hr : meth.sig.returnType = none) (h : w_X5_addProduct_196 Q x1 x6 x10 x12 x13 s0 s1 σ) : G p l e rmX5_addProduct s m args below meth c 16 D cA A (MQ below (va_Qv Q (EndW D cA ad0 shR) A) args s 0 0 A) 0 0 (fun ad => ad = ad0) shR σ [(0, .ref 0), (1, .int x1), (6, .int x6), (10, .long x10), (12, .int x12), (13, .int x13)] 196 [.long s0, .long s1] := by
  unfold w_X5_addProduct_196 at h
  refine g_ladd X dX5_addProduct_196 ?_
  refine g_nameJ (fun y17 ey17 => ?_)
  have h := h y17 ey17
  refine g_lstore X [(14, .long y17), (0, .ref 0), (1, .int x1), (6, .int x6), (10, .long x10), (12, .int x12), (13, .int x13)] dX5_addProduct_197 (Nat.le_of_ble_eq_true rfl) rfl ?_
  refine g_aload_n X 1 dX5_addProduct_199 rfl rfl ?_
  refine g_iload_n X 2 dX5_addProduct_200 rfl rfl ?_
  refine g_lload X 0 dX5_addProduct_201 rfl ?_
  refine g_lload X 4 dX5_addProduct_203 rfl ?_
  refine g_aload_n X 1 dX5_addProduct_205 rfl rfl ?_
  refine g_getJ X (C := RX5) (T := TX5) (N := 23) 16 dX5_addProduct_206 (Nat.le_of_ble_eq_true rfl) rfl rfl rfl inG5 (Nat.le_of_ble_eq_true rfl) rfl q585 ?_
  refine g_lmul X dX5_addProduct_209 ?_
  refine g_iload X 5 dX5_addProduct_210 rfl ?_
  refine g_aload_n X 1 dX5_addProduct_212 rfl rfl ?_
  refine g_getI X (C := RX5) (T := TX5) (N := 23) 17 dX5_addProduct_213 (Nat.le_of_ble_eq_true rfl) rfl rfl rfl inG5 (Nat.le_of_ble_eq_true rfl) rfl q586 ?_
  refine g_iadd X dX5_addProduct_216 ?_
  refine g_iload X 6 dX5_addProduct_217 rfl ?_
  refine g_aload_n X 1 dX5_addProduct_219 rfl rfl ?_
  refine g_getI X (C := RX5) (T := TX5) (N := 23) 18 dX5_addProduct_220 (Nat.le_of_ble_eq_true rfl) rfl rfl rfl inG5 (Nat.le_of_ble_eq_true rfl) rfl q587 ?_
  refine g_icmp_eq X 230 dX5_addProduct_223 (by decide) (fun hc => ?_) (fun hc => ?_)
  · have h := h.1 hc
    refine g_iconst X (0 : Int32) dX5_addProduct_230 (by decide) ?_
    refine g_weak [3] rfl ?_
    exact b_X5_addProduct_231 X hr h
  · have h := h.2 hc
    refine g_iconst X (1 : Int32) dX5_addProduct_226 (by decide) ?_
    refine g_goto X 231 dX5_addProduct_227 (by decide) ?_
    refine g_weak [3] rfl ?_
    exact b_X5_addProduct_231 X hr h
def w_X5_addProduct_180 (Q : St → Prop) (x1 : Int32) (x6 : Int32) (x10 : Int64) (x12 : Int32) (x13 : Int32) (s0 : Int64) (s1 : Int64) (σ : St) : Prop := (((0 : Int64) ≤ (gJ σ 0 16) → (w_X5_addProduct_196 Q x1 x6 x10 x12 x13 (0 : Int64) (s1 + s0) σ)) ∧ (¬ (0 : Int64) ≤ (gJ σ 0 16) → (w_X5_addProduct_196 Q x1 x6 x10 x12 x13 x10 (s1 + s0) σ)))
set_option maxRecDepth 100000 in
set_option maxHeartbeats 4000000 in
theorem b_X5_addProduct_180 {p : Program} {l : Launch} {e : Env} {s : State} {m : MethodId} {args : Array Value} {below : List Frame} {meth : Method} {c : Code} {D : va_G} {cA : Nat → ClassId} {A : Nat → Prop} {ad0 : Nat → Nat} {Q : St → Prop} {x1 : Int32} {x6 : Int32} {x10 : Int64} {x12 : Int32} {x13 : Int32} {s0 : Int64} {s1 : Int64} {σ : St} (X : Cx p rmX5_addProduct s m args meth c cX5_addProduct 16 RX5 D cA A) (hr : meth.sig.returnType = none) (h : w_X5_addProduct_180 Q x1 x6 x10 x12 x13 s0 s1 σ) : G p l e rmX5_addProduct s m args below meth c 16 D cA A (MQ below (va_Qv Q (EndW D cA ad0 shR) A) args s 0 0 A) 0 0 (fun ad => ad = ad0) shR σ [(0, .ref 0), (1, .int x1), (6, .int x6), (10, .long x10), (12, .int x12), (13, .int x13)] 180 [.long s0, .long s1] := by
  unfold w_X5_addProduct_180 at h
  refine g_ladd X dX5_addProduct_180 ?_
  refine g_aload_n X 0 dX5_addProduct_181 rfl rfl ?_
  refine g_getJ X (C := RX5) (T := TX5) (N := 23) 16 dX5_addProduct_182 (Nat.le_of_ble_eq_true rfl) rfl rfl rfl inG5 (Nat.le_of_ble_eq_true rfl) rfl q585 ?_
  refine g_lconst X (0 : Int64) dX5_addProduct_185 (by decide) ?_
  refine g_lcmp X dX5_addProduct_186 ?_
  refine g_if_ge X 195 dX5_addProduct_187 (by decide) (fun hc => ?_) (fun hc => ?_)
  · have h := h.1 (lgc_ge.mp hc)
    refine g_lconst X (0 : Int64) dX5_addProduct_195 (by decide) ?_
    exact b_X5_addProduct_196 X hr h
  · have h := h.2 (fun z => hc (lgc_ge.mpr z))
    refine g_lload X 3 dX5_addProduct_190 rfl ?_
    refine g_goto X 196 dX5_addProduct_192 (by decide) ?_
    exact b_X5_addProduct_196 X hr h
def w_X5_addProduct_65 (Q : St → Prop) (x1 : Int32) (x2 : Int32) (x3 : Int32) (x4 : Int32) (x5 : Int32) (x6 : Int32) (x7 : Int32) (x8 : Int32) (s0 : Int32) (σ : St) : Prop := ((s0 = 0 → ((¬ x7 = 0 → (w_X5_addProduct_92 Q x1 x2 x3 x4 x5 x6 σ)) ∧ (x7 = 0 → ((x8 = 0 → w_X5_apart (fun σ10 => ∀ y11 : Int64, y11 = (gJ σ10 0 16) → ∀ y12 : Int32, y12 = (gI σ10 0 17) → ∀ y13 : Int32, y13 = (gI σ10 0 18) → w_X5_apart (fun σ14 => w_J9_multiplyHigh_f86c9 (fun r16 σ15 => (((0 : Int64) ≤ y11 → (w_X5_addProduct_180 Q x1 x6 y11 y12 y13 (0 : Int64) r16 σ15)) ∧ (¬ (0 : Int64) ≤ y11 → (w_X5_addProduct_180 Q x1 x6 y11 y12 y13 (gJ σ15 0 16) r16 σ15)))) y11 (gJ σ14 0 16) σ14) x4 x5 σ10) x2 x3 σ) ∧ (¬ x8 = 0 → (w_X5_addProduct_92 Q x1 x2 x3 x4 x5 x6 σ)))))) ∧ (¬ s0 = 0 → w_X5_see_ (fun σ19 => (Q σ19)) x1 (0 : Int32) (1 : Int32) σ))
set_option maxRecDepth 100000 in
set_option maxHeartbeats 4000000 in
theorem b_X5_addProduct_65 {p : Program} {l : Launch} {e : Env} {s : State} {m : MethodId} {args : Array Value} {below : List Frame} {meth : Method} {c : Code} {D : va_G} {cA : Nat → ClassId} {A : Nat → Prop} {ad0 : Nat → Nat} {Q : St → Prop} {x1 : Int32} {x2 : Int32} {x3 : Int32} {x4 : Int32} {x5 : Int32} {x6 : Int32} {x7 : Int32} {x8 : Int32} {s0 : Int32} {σ : St} (X : Cx p rmX5_addProduct s m args meth c cX5_addProduct 16 RX5 D cA A) (hr : meth.sig.returnType = none) (h : w_X5_addProduct_65 Q x1 x2 x3 x4 x5 x6 x7 x8 s0 σ) : G p l e rmX5_addProduct s m args below meth c 16 D cA A (MQ below (va_Qv Q (EndW D cA ad0 shR) A) args s 0 0 A) 0 0 (fun ad => ad = ad0) shR σ [(0, .ref 0), (1, .int x1), (2, .int x2), (3, .int x3), (4, .int x4), (5, .int x5), (6, .int x6), (7, .int x7), (8, .int x8)] 65 [.int s0] := by
  unfold w_X5_addProduct_65 at h
  refine g_istore X [(9, .int s0), (0, .ref 0), (1, .int x1), (2, .int x2), (3, .int x3), (4, .int x4), (5, .int x5), (6, .int x6), (7, .int x7), (8, .int x8)] dX5_addProduct_65 (Nat.le_of_ble_eq_true rfl) rfl ?_
  refine g_iload X 0 dX5_addProduct_67 rfl ?_
  refine g_if_eq X 82 dX5_addProduct_69 (by decide) (fun hc => ?_) (fun hc => ?_)
  · have h := h.1 hc
    refine g_iload X 8 dX5_addProduct_82 rfl ?_
    refine g_if_ne X 92 dX5_addProduct_84 (by decide) (fun hc => ?_) (fun hc => ?_)
    · have h := h.1 hc
      refine g_weak [1, 2, 3, 4, 5, 6, 7] rfl ?_
      exact b_X5_addProduct_92 X hr h
    · have h := h.2 hc
      refine g_iload X 9 dX5_addProduct_87 rfl ?_
      refine g_if_eq X 124 dX5_addProduct_89 (by decide) (fun hc => ?_) (fun hc => ?_)
      · have h := h.1 hc
        refine g_aload_n X 1 dX5_addProduct_124 rfl rfl ?_
        refine g_iload_n X 3 dX5_addProduct_125 rfl rfl ?_
        refine g_iload_n X 4 dX5_addProduct_126 rfl rfl ?_
        refine g_callVV X (C := RX5) (T := TX5) (N := 23) (n := 2) [.int x2, .int x3] [] dX5_addProduct_127 (c_X5_apart l D cA h) q777 q779 q32 q57 q780 (Nat.le_of_ble_eq_true rfl) rfl rfl ⟨rfl, by decide, by decide, by decide +kernel⟩ rfl rfl (Nat.le_of_ble_eq_true rfl) rfl rfl ⟨(Nat.le_of_ble_eq_true rfl), (Nat.le_of_ble_eq_true rfl)⟩ (Nat.le_of_ble_eq_true rfl) (Nat.le_of_ble_eq_true rfl) (fun σ10 h => ?_)
        refine g_aload_n X 1 dX5_addProduct_130 rfl rfl ?_
        refine g_getJ X (C := RX5) (T := TX5) (N := 23) 16 dX5_addProduct_131 (Nat.le_of_ble_eq_true rfl) rfl rfl rfl inG5 (Nat.le_of_ble_eq_true rfl) rfl q585 ?_
        refine g_nameJ (fun y11 ey11 => ?_)
        have h := h y11 ey11
        refine g_lstore X [(10, .long y11), (9, .int s0), (0, .ref 0), (1, .int x1), (2, .int x2), (3, .int x3), (4, .int x4), (5, .int x5), (6, .int x6), (7, .int x7), (8, .int x8)] dX5_addProduct_134 (Nat.le_of_ble_eq_true rfl) rfl ?_
        refine g_aload_n X 2 dX5_addProduct_136 rfl rfl ?_
        refine g_getI X (C := RX5) (T := TX5) (N := 23) 17 dX5_addProduct_137 (Nat.le_of_ble_eq_true rfl) rfl rfl rfl inG5 (Nat.le_of_ble_eq_true rfl) rfl q586 ?_
        refine g_nameI (fun y12 ey12 => ?_)
        have h := h y12 ey12
        refine g_istore X [(12, .int y12), (10, .long y11), (9, .int s0), (0, .ref 0), (1, .int x1), (2, .int x2), (3, .int x3), (4, .int x4), (5, .int x5), (6, .int x6), (7, .int x7), (8, .int x8)] dX5_addProduct_140 (Nat.le_of_ble_eq_true rfl) rfl ?_
        refine g_aload_n X 3 dX5_addProduct_142 rfl rfl ?_
        refine g_getI X (C := RX5) (T := TX5) (N := 23) 18 dX5_addProduct_143 (Nat.le_of_ble_eq_true rfl) rfl rfl rfl inG5 (Nat.le_of_ble_eq_true rfl) rfl q587 ?_
        refine g_nameI (fun y13 ey13 => ?_)
        have h := h y13 ey13
        refine g_istore X [(13, .int y13), (12, .int y12), (10, .long y11), (9, .int s0), (0, .ref 0), (1, .int x1), (2, .int x2), (3, .int x3), (4, .int x4), (5, .int x5), (6, .int x6), (7, .int x7), (8, .int x8)] dX5_addProduct_146 (Nat.le_of_ble_eq_true rfl) rfl ?_
        refine g_aload_n X 4 dX5_addProduct_148 rfl rfl ?_
        refine g_iload X 8 dX5_addProduct_149 rfl ?_
        refine g_iload X 9 dX5_addProduct_151 rfl ?_
        refine g_callVV X (C := RX5) (T := TX5) (N := 23) (n := 2) [.int x4, .int x5] [] dX5_addProduct_153 (c_X5_apart l D cA h) q777 q779 q32 q57 q780 (Nat.le_of_ble_eq_true rfl) rfl rfl ⟨rfl, by decide, by decide, by decide +kernel⟩ rfl rfl (Nat.le_of_ble_eq_true rfl) rfl rfl ⟨(Nat.le_of_ble_eq_true rfl), (Nat.le_of_ble_eq_true rfl)⟩ (Nat.le_of_ble_eq_true rfl) (Nat.le_of_ble_eq_true rfl) (fun σ14 h => ?_)
        refine g_lload X 2 dX5_addProduct_156 rfl ?_
        refine g_aload_n X 4 dX5_addProduct_158 rfl rfl ?_
        refine g_getJ X (C := RX5) (T := TX5) (N := 23) 16 dX5_addProduct_159 (Nat.le_of_ble_eq_true rfl) rfl rfl rfl inG5 (Nat.le_of_ble_eq_true rfl) rfl q585 ?_
        refine g_callSL X (n := 2) [.long y11, .long (gJ σ14 0 16)] [] dX5_addProduct_162 (c_J9_multiplyHigh_f86c9 l D cA shR h) q786 q787 q53 q788 ⟨by decide, by decide, by decide +kernel⟩ rfl rfl (Nat.le_of_ble_eq_true rfl) rfl rfl ⟨(Nat.le_of_ble_eq_true rfl), (Nat.le_of_ble_eq_true rfl)⟩ (Nat.le_of_ble_eq_true rfl) (Nat.le_of_ble_eq_true rfl) (fun r16 σ15 h => ?_)
        refine g_lload X 2 dX5_addProduct_165 rfl ?_
        refine g_lconst X (0 : Int64) dX5_addProduct_167 (by decide) ?_
        refine g_lcmp X dX5_addProduct_168 ?_
        refine g_if_ge X 179 dX5_addProduct_169 (by decide) (fun hc => ?_) (fun hc => ?_)
        · have h := h.1 (lgc_ge.mp hc)
          refine g_lconst X (0 : Int64) dX5_addProduct_179 (by decide) ?_
          refine g_weak [4, 5, 10, 2, 1, 0] rfl ?_
          exact b_X5_addProduct_180 X hr h
        · have h := h.2 (fun z => hc (lgc_ge.mpr z))
          refine g_aload_n X 4 dX5_addProduct_172 rfl rfl ?_
          refine g_getJ X (C := RX5) (T := TX5) (N := 23) 16 dX5_addProduct_173 (Nat.le_of_ble_eq_true rfl) rfl rfl rfl inG5 (Nat.le_of_ble_eq_true rfl) rfl q585 ?_
          refine g_goto X 180 dX5_addProduct_176 (by decide) ?_
          refine g_weak [4, 5, 10, 2, 1, 0] rfl ?_
          exact b_X5_addProduct_180 X hr h
      · have h := h.2 hc
        refine g_weak [1, 2, 3, 4, 5, 6, 7] rfl ?_
        exact b_X5_addProduct_92 X hr h
  · have h := h.2 hc
    refine g_aload_n X 1 dX5_addProduct_72 rfl rfl ?_
    refine g_iload_n X 2 dX5_addProduct_73 rfl rfl ?_
    refine g_iconst X (0 : Int32) dX5_addProduct_74 (by decide) ?_
    refine g_iconst X (1 : Int32) dX5_addProduct_75 (by decide) ?_
    refine g_callVV X (C := RX5) (T := TX5) (N := 23) (n := 3) [.int x1, .int (0 : Int32), .int (1 : Int32)] [] dX5_addProduct_76 (c_X5_see_ l D cA h) q764 q766 q29 q57 q767 (Nat.le_of_ble_eq_true rfl) rfl rfl ⟨rfl, by decide, by decide, by decide +kernel⟩ rfl rfl (Nat.le_of_ble_eq_true rfl) rfl rfl ⟨(Nat.le_of_ble_eq_true rfl), (Nat.le_of_ble_eq_true rfl)⟩ (Nat.le_of_ble_eq_true rfl) (Nat.le_of_ble_eq_true rfl) (fun σ19 h => ?_)
    refine g_goto X 244 dX5_addProduct_79 (by decide) ?_
    exact g_vret X hr dX5_addProduct_244 h
def w_X5_addProduct_60 (Q : St → Prop) (x1 : Int32) (x2 : Int32) (x3 : Int32) (x4 : Int32) (x5 : Int32) (x6 : Int32) (x7 : Int32) (x8 : Int32) (σ : St) : Prop := (w_X5_addProduct_65 Q x1 x2 x3 x4 x5 x6 x7 x8 (1 : Int32) σ)
set_option maxRecDepth 100000 in
set_option maxHeartbeats 4000000 in
theorem b_X5_addProduct_60 {p : Program} {l : Launch} {e : Env} {s : State} {m : MethodId} {args : Array Value} {below : List Frame} {meth : Method} {c : Code} {D : va_G} {cA : Nat → ClassId} {A : Nat → Prop} {ad0 : Nat → Nat} {Q : St → Prop} {x1 : Int32} {x2 : Int32} {x3 : Int32} {x4 : Int32} {x5 : Int32} {x6 : Int32} {x7 : Int32} {x8 : Int32} {σ : St} (X : Cx p rmX5_addProduct s m args meth c cX5_addProduct 16 RX5 D cA A) (hr : meth.sig.returnType = none) (h : w_X5_addProduct_60 Q x1 x2 x3 x4 x5 x6 x7 x8 σ) : G p l e rmX5_addProduct s m args below meth c 16 D cA A (MQ below (va_Qv Q (EndW D cA ad0 shR) A) args s 0 0 A) 0 0 (fun ad => ad = ad0) shR σ [(0, .ref 0), (1, .int x1), (2, .int x2), (3, .int x3), (4, .int x4), (5, .int x5), (6, .int x6), (7, .int x7), (8, .int x8)] 60 [] := by
  unfold w_X5_addProduct_60 at h
  refine g_iconst X (1 : Int32) dX5_addProduct_60 (by decide) ?_
  refine g_goto X 65 dX5_addProduct_61 (by decide) ?_
  exact b_X5_addProduct_65 X hr h
def w_X5_addProduct_64 (Q : St → Prop) (x1 : Int32) (x2 : Int32) (x3 : Int32) (x4 : Int32) (x5 : Int32) (x6 : Int32) (x7 : Int32) (x8 : Int32) (σ : St) : Prop := (w_X5_addProduct_65 Q x1 x2 x3 x4 x5 x6 x7 x8 (0 : Int32) σ)
set_option maxRecDepth 100000 in
set_option maxHeartbeats 4000000 in
theorem b_X5_addProduct_64 {p : Program} {l : Launch} {e : Env} {s : State} {m : MethodId} {args : Array Value} {below : List Frame} {meth : Method} {c : Code} {D : va_G} {cA : Nat → ClassId} {A : Nat → Prop} {ad0 : Nat → Nat} {Q : St → Prop} {x1 : Int32} {x2 : Int32} {x3 : Int32} {x4 : Int32} {x5 : Int32} {x6 : Int32} {x7 : Int32} {x8 : Int32} {σ : St} (X : Cx p rmX5_addProduct s m args meth c cX5_addProduct 16 RX5 D cA A) (hr : meth.sig.returnType = none) (h : w_X5_addProduct_64 Q x1 x2 x3 x4 x5 x6 x7 x8 σ) : G p l e rmX5_addProduct s m args below meth c 16 D cA A (MQ below (va_Qv Q (EndW D cA ad0 shR) A) args s 0 0 A) 0 0 (fun ad => ad = ad0) shR σ [(0, .ref 0), (1, .int x1), (2, .int x2), (3, .int x3), (4, .int x4), (5, .int x5), (6, .int x6), (7, .int x7), (8, .int x8)] 64 [] := by
  unfold w_X5_addProduct_64 at h
  refine g_iconst X (0 : Int32) dX5_addProduct_64 (by decide) ?_
  exact b_X5_addProduct_65 X hr h
def w_X5_addProduct_46 (Q : St → Prop) (x1 : Int32) (x2 : Int32) (x3 : Int32) (x4 : Int32) (x5 : Int32) (x6 : Int32) (x7 : Int32) (x8 : Int32) (σ : St) : Prop := ((x8 = 0 → (w_X5_addProduct_64 Q x1 x2 x3 x4 x5 x6 x7 x8 σ)) ∧ (¬ x8 = 0 → w_X5_isZero (fun r21 σ20 => ((r21 = 0 → (w_X5_addProduct_64 Q x1 x2 x3 x4 x5 x6 x7 x8 σ20)) ∧ (¬ r21 = 0 → (w_X5_addProduct_60 Q x1 x2 x3 x4 x5 x6 x7 x8 σ20)))) x2 x3 σ))
set_option maxRecDepth 100000 in
set_option maxHeartbeats 4000000 in
theorem b_X5_addProduct_46 {p : Program} {l : Launch} {e : Env} {s : State} {m : MethodId} {args : Array Value} {below : List Frame} {meth : Method} {c : Code} {D : va_G} {cA : Nat → ClassId} {A : Nat → Prop} {ad0 : Nat → Nat} {Q : St → Prop} {x1 : Int32} {x2 : Int32} {x3 : Int32} {x4 : Int32} {x5 : Int32} {x6 : Int32} {x7 : Int32} {x8 : Int32} {σ : St} (X : Cx p rmX5_addProduct s m args meth c cX5_addProduct 16 RX5 D cA A) (hr : meth.sig.returnType = none) (h : w_X5_addProduct_46 Q x1 x2 x3 x4 x5 x6 x7 x8 σ) : G p l e rmX5_addProduct s m args below meth c 16 D cA A (MQ below (va_Qv Q (EndW D cA ad0 shR) A) args s 0 0 A) 0 0 (fun ad => ad = ad0) shR σ [(0, .ref 0), (1, .int x1), (2, .int x2), (3, .int x3), (4, .int x4), (5, .int x5), (6, .int x6), (7, .int x7), (8, .int x8)] 46 [] := by
  unfold w_X5_addProduct_46 at h
  refine g_iload X 8 dX5_addProduct_46 rfl ?_
  refine g_if_eq X 64 dX5_addProduct_48 (by decide) (fun hc => ?_) (fun hc => ?_)
  · have h := h.1 hc
    exact b_X5_addProduct_64 X hr h
  · have h := h.2 hc
    refine g_aload_n X 0 dX5_addProduct_51 rfl rfl ?_
    refine g_iload_n X 2 dX5_addProduct_52 rfl rfl ?_
    refine g_iload_n X 3 dX5_addProduct_53 rfl rfl ?_
    refine g_callVI X (C := RX5) (T := TX5) (N := 23) (n := 2) [.int x2, .int x3] [] dX5_addProduct_54 (c_X5_isZero l D cA h) q760 q762 q28 q57 q763 (Nat.le_of_ble_eq_true rfl) rfl rfl ⟨rfl, by decide, by decide, by decide +kernel⟩ rfl rfl (Nat.le_of_ble_eq_true rfl) rfl rfl ⟨(Nat.le_of_ble_eq_true rfl), (Nat.le_of_ble_eq_true rfl)⟩ (Nat.le_of_ble_eq_true rfl) (Nat.le_of_ble_eq_true rfl) (fun r21 σ20 h => ?_)
    refine g_if_eq X 64 dX5_addProduct_57 (by decide) (fun hc => ?_) (fun hc => ?_)
    · have h := h.1 hc
      exact b_X5_addProduct_64 X hr h
    · have h := h.2 hc
      exact b_X5_addProduct_60 X hr h
def w_X5_addProduct (Q : St → Prop) (x1 : Int32) (x2 : Int32) (x3 : Int32) (x4 : Int32) (x5 : Int32) (x6 : Int32) (σ : St) : Prop := w_X5_sortOf (fun r2 σ1 => w_X5_sortOf (fun r4 σ3 => ((r2 = (3 : Int32) → (w_X5_addProduct_60 Q x1 x2 x3 x4 x5 x6 r2 r4 σ3)) ∧ (¬ r2 = (3 : Int32) → ((r4 = (3 : Int32) → (w_X5_addProduct_60 Q x1 x2 x3 x4 x5 x6 r2 r4 σ3)) ∧ (¬ r4 = (3 : Int32) → ((r2 = 0 → (w_X5_addProduct_46 Q x1 x2 x3 x4 x5 x6 r2 r4 σ3)) ∧ (¬ r2 = 0 → w_X5_isZero (fun r23 σ22 => ((¬ r23 = 0 → (w_X5_addProduct_60 Q x1 x2 x3 x4 x5 x6 r2 r4 σ22)) ∧ (r23 = 0 → (w_X5_addProduct_46 Q x1 x2 x3 x4 x5 x6 r2 r4 σ22)))) x4 x5 σ3))))))) x4 x5 σ1) x2 x3 σ
set_option maxRecDepth 100000 in
set_option maxHeartbeats 4000000 in
theorem b_X5_addProduct_0 {p : Program} {l : Launch} {e : Env} {s : State} {m : MethodId} {args : Array Value} {below : List Frame} {meth : Method} {c : Code} {D : va_G} {cA : Nat → ClassId} {A : Nat → Prop} {ad0 : Nat → Nat} {Q : St → Prop} {x1 : Int32} {x2 : Int32} {x3 : Int32} {x4 : Int32} {x5 : Int32} {x6 : Int32} {σ : St} (X : Cx p rmX5_addProduct s m args meth c cX5_addProduct 16 RX5 D cA A) (hr : meth.sig.returnType = none) (h : w_X5_addProduct Q x1 x2 x3 x4 x5 x6 σ) : G p l e rmX5_addProduct s m args below meth c 16 D cA A (MQ below (va_Qv Q (EndW D cA ad0 shR) A) args s 0 0 A) 0 0 (fun ad => ad = ad0) shR σ [(0, .ref 0), (1, .int x1), (2, .int x2), (3, .int x3), (4, .int x4), (5, .int x5), (6, .int x6)] 0 [] := by
  unfold w_X5_addProduct at h
  refine g_aload_n X 0 dX5_addProduct_0 rfl rfl ?_
  refine g_iload_n X 2 dX5_addProduct_1 rfl rfl ?_
  refine g_iload_n X 3 dX5_addProduct_2 rfl rfl ?_
  refine g_callVI X (C := RX5) (T := TX5) (N := 23) (n := 2) [.int x2, .int x3] [] dX5_addProduct_3 (c_X5_sortOf l D cA h) q756 q758 q27 q57 q759 (Nat.le_of_ble_eq_true rfl) rfl rfl ⟨rfl, by decide, by decide, by decide +kernel⟩ rfl rfl (Nat.le_of_ble_eq_true rfl) rfl rfl ⟨(Nat.le_of_ble_eq_true rfl), (Nat.le_of_ble_eq_true rfl)⟩ (Nat.le_of_ble_eq_true rfl) (Nat.le_of_ble_eq_true rfl) (fun r2 σ1 h => ?_)
  refine g_istore X [(7, .int r2), (0, .ref 0), (1, .int x1), (2, .int x2), (3, .int x3), (4, .int x4), (5, .int x5), (6, .int x6)] dX5_addProduct_6 (Nat.le_of_ble_eq_true rfl) rfl ?_
  refine g_aload_n X 1 dX5_addProduct_8 rfl rfl ?_
  refine g_iload X 5 dX5_addProduct_9 rfl ?_
  refine g_iload X 6 dX5_addProduct_11 rfl ?_
  refine g_callVI X (C := RX5) (T := TX5) (N := 23) (n := 2) [.int x4, .int x5] [] dX5_addProduct_13 (c_X5_sortOf l D cA h) q756 q758 q27 q57 q759 (Nat.le_of_ble_eq_true rfl) rfl rfl ⟨rfl, by decide, by decide, by decide +kernel⟩ rfl rfl (Nat.le_of_ble_eq_true rfl) rfl rfl ⟨(Nat.le_of_ble_eq_true rfl), (Nat.le_of_ble_eq_true rfl)⟩ (Nat.le_of_ble_eq_true rfl) (Nat.le_of_ble_eq_true rfl) (fun r4 σ3 h => ?_)
  refine g_istore X [(8, .int r4), (7, .int r2), (0, .ref 0), (1, .int x1), (2, .int x2), (3, .int x3), (4, .int x4), (5, .int x5), (6, .int x6)] dX5_addProduct_16 (Nat.le_of_ble_eq_true rfl) rfl ?_
  refine g_iload X 1 dX5_addProduct_18 rfl ?_
  refine g_iconst X (3 : Int32) dX5_addProduct_20 (by decide) ?_
  refine g_icmp_eq X 60 dX5_addProduct_21 (by decide) (fun hc => ?_) (fun hc => ?_)
  · have h := h.1 hc
    refine g_weak [2, 3, 4, 5, 6, 7, 8, 1, 0] rfl ?_
    exact b_X5_addProduct_60 X hr h
  · have h := h.2 hc
    refine g_iload X 0 dX5_addProduct_24 rfl ?_
    refine g_iconst X (3 : Int32) dX5_addProduct_26 (by decide) ?_
    refine g_icmp_eq X 60 dX5_addProduct_27 (by decide) (fun hc => ?_) (fun hc => ?_)
    · have h := h.1 hc
      refine g_weak [2, 3, 4, 5, 6, 7, 8, 1, 0] rfl ?_
      exact b_X5_addProduct_60 X hr h
    · have h := h.2 hc
      refine g_iload X 1 dX5_addProduct_30 rfl ?_
      refine g_if_eq X 46 dX5_addProduct_32 (by decide) (fun hc => ?_) (fun hc => ?_)
      · have h := h.1 hc
        refine g_weak [2, 3, 4, 5, 6, 7, 8, 1, 0] rfl ?_
        exact b_X5_addProduct_46 X hr h
      · have h := h.2 hc
        refine g_aload_n X 2 dX5_addProduct_35 rfl rfl ?_
        refine g_iload X 6 dX5_addProduct_36 rfl ?_
        refine g_iload X 7 dX5_addProduct_38 rfl ?_
        refine g_callVI X (C := RX5) (T := TX5) (N := 23) (n := 2) [.int x4, .int x5] [] dX5_addProduct_40 (c_X5_isZero l D cA h) q760 q762 q28 q57 q763 (Nat.le_of_ble_eq_true rfl) rfl rfl ⟨rfl, by decide, by decide, by decide +kernel⟩ rfl rfl (Nat.le_of_ble_eq_true rfl) rfl rfl ⟨(Nat.le_of_ble_eq_true rfl), (Nat.le_of_ble_eq_true rfl)⟩ (Nat.le_of_ble_eq_true rfl) (Nat.le_of_ble_eq_true rfl) (fun r23 σ22 h => ?_)
        refine g_if_ne X 60 dX5_addProduct_43 (by decide) (fun hc => ?_) (fun hc => ?_)
        · have h := h.1 hc
          refine g_weak [2, 3, 4, 5, 6, 7, 8, 1, 0] rfl ?_
          exact b_X5_addProduct_60 X hr h
        · have h := h.2 hc
          refine g_weak [2, 3, 4, 5, 6, 7, 8, 1, 0] rfl ?_
          exact b_X5_addProduct_46 X hr h
theorem c_X5_addProduct (l : Launch) (D : va_G) (cA : Nat → ClassId) {x1 : Int32} {x2 : Int32} {x3 : Int32} {x4 : Int32} {x5 : Int32} {x6 : Int32} {σ : St} {Q : St → Prop} (h : w_X5_addProduct Q x1 x2 x3 x4 x5 x6 σ) : CtV l yX5_addProduct cX5_addProduct 16 (none) rmX5_addProduct D cA shR [.ref 0, .int x1, .int x2, .int x3, .int x4, .int x5, .int x6] σ Q := by
  refine CtV.of (own := RX5) rfl (by decide +kernel) [(0, .ref 0), (1, .int x1), (2, .int x2), (3, .int x3), (4, .int x4), (5, .int x5), (6, .int x6)] rfl (Nat.le_of_ble_eq_true rfl) ?_
  intro p e s m args below meth c ad0 A X hr
  exact b_X5_addProduct_0 X hr  h
def rmX5_sizeOf : Room := { frames := 0, cells := 0, slots := 0, locals := 0 }
def w_X5_sizeOf (Q : Int32 → St → Prop) (x0 : Int32) (σ : St) : Prop := ((0 ≤ x0 → (Q x0 σ)) ∧ (¬ 0 ≤ x0 → (Q (-x0) σ)))
set_option maxRecDepth 100000 in
set_option maxHeartbeats 4000000 in
theorem b_X5_sizeOf_0 {p : Program} {l : Launch} {e : Env} {s : State} {m : MethodId} {args : Array Value} {below : List Frame} {meth : Method} {c : Code} {D : va_G} {cA : Nat → ClassId} {A : Nat → Prop} {ad0 : Nat → Nat} {sh : SH} {Q : Int32 → St → Prop} {x0 : Int32} {σ : St} (X : Cx p rmX5_sizeOf s m args meth c cX5_sizeOf 1 RX5 D cA A) (hr : meth.sig.returnType = some .int) (h : w_X5_sizeOf Q x0 σ) : G p l e rmX5_sizeOf s m args below meth c 1 D cA A (MQ below (va_Qi Q (EndW D cA ad0 sh) A) args s 0 0 A) 0 0 (fun ad => ad = ad0) sh σ [(0, .int x0)] 0 [] := by
  unfold w_X5_sizeOf at h
  refine g_iload_n X 0 dX5_sizeOf_0 rfl rfl ?_
  refine g_if_ge X 9 dX5_sizeOf_1 (by decide) (fun hc => ?_) (fun hc => ?_)
  · have h := h.1 hc
    refine g_iload_n X 0 dX5_sizeOf_9 rfl rfl ?_
    exact g_iret X hr dX5_sizeOf_10 rfl h
  · have h := h.2 hc
    refine g_iload_n X 0 dX5_sizeOf_4 rfl rfl ?_
    refine g_ineg X dX5_sizeOf_5 ?_
    refine g_goto X 10 dX5_sizeOf_6 (by decide) ?_
    exact g_iret X hr dX5_sizeOf_10 rfl h
theorem c_X5_sizeOf (l : Launch) (D : va_G) (cA : Nat → ClassId) (sh : SH) {x0 : Int32} {σ : St} {Q : Int32 → St → Prop} (h : w_X5_sizeOf Q x0 σ) : CtI l yX5_sizeOf cX5_sizeOf 1 (some .int) rmX5_sizeOf D cA sh [.int x0] σ Q := by
  refine CtI.of (own := RX5) rfl (by decide +kernel) [(0, .int x0)] rfl (Nat.le_of_ble_eq_true rfl) ?_
  intro p e s m args below meth c ad0 A X hr
  exact b_X5_sizeOf_0 X hr  h
def rmX5_add : Room := { frames := 3, cells := 0, slots := 0, locals := 101 }
def w_X5_add_167 (K100 : Int32 → Int32 → Int32 → Int32 → Int32 → Int32 → St → Prop) (Q : Int32 → St → Prop) (x1 : Int32) (x2 : Int32) (x3 : Int32) (x4 : Int32) (x5 : Int32) (x6 : Int32) (s0 : Int32) (s1 : Int32) (s2 : Int32) (s3 : Int32) (σ : St) : Prop := w_X5_addPlace (fun σ20 => ∀ y21 : Int32, y21 = x6 + (1 : Int32) → (K100 x1 x2 x3 x4 x5 y21 σ20)) s3 s2 s1 s0 σ
set_option maxRecDepth 100000 in
set_option maxHeartbeats 4000000 in
theorem b_X5_add_167 {p : Program} {l : Launch} {e : Env} {s : State} {m : MethodId} {args : Array Value} {below : List Frame} {meth : Method} {c : Code} {D : va_G} {cA : Nat → ClassId} {A : Nat → Prop} {ad0 : Nat → Nat} {K100 : Int32 → Int32 → Int32 → Int32 → Int32 → Int32 → St → Prop} {Q : Int32 → St → Prop} {x1 : Int32} {x2 : Int32} {x3 : Int32} {x4 : Int32} {x5 : Int32} {x6 : Int32} {s0 : Int32} {s1 : Int32} {s2 : Int32} {s3 : Int32} {σ : St} (X : Cx p rmX5_add s m args meth c cX5_add 8 RX5 D cA A) (hr : meth.sig.returnType = some .int) (hK100 : ∀ (x1 : Int32) (x2 : Int32) (x3 : Int32) (x4 : Int32) (x5 : Int32) (x6 : Int32) (σ : St), K100 x1 x2 x3 x4 x5 x6 σ → G p l e rmX5_add s m args below meth c 8 D cA A (MQ below (va_Qi Q (EndW D cA ad0 shR) A) args s 0 0 A) 0 0 (fun ad => ad = ad0) shR σ [(0, .ref 0), (1, .int x1), (2, .int x2), (3, .int x3), (4, .int x4), (5, .int x5), (6, .int x6)] 100 []) (h : w_X5_add_167 K100 Q x1 x2 x3 x4 x5 x6 s0 s1 s2 s3 σ) : G p l e rmX5_add s m args below meth c 8 D cA A (MQ below (va_Qi Q (EndW D cA ad0 shR) A) args s 0 0 A) 0 0 (fun ad => ad = ad0) shR σ [(0, .ref 0), (1, .int x1), (2, .int x2), (3, .int x3), (4, .int x4), (5, .int x5), (6, .int x6)] 167 [.int s0, .int s1, .int s2, .int s3, .ref 0] := by
  unfold w_X5_add_167 at h
  refine g_callVV X (C := RX5) (T := TX5) (N := 23) (n := 4) [.int s3, .int s2, .int s1, .int s0] [] dX5_add_167 (c_X5_addPlace l D cA h) q800 q802 q36 q57 q803 (Nat.le_of_ble_eq_true rfl) rfl rfl ⟨rfl, by decide, by decide, by decide +kernel⟩ rfl rfl (Nat.le_of_ble_eq_true rfl) rfl rfl ⟨(Nat.le_of_ble_eq_true rfl), (Nat.le_of_ble_eq_true rfl)⟩ (Nat.le_of_ble_eq_true rfl) (Nat.le_of_ble_eq_true rfl) (fun σ20 h => ?_)
  obtain ⟨y21, ey21⟩ : ∃ y : Int32, y = x6 + (1 : Int32) := ⟨_, rfl⟩
  have h := h y21 ey21
  refine g_iinc X 6 (1 : Int32) [(6, .int y21), (0, .ref 0), (1, .int x1), (2, .int x2), (3, .int x3), (4, .int x4), (5, .int x5)] dX5_add_170 rfl (by decide) (Nat.le_of_ble_eq_true rfl) (by rw [ey21]; rfl) ?_
  refine g_goto X 100 dX5_add_173 (by decide) ?_
  refine g_weak [1, 2, 3, 4, 5, 6, 0] rfl ?_
  exact hK100 _ _ _ _ _ _ _ h
def w_X5_add_146 (K100 : Int32 → Int32 → Int32 → Int32 → Int32 → Int32 → St → Prop) (Q : Int32 → St → Prop) (x1 : Int32) (x2 : Int32) (x3 : Int32) (x4 : Int32) (x5 : Int32) (x6 : Int32) (s0 : Int32) (s1 : Int32) (s2 : Int32) (s3 : Int32) (s4 : Int32) (s5 : Int32) (σ : St) : Prop := w_X5_addProduct (fun σ22 => ∀ y23 : Int32, y23 = x6 + (1 : Int32) → (K100 x1 x2 x3 x4 x5 y23 σ22)) s5 s4 s3 s2 s1 s0 σ
set_option maxRecDepth 100000 in
set_option maxHeartbeats 4000000 in
theorem b_X5_add_146 {p : Program} {l : Launch} {e : Env} {s : State} {m : MethodId} {args : Array Value} {below : List Frame} {meth : Method} {c : Code} {D : va_G} {cA : Nat → ClassId} {A : Nat → Prop} {ad0 : Nat → Nat} {K100 : Int32 → Int32 → Int32 → Int32 → Int32 → Int32 → St → Prop} {Q : Int32 → St → Prop} {x1 : Int32} {x2 : Int32} {x3 : Int32} {x4 : Int32} {x5 : Int32} {x6 : Int32} {s0 : Int32} {s1 : Int32} {s2 : Int32} {s3 : Int32} {s4 : Int32} {s5 : Int32} {σ : St} (X : Cx p rmX5_add s m args meth c cX5_add 8 RX5 D cA A) (hr : meth.sig.returnType = some .int) (hK100 : ∀ (x1 : Int32) (x2 : Int32) (x3 : Int32) (x4 : Int32) (x5 : Int32) (x6 : Int32) (σ : St), K100 x1 x2 x3 x4 x5 x6 σ → G p l e rmX5_add s m args below meth c 8 D cA A (MQ below (va_Qi Q (EndW D cA ad0 shR) A) args s 0 0 A) 0 0 (fun ad => ad = ad0) shR σ [(0, .ref 0), (1, .int x1), (2, .int x2), (3, .int x3), (4, .int x4), (5, .int x5), (6, .int x6)] 100 []) (h : w_X5_add_146 K100 Q x1 x2 x3 x4 x5 x6 s0 s1 s2 s3 s4 s5 σ) : G p l e rmX5_add s m args below meth c 8 D cA A (MQ below (va_Qi Q (EndW D cA ad0 shR) A) args s 0 0 A) 0 0 (fun ad => ad = ad0) shR σ [(0, .ref 0), (1, .int x1), (2, .int x2), (3, .int x3), (4, .int x4), (5, .int x5), (6, .int x6)] 146 [.int s0, .int s1, .int s2, .int s3, .int s4, .int s5, .ref 0] := by
  unfold w_X5_add_146 at h
  refine g_callVV X (C := RX5) (T := TX5) (N := 23) (n := 6) [.int s5, .int s4, .int s3, .int s2, .int s1, .int s0] [] dX5_add_146 (c_X5_addProduct l D cA h) q752 q754 q26 q57 q755 (Nat.le_of_ble_eq_true rfl) rfl rfl ⟨rfl, by decide, by decide, by decide +kernel⟩ rfl rfl (Nat.le_of_ble_eq_true rfl) rfl rfl ⟨(Nat.le_of_ble_eq_true rfl), (Nat.le_of_ble_eq_true rfl)⟩ (Nat.le_of_ble_eq_true rfl) (Nat.le_of_ble_eq_true rfl) (fun σ22 h => ?_)
  refine g_goto X 170 dX5_add_149 (by decide) ?_
  obtain ⟨y23, ey23⟩ : ∃ y : Int32, y = x6 + (1 : Int32) := ⟨_, rfl⟩
  have h := h y23 ey23
  refine g_iinc X 6 (1 : Int32) [(6, .int y23), (0, .ref 0), (1, .int x1), (2, .int x2), (3, .int x3), (4, .int x4), (5, .int x5)] dX5_add_170 rfl (by decide) (Nat.le_of_ble_eq_true rfl) (by rw [ey23]; rfl) ?_
  refine g_goto X 100 dX5_add_173 (by decide) ?_
  refine g_weak [1, 2, 3, 4, 5, 6, 0] rfl ?_
  exact hK100 _ _ _ _ _ _ _ h
def w_X5_add_100 (Q : Int32 → St → Prop) : Nat → Int32 → Int32 → Int32 → Int32 → Int32 → Int32 → St → Prop
  | 0, _, _, _, _, _, _, _ => False
  | n + 1, x1, x2, x3, x4, x5, x6, σ => ((x5 ≤ x6 → ∀ σ17 : St, σ17 = uI σ 0 9 ((gI σ 0 9) + x5) → (Q x5 σ17)) ∧ (¬ x5 ≤ x6 → ∀ y18 : Int32, y18 = ((((40 : Int32) * x2) + x3) + x6) → vp_in x1 7 ∧ ((¬ (gI σ 6 (ix x1)) = (2 : Int32) → ((0 ≤ x4 → (w_X5_add_167 (fun x1 x2 x3 x4 x5 x6 σ => w_X5_add_100 Q n x1 x2 x3 x4 x5 x6 σ) Q x1 x2 x3 x4 x5 x6 (0 : Int32) y18 x2 x1 σ)) ∧ (¬ 0 ≤ x4 → (w_X5_add_167 (fun x1 x2 x3 x4 x5 x6 σ => w_X5_add_100 Q n x1 x2 x3 x4 x5 x6 σ) Q x1 x2 x3 x4 x5 x6 (1 : Int32) y18 x2 x1 σ)))) ∧ ((gI σ 6 (ix x1)) = (2 : Int32) → ((0 ≤ x4 → (w_X5_add_146 (fun x1 x2 x3 x4 x5 x6 σ => w_X5_add_100 Q n x1 x2 x3 x4 x5 x6 σ) Q x1 x2 x3 x4 x5 x6 (0 : Int32) y18 x2 y18 x2 x1 σ)) ∧ (¬ 0 ≤ x4 → (w_X5_add_146 (fun x1 x2 x3 x4 x5 x6 σ => w_X5_add_100 Q n x1 x2 x3 x4 x5 x6 σ) Q x1 x2 x3 x4 x5 x6 (1 : Int32) y18 x2 y18 x2 x1 σ)))))))
set_option maxRecDepth 100000 in
set_option maxHeartbeats 4000000 in
theorem b_X5_add_100 {p : Program} {l : Launch} {e : Env} {s : State} {m : MethodId} {args : Array Value} {below : List Frame} {meth : Method} {c : Code} {D : va_G} {cA : Nat → ClassId} {A : Nat → Prop} {ad0 : Nat → Nat} {Q : Int32 → St → Prop} (X : Cx p rmX5_add s m args meth c cX5_add 8 RX5 D cA A) (hr : meth.sig.returnType = some .int) : ∀ (n : Nat) (x1 : Int32) (x2 : Int32) (x3 : Int32) (x4 : Int32) (x5 : Int32) (x6 : Int32) (σ : St), w_X5_add_100 Q n x1 x2 x3 x4 x5 x6 σ → G p l e rmX5_add s m args below meth c 8 D cA A (MQ below (va_Qi Q (EndW D cA ad0 shR) A) args s 0 0 A) 0 0 (fun ad => ad = ad0) shR σ [(0, .ref 0), (1, .int x1), (2, .int x2), (3, .int x3), (4, .int x4), (5, .int x5), (6, .int x6)] 100 [] := by
  intro n
  induction n with
  | zero => intro x1 x2 x3 x4 x5 x6 σ h; exact h.elim
  | succ n ih =>
    intro x1 x2 x3 x4 x5 x6 σ h
    rw [w_X5_add_100] at h
    refine g_iload X 6 dX5_add_100 rfl ?_
    refine g_iload X 5 dX5_add_102 rfl ?_
    refine g_icmp_ge X 176 dX5_add_104 (by decide) (fun hc => ?_) (fun hc => ?_)
    · have h := h.1 hc
      refine g_aload_n X 0 dX5_add_176 rfl rfl ?_
      refine g_dup X dX5_add_177 rfl ?_
      refine g_getI X (C := RX5) (T := TX5) (N := 23) 9 dX5_add_178 (Nat.le_of_ble_eq_true rfl) rfl rfl rfl inG5 (Nat.le_of_ble_eq_true rfl) rfl q578 ?_
      refine g_iload X 5 dX5_add_181 rfl ?_
      refine g_iadd X dX5_add_183 ?_
      refine g_putI X (C := RX5) (T := TX5) (N := 23) (ty0 := tyX5) 9 dX5_add_184 (Nat.le_of_ble_eq_true rfl) rfl rfl rfl inG5 tyX5_ok nmX5 (Nat.le_of_ble_eq_true rfl) rfl rfl q578 rfl rfl ?_
      refine g_nameS (fun σ17 eσ17 => ?_)
      have h := h σ17 eσ17
      refine g_iload X 5 dX5_add_187 rfl ?_
      exact g_iret X hr dX5_add_189 rfl h
    · have h := h.2 hc
      refine g_bipush X (40 : Int32) dX5_add_107 (by decide) ?_
      refine g_iload_n X 2 dX5_add_109 rfl rfl ?_
      refine g_imul X dX5_add_110 ?_
      refine g_iload_n X 3 dX5_add_111 rfl rfl ?_
      refine g_iadd X dX5_add_112 ?_
      refine g_iload X 6 dX5_add_113 rfl ?_
      refine g_iadd X dX5_add_115 ?_
      refine g_nameI (fun y18 ey18 => ?_)
      have h := h y18 ey18
      refine g_istore X [(7, .int y18), (0, .ref 0), (1, .int x1), (2, .int x2), (3, .int x3), (4, .int x4), (5, .int x5), (6, .int x6)] dX5_add_116 (Nat.le_of_ble_eq_true rfl) rfl ?_
      refine g_aload_n X 1 dX5_add_118 rfl rfl ?_
      refine g_getR X (C := RX5) (T := TX5) (N := 23) 6 dX5_add_119 (Nat.le_of_ble_eq_true rfl) rfl rfl rfl inG5 (Nat.le_of_ble_eq_true rfl) rfl rfl q575 ?_
      refine g_iload_n X 2 dX5_add_122 rfl rfl ?_
      obtain ⟨hi19, h⟩ := h
      refine g_iald X dX5_add_123 (Nat.le_of_ble_eq_true rfl) rfl hi19 ?_
      refine g_iconst X (2 : Int32) dX5_add_124 (by decide) ?_
      refine g_icmp_ne X 152 dX5_add_125 (by decide) (fun hc => ?_) (fun hc => ?_)
      · have h := h.1 hc
        refine g_aload_n X 1 dX5_add_152 rfl rfl ?_
        refine g_iload_n X 2 dX5_add_153 rfl rfl ?_
        refine g_iload_n X 3 dX5_add_154 rfl rfl ?_
        refine g_iload X 0 dX5_add_155 rfl ?_
        refine g_iload X 5 dX5_add_157 rfl ?_
        refine g_if_ge X 166 dX5_add_159 (by decide) (fun hc => ?_) (fun hc => ?_)
        · have h := h.1 hc
          refine g_iconst X (0 : Int32) dX5_add_166 (by decide) ?_
          refine g_weak [1, 2, 3, 4, 5, 6, 7] rfl ?_
          exact b_X5_add_167 X hr (ih) h
        · have h := h.2 hc
          refine g_iconst X (1 : Int32) dX5_add_162 (by decide) ?_
          refine g_goto X 167 dX5_add_163 (by decide) ?_
          refine g_weak [1, 2, 3, 4, 5, 6, 7] rfl ?_
          exact b_X5_add_167 X hr (ih) h
      · have h := h.2 hc
        refine g_aload_n X 1 dX5_add_128 rfl rfl ?_
        refine g_iload_n X 2 dX5_add_129 rfl rfl ?_
        refine g_iload_n X 3 dX5_add_130 rfl rfl ?_
        refine g_iload X 0 dX5_add_131 rfl ?_
        refine g_iload_n X 3 dX5_add_133 rfl rfl ?_
        refine g_iload X 0 dX5_add_134 rfl ?_
        refine g_iload X 5 dX5_add_136 rfl ?_
        refine g_if_ge X 145 dX5_add_138 (by decide) (fun hc => ?_) (fun hc => ?_)
        · have h := h.1 hc
          refine g_iconst X (0 : Int32) dX5_add_145 (by decide) ?_
          refine g_weak [1, 2, 3, 4, 5, 6, 7] rfl ?_
          exact b_X5_add_146 X hr (ih) h
        · have h := h.2 hc
          refine g_iconst X (1 : Int32) dX5_add_141 (by decide) ?_
          refine g_goto X 146 dX5_add_142 (by decide) ?_
          refine g_weak [1, 2, 3, 4, 5, 6, 7] rfl ?_
          exact b_X5_add_146 X hr (ih) h
def w_X5_add (Q : Int32 → St → Prop) (x1 : Int32) (x2 : Int32) (x3 : Int32) (x4 : Int32) (σ : St) : Prop := ∀ σ1 : St, σ1 = uI σ 0 0 (0 : Int32) → w_X5_isKeeper (fun r3 σ2 => ((r3 = 0 → (Q (-3 : Int32) σ2)) ∧ (¬ r3 = 0 → w_X5_isRow (fun r5 σ4 => ((r5 = 0 → (Q (-3 : Int32) σ4)) ∧ (¬ r5 = 0 → w_X5_in (fun r7 σ6 => ((¬ r7 = 0 → vp_in x1 7 ∧ (((gI σ6 6 (ix x1)) = (-1 : Int32) → (Q (-11 : Int32) σ6)) ∧ (¬ (gI σ6 6 (ix x1)) = (-1 : Int32) → w_X5_isThere (fun r10 σ9 => ((¬ r10 = 0 → vp_in x1 7 ∧ ((¬ (gI σ9 6 (ix x1)) = (1 : Int32) → w_X5_sizeOf (fun r13 σ12 => w_X5_arePlaces (fun r15 σ14 => ((¬ r15 = 0 → w_X5_keep (fun σ16 => (∃ fu24 : Nat, w_X5_add_100 Q fu24 x1 x2 x3 x4 r13 (0 : Int32) σ16)) x1 σ14) ∧ (r15 = 0 → (Q (-13 : Int32) σ14)))) x2 x3 r13 σ12) x4 σ9) ∧ ((gI σ9 6 (ix x1)) = (1 : Int32) → (Q (-12 : Int32) σ9)))) ∧ (r10 = 0 → (Q (-11 : Int32) σ9)))) x2 σ6))) ∧ (r7 = 0 → (Q (-3 : Int32) σ6)))) (x4.toInt64) (-40 : Int64) (40 : Int64) σ4))) x2 σ2))) x1 σ1
set_option maxRecDepth 100000 in
set_option maxHeartbeats 4000000 in
theorem b_X5_add_0 {p : Program} {l : Launch} {e : Env} {s : State} {m : MethodId} {args : Array Value} {below : List Frame} {meth : Method} {c : Code} {D : va_G} {cA : Nat → ClassId} {A : Nat → Prop} {ad0 : Nat → Nat} {Q : Int32 → St → Prop} {x1 : Int32} {x2 : Int32} {x3 : Int32} {x4 : Int32} {σ : St} (X : Cx p rmX5_add s m args meth c cX5_add 8 RX5 D cA A) (hr : meth.sig.returnType = some .int) (h : w_X5_add Q x1 x2 x3 x4 σ) : G p l e rmX5_add s m args below meth c 8 D cA A (MQ below (va_Qi Q (EndW D cA ad0 shR) A) args s 0 0 A) 0 0 (fun ad => ad = ad0) shR σ [(0, .ref 0), (1, .int x1), (2, .int x2), (3, .int x3), (4, .int x4)] 0 [] := by
  unfold w_X5_add at h
  refine g_aload_n X 0 dX5_add_0 rfl rfl ?_
  refine g_iconst X (0 : Int32) dX5_add_1 (by decide) ?_
  refine g_putI X (C := RX5) (T := TX5) (N := 23) (ty0 := tyX5) 0 dX5_add_2 (Nat.le_of_ble_eq_true rfl) rfl rfl rfl inG5 tyX5_ok nmX5 (Nat.le_of_ble_eq_true rfl) rfl rfl q569 rfl rfl ?_
  refine g_nameS (fun σ1 eσ1 => ?_)
  have h := h σ1 eσ1
  refine g_iload_n X 1 dX5_add_5 rfl rfl ?_
  refine g_callSI X (n := 1) [.int x1] [] dX5_add_6 (c_X5_isKeeper l D cA shR h) q731 q732 q57 q733 ⟨by decide, by decide, by decide +kernel⟩ rfl rfl (Nat.le_of_ble_eq_true rfl) rfl rfl ⟨(Nat.le_of_ble_eq_true rfl), (Nat.le_of_ble_eq_true rfl)⟩ (Nat.le_of_ble_eq_true rfl) (Nat.le_of_ble_eq_true rfl) (fun r3 σ2 h => ?_)
  refine g_if_eq X 34 dX5_add_9 (by decide) (fun hc => ?_) (fun hc => ?_)
  · have h := h.1 hc
    refine g_bipush X (-3 : Int32) dX5_add_34 (by decide) ?_
    exact g_iret X hr dX5_add_36 rfl h
  · have h := h.2 hc
    refine g_iload_n X 2 dX5_add_12 rfl rfl ?_
    refine g_callSI X (n := 1) [.int x2] [] dX5_add_13 (c_X5_isRow l D cA shR h) q644 q645 q57 q646 ⟨by decide, by decide, by decide +kernel⟩ rfl rfl (Nat.le_of_ble_eq_true rfl) rfl rfl ⟨(Nat.le_of_ble_eq_true rfl), (Nat.le_of_ble_eq_true rfl)⟩ (Nat.le_of_ble_eq_true rfl) (Nat.le_of_ble_eq_true rfl) (fun r5 σ4 h => ?_)
    refine g_if_eq X 34 dX5_add_16 (by decide) (fun hc => ?_) (fun hc => ?_)
    · have h := h.1 hc
      refine g_bipush X (-3 : Int32) dX5_add_34 (by decide) ?_
      exact g_iret X hr dX5_add_36 rfl h
    · have h := h.2 hc
      refine g_iload X 4 dX5_add_19 rfl ?_
      refine g_i2l X dX5_add_21 ?_
      refine g_ldc2 X q747 dX5_add_22 ?_
      refine g_ldc2 X q748 dX5_add_25 ?_
      refine g_callSI X (n := 3) [.long (x4.toInt64), .long (-40 : Int64), .long (40 : Int64)] [] dX5_add_28 (c_X5_in l D cA shR h) q648 q649 q57 q650 ⟨by decide, by decide, by decide +kernel⟩ rfl rfl (Nat.le_of_ble_eq_true rfl) rfl rfl ⟨(Nat.le_of_ble_eq_true rfl), (Nat.le_of_ble_eq_true rfl)⟩ (Nat.le_of_ble_eq_true rfl) (Nat.le_of_ble_eq_true rfl) (fun r7 σ6 h => ?_)
      refine g_if_ne X 37 dX5_add_31 (by decide) (fun hc => ?_) (fun hc => ?_)
      · have h := h.1 hc
        refine g_aload_n X 0 dX5_add_37 rfl rfl ?_
        refine g_getR X (C := RX5) (T := TX5) (N := 23) 6 dX5_add_38 (Nat.le_of_ble_eq_true rfl) rfl rfl rfl inG5 (Nat.le_of_ble_eq_true rfl) rfl rfl q575 ?_
        refine g_iload_n X 1 dX5_add_41 rfl rfl ?_
        obtain ⟨hi8, h⟩ := h
        refine g_iald X dX5_add_42 (Nat.le_of_ble_eq_true rfl) rfl hi8 ?_
        refine g_iconst X (-1 : Int32) dX5_add_43 (by decide) ?_
        refine g_icmp_eq X 55 dX5_add_44 (by decide) (fun hc => ?_) (fun hc => ?_)
        · have h := h.1 hc
          refine g_bipush X (-11 : Int32) dX5_add_55 (by decide) ?_
          exact g_iret X hr dX5_add_57 rfl h
        · have h := h.2 hc
          refine g_aload_n X 0 dX5_add_47 rfl rfl ?_
          refine g_iload_n X 2 dX5_add_48 rfl rfl ?_
          refine g_callVI X (C := RX5) (T := TX5) (N := 23) (n := 1) [.int x2] [] dX5_add_49 (c_X5_isThere l D cA h) q656 q658 q18 q57 q659 (Nat.le_of_ble_eq_true rfl) rfl rfl ⟨rfl, by decide, by decide, by decide +kernel⟩ rfl rfl (Nat.le_of_ble_eq_true rfl) rfl rfl ⟨(Nat.le_of_ble_eq_true rfl), (Nat.le_of_ble_eq_true rfl)⟩ (Nat.le_of_ble_eq_true rfl) (Nat.le_of_ble_eq_true rfl) (fun r10 σ9 h => ?_)
          refine g_if_ne X 58 dX5_add_52 (by decide) (fun hc => ?_) (fun hc => ?_)
          · have h := h.1 hc
            refine g_aload_n X 0 dX5_add_58 rfl rfl ?_
            refine g_getR X (C := RX5) (T := TX5) (N := 23) 6 dX5_add_59 (Nat.le_of_ble_eq_true rfl) rfl rfl rfl inG5 (Nat.le_of_ble_eq_true rfl) rfl rfl q575 ?_
            refine g_iload_n X 1 dX5_add_62 rfl rfl ?_
            obtain ⟨hi11, h⟩ := h
            refine g_iald X dX5_add_63 (Nat.le_of_ble_eq_true rfl) rfl hi11 ?_
            refine g_iconst X (1 : Int32) dX5_add_64 (by decide) ?_
            refine g_icmp_ne X 71 dX5_add_65 (by decide) (fun hc => ?_) (fun hc => ?_)
            · have h := h.1 hc
              refine g_iload X 4 dX5_add_71 rfl ?_
              refine g_callSI X (n := 1) [.int x4] [] dX5_add_73 (c_X5_sizeOf l D cA shR h) q749 q750 q57 q751 ⟨by decide, by decide, by decide +kernel⟩ rfl rfl (Nat.le_of_ble_eq_true rfl) rfl rfl ⟨(Nat.le_of_ble_eq_true rfl), (Nat.le_of_ble_eq_true rfl)⟩ (Nat.le_of_ble_eq_true rfl) (Nat.le_of_ble_eq_true rfl) (fun r13 σ12 h => ?_)
              refine g_istore X [(5, .int r13), (0, .ref 0), (1, .int x1), (2, .int x2), (3, .int x3), (4, .int x4)] dX5_add_76 (Nat.le_of_ble_eq_true rfl) rfl ?_
              refine g_aload_n X 1 dX5_add_78 rfl rfl ?_
              refine g_iload_n X 3 dX5_add_79 rfl rfl ?_
              refine g_iload_n X 4 dX5_add_80 rfl rfl ?_
              refine g_iload X 0 dX5_add_81 rfl ?_
              refine g_callVI X (C := RX5) (T := TX5) (N := 23) (n := 3) [.int x2, .int x3, .int r13] [] dX5_add_83 (c_X5_arePlaces l D cA h) q696 q698 q22 q57 q699 (Nat.le_of_ble_eq_true rfl) rfl rfl ⟨rfl, by decide, by decide, by decide +kernel⟩ rfl rfl (Nat.le_of_ble_eq_true rfl) rfl rfl ⟨(Nat.le_of_ble_eq_true rfl), (Nat.le_of_ble_eq_true rfl)⟩ (Nat.le_of_ble_eq_true rfl) (Nat.le_of_ble_eq_true rfl) (fun r15 σ14 h => ?_)
              refine g_if_ne X 92 dX5_add_86 (by decide) (fun hc => ?_) (fun hc => ?_)
              · have h := h.1 hc
                refine g_aload_n X 1 dX5_add_92 rfl rfl ?_
                refine g_iload_n X 2 dX5_add_93 rfl rfl ?_
                refine g_callVV X (C := RX5) (T := TX5) (N := 23) (n := 1) [.int x1] [] dX5_add_94 (c_X5_keep l D cA h) q735 q737 q24 q57 q738 (Nat.le_of_ble_eq_true rfl) rfl rfl ⟨rfl, by decide, by decide, by decide +kernel⟩ rfl rfl (Nat.le_of_ble_eq_true rfl) rfl rfl ⟨(Nat.le_of_ble_eq_true rfl), (Nat.le_of_ble_eq_true rfl)⟩ (Nat.le_of_ble_eq_true rfl) (Nat.le_of_ble_eq_true rfl) (fun σ16 h => ?_)
                refine g_iconst X (0 : Int32) dX5_add_97 (by decide) ?_
                refine g_istore X [(6, .int (0 : Int32)), (5, .int r13), (0, .ref 0), (1, .int x1), (2, .int x2), (3, .int x3), (4, .int x4)] dX5_add_98 (Nat.le_of_ble_eq_true rfl) rfl ?_
                refine g_weak [2, 3, 4, 5, 6, 1, 0] rfl ?_
                obtain ⟨fu24, h⟩ := h
                exact b_X5_add_100 X hr fu24 _ _ _ _ _ _ _ h
              · have h := h.2 hc
                refine g_bipush X (-13 : Int32) dX5_add_89 (by decide) ?_
                exact g_iret X hr dX5_add_91 rfl h
            · have h := h.2 hc
              refine g_bipush X (-12 : Int32) dX5_add_68 (by decide) ?_
              exact g_iret X hr dX5_add_70 rfl h
          · have h := h.2 hc
            refine g_bipush X (-11 : Int32) dX5_add_55 (by decide) ?_
            exact g_iret X hr dX5_add_57 rfl h
      · have h := h.2 hc
        refine g_bipush X (-3 : Int32) dX5_add_34 (by decide) ?_
        exact g_iret X hr dX5_add_36 rfl h
theorem c_X5_add (l : Launch) (D : va_G) (cA : Nat → ClassId) {x1 : Int32} {x2 : Int32} {x3 : Int32} {x4 : Int32} {σ : St} {Q : Int32 → St → Prop} (h : w_X5_add Q x1 x2 x3 x4 σ) : CtI l yX5_add cX5_add 8 (some .int) rmX5_add D cA shR [.ref 0, .int x1, .int x2, .int x3, .int x4] σ Q := by
  refine CtI.of (own := RX5) rfl (by decide +kernel) [(0, .ref 0), (1, .int x1), (2, .int x2), (3, .int x3), (4, .int x4)] rfl (Nat.le_of_ble_eq_true rfl) ?_
  intro p e s m args below meth c ad0 A X hr
  exact b_X5_add_0 X hr  h
def rmX5_pair : Room := { frames := 3, cells := 0, slots := 0, locals := 101 }
def w_X5_pair_168 (K127 : Int32 → Int32 → Int32 → Int32 → Int32 → Int32 → Int32 → St → Prop) (Q : Int32 → St → Prop) (x1 : Int32) (x2 : Int32) (x3 : Int32) (x4 : Int32) (x5 : Int32) (x6 : Int32) (x7 : Int32) (s0 : Int32) (s1 : Int32) (s2 : Int32) (s3 : Int32) (s4 : Int32) (s5 : Int32) (σ : St) : Prop := w_X5_addProduct (fun σ24 => ∀ y25 : Int32, y25 = x7 + (1 : Int32) → (K127 x1 x2 x3 x4 x5 x6 y25 σ24)) s5 s4 s3 s2 s1 s0 σ
set_option maxRecDepth 100000 in
set_option maxHeartbeats 4000000 in
theorem b_X5_pair_168 {p : Program} {l : Launch} {e : Env} {s : State} {m : MethodId} {args : Array Value} {below : List Frame} {meth : Method} {c : Code} {D : va_G} {cA : Nat → ClassId} {A : Nat → Prop} {ad0 : Nat → Nat} {K127 : Int32 → Int32 → Int32 → Int32 → Int32 → Int32 → Int32 → St → Prop} {Q : Int32 → St → Prop} {x1 : Int32} {x2 : Int32} {x3 : Int32} {x4 : Int32} {x5 : Int32} {x6 : Int32} {x7 : Int32} {s0 : Int32} {s1 : Int32} {s2 : Int32} {s3 : Int32} {s4 : Int32} {s5 : Int32} {σ : St} (X : Cx p rmX5_pair s m args meth c cX5_pair 8 RX5 D cA A) (hr : meth.sig.returnType = some .int) (hK127 : ∀ (x1 : Int32) (x2 : Int32) (x3 : Int32) (x4 : Int32) (x5 : Int32) (x6 : Int32) (x7 : Int32) (σ : St), K127 x1 x2 x3 x4 x5 x6 x7 σ → G p l e rmX5_pair s m args below meth c 8 D cA A (MQ below (va_Qi Q (EndW D cA ad0 shR) A) args s 0 0 A) 0 0 (fun ad => ad = ad0) shR σ [(0, .ref 0), (1, .int x1), (2, .int x2), (3, .int x3), (4, .int x4), (5, .int x5), (6, .int x6), (7, .int x7)] 127 []) (h : w_X5_pair_168 K127 Q x1 x2 x3 x4 x5 x6 x7 s0 s1 s2 s3 s4 s5 σ) : G p l e rmX5_pair s m args below meth c 8 D cA A (MQ below (va_Qi Q (EndW D cA ad0 shR) A) args s 0 0 A) 0 0 (fun ad => ad = ad0) shR σ [(0, .ref 0), (1, .int x1), (2, .int x2), (3, .int x3), (4, .int x4), (5, .int x5), (6, .int x6), (7, .int x7)] 168 [.int s0, .int s1, .int s2, .int s3, .int s4, .int s5, .ref 0] := by
  unfold w_X5_pair_168 at h
  refine g_callVV X (C := RX5) (T := TX5) (N := 23) (n := 6) [.int s5, .int s4, .int s3, .int s2, .int s1, .int s0] [] dX5_pair_168 (c_X5_addProduct l D cA h) q752 q754 q26 q57 q755 (Nat.le_of_ble_eq_true rfl) rfl rfl ⟨rfl, by decide, by decide, by decide +kernel⟩ rfl rfl (Nat.le_of_ble_eq_true rfl) rfl rfl ⟨(Nat.le_of_ble_eq_true rfl), (Nat.le_of_ble_eq_true rfl)⟩ (Nat.le_of_ble_eq_true rfl) (Nat.le_of_ble_eq_true rfl) (fun σ24 h => ?_)
  obtain ⟨y25, ey25⟩ : ∃ y : Int32, y = x7 + (1 : Int32) := ⟨_, rfl⟩
  have h := h y25 ey25
  refine g_iinc X 7 (1 : Int32) [(7, .int y25), (0, .ref 0), (1, .int x1), (2, .int x2), (3, .int x3), (4, .int x4), (5, .int x5), (6, .int x6)] dX5_pair_171 rfl (by decide) (Nat.le_of_ble_eq_true rfl) (by rw [ey25]; rfl) ?_
  refine g_goto X 127 dX5_pair_174 (by decide) ?_
  refine g_weak [1, 2, 3, 4, 5, 6, 7, 0] rfl ?_
  exact hK127 _ _ _ _ _ _ _ _ h
def w_X5_pair_127 (Q : Int32 → St → Prop) : Nat → Int32 → Int32 → Int32 → Int32 → Int32 → Int32 → Int32 → St → Prop
  | 0, _, _, _, _, _, _, _, _ => False
  | n + 1, x1, x2, x3, x4, x5, x6, x7, σ => ((x6 ≤ x7 → ∀ σ23 : St, σ23 = uI σ 0 9 ((gI σ 0 9) + x6) → (Q x6 σ23)) ∧ (¬ x6 ≤ x7 → ((0 ≤ x5 → (w_X5_pair_168 (fun x1 x2 x3 x4 x5 x6 x7 σ => w_X5_pair_127 Q n x1 x2 x3 x4 x5 x6 x7 σ) Q x1 x2 x3 x4 x5 x6 x7 (0 : Int32) ((((40 : Int32) * x3) + x4) + x7) x3 ((((40 : Int32) * x2) + x4) + x7) x2 x1 σ)) ∧ (¬ 0 ≤ x5 → (w_X5_pair_168 (fun x1 x2 x3 x4 x5 x6 x7 σ => w_X5_pair_127 Q n x1 x2 x3 x4 x5 x6 x7 σ) Q x1 x2 x3 x4 x5 x6 x7 (1 : Int32) ((((40 : Int32) * x3) + x4) + x7) x3 ((((40 : Int32) * x2) + x4) + x7) x2 x1 σ)))))
set_option maxRecDepth 100000 in
set_option maxHeartbeats 4000000 in
theorem b_X5_pair_127 {p : Program} {l : Launch} {e : Env} {s : State} {m : MethodId} {args : Array Value} {below : List Frame} {meth : Method} {c : Code} {D : va_G} {cA : Nat → ClassId} {A : Nat → Prop} {ad0 : Nat → Nat} {Q : Int32 → St → Prop} (X : Cx p rmX5_pair s m args meth c cX5_pair 8 RX5 D cA A) (hr : meth.sig.returnType = some .int) : ∀ (n : Nat) (x1 : Int32) (x2 : Int32) (x3 : Int32) (x4 : Int32) (x5 : Int32) (x6 : Int32) (x7 : Int32) (σ : St), w_X5_pair_127 Q n x1 x2 x3 x4 x5 x6 x7 σ → G p l e rmX5_pair s m args below meth c 8 D cA A (MQ below (va_Qi Q (EndW D cA ad0 shR) A) args s 0 0 A) 0 0 (fun ad => ad = ad0) shR σ [(0, .ref 0), (1, .int x1), (2, .int x2), (3, .int x3), (4, .int x4), (5, .int x5), (6, .int x6), (7, .int x7)] 127 [] := by
  intro n
  induction n with
  | zero => intro x1 x2 x3 x4 x5 x6 x7 σ h; exact h.elim
  | succ n ih =>
    intro x1 x2 x3 x4 x5 x6 x7 σ h
    rw [w_X5_pair_127] at h
    refine g_iload X 7 dX5_pair_127 rfl ?_
    refine g_iload X 6 dX5_pair_129 rfl ?_
    refine g_icmp_ge X 177 dX5_pair_131 (by decide) (fun hc => ?_) (fun hc => ?_)
    · have h := h.1 hc
      refine g_aload_n X 0 dX5_pair_177 rfl rfl ?_
      refine g_dup X dX5_pair_178 rfl ?_
      refine g_getI X (C := RX5) (T := TX5) (N := 23) 9 dX5_pair_179 (Nat.le_of_ble_eq_true rfl) rfl rfl rfl inG5 (Nat.le_of_ble_eq_true rfl) rfl q578 ?_
      refine g_iload X 6 dX5_pair_182 rfl ?_
      refine g_iadd X dX5_pair_184 ?_
      refine g_putI X (C := RX5) (T := TX5) (N := 23) (ty0 := tyX5) 9 dX5_pair_185 (Nat.le_of_ble_eq_true rfl) rfl rfl rfl inG5 tyX5_ok nmX5 (Nat.le_of_ble_eq_true rfl) rfl rfl q578 rfl rfl ?_
      refine g_nameS (fun σ23 eσ23 => ?_)
      have h := h σ23 eσ23
      refine g_iload X 6 dX5_pair_188 rfl ?_
      exact g_iret X hr dX5_pair_190 rfl h
    · have h := h.2 hc
      refine g_aload_n X 0 dX5_pair_134 rfl rfl ?_
      refine g_iload_n X 1 dX5_pair_135 rfl rfl ?_
      refine g_iload_n X 2 dX5_pair_136 rfl rfl ?_
      refine g_bipush X (40 : Int32) dX5_pair_137 (by decide) ?_
      refine g_iload_n X 2 dX5_pair_139 rfl rfl ?_
      refine g_imul X dX5_pair_140 ?_
      refine g_iload X 4 dX5_pair_141 rfl ?_
      refine g_iadd X dX5_pair_143 ?_
      refine g_iload X 7 dX5_pair_144 rfl ?_
      refine g_iadd X dX5_pair_146 ?_
      refine g_iload_n X 3 dX5_pair_147 rfl rfl ?_
      refine g_bipush X (40 : Int32) dX5_pair_148 (by decide) ?_
      refine g_iload_n X 3 dX5_pair_150 rfl rfl ?_
      refine g_imul X dX5_pair_151 ?_
      refine g_iload X 4 dX5_pair_152 rfl ?_
      refine g_iadd X dX5_pair_154 ?_
      refine g_iload X 7 dX5_pair_155 rfl ?_
      refine g_iadd X dX5_pair_157 ?_
      refine g_iload X 5 dX5_pair_158 rfl ?_
      refine g_if_ge X 167 dX5_pair_160 (by decide) (fun hc => ?_) (fun hc => ?_)
      · have h := h.1 hc
        refine g_iconst X (0 : Int32) dX5_pair_167 (by decide) ?_
        exact b_X5_pair_168 X hr (ih) h
      · have h := h.2 hc
        refine g_iconst X (1 : Int32) dX5_pair_163 (by decide) ?_
        refine g_goto X 168 dX5_pair_164 (by decide) ?_
        exact b_X5_pair_168 X hr (ih) h
def w_X5_pair (Q : Int32 → St → Prop) (x1 : Int32) (x2 : Int32) (x3 : Int32) (x4 : Int32) (x5 : Int32) (σ : St) : Prop := ∀ σ1 : St, σ1 = uI σ 0 0 (0 : Int32) → w_X5_isKeeper (fun r3 σ2 => ((r3 = 0 → (Q (-3 : Int32) σ2)) ∧ (¬ r3 = 0 → w_X5_isRow (fun r5 σ4 => ((r5 = 0 → (Q (-3 : Int32) σ4)) ∧ (¬ r5 = 0 → w_X5_isRow (fun r7 σ6 => ((r7 = 0 → (Q (-3 : Int32) σ6)) ∧ (¬ r7 = 0 → w_X5_in (fun r9 σ8 => ((¬ r9 = 0 → vp_in x1 7 ∧ (((gI σ8 6 (ix x1)) = (-1 : Int32) → (Q (-11 : Int32) σ8)) ∧ (¬ (gI σ8 6 (ix x1)) = (-1 : Int32) → w_X5_isThere (fun r12 σ11 => ((r12 = 0 → (Q (-11 : Int32) σ11)) ∧ (¬ r12 = 0 → w_X5_isThere (fun r14 σ13 => ((¬ r14 = 0 → vp_in x1 7 ∧ ((¬ (gI σ13 6 (ix x1)) = 0 → w_X5_sizeOf (fun r17 σ16 => w_X5_arePlaces (fun r19 σ18 => ((r19 = 0 → (Q (-13 : Int32) σ18)) ∧ (¬ r19 = 0 → w_X5_arePlaces (fun r21 σ20 => ((¬ r21 = 0 → w_X5_keep (fun σ22 => (∃ fu26 : Nat, w_X5_pair_127 Q fu26 x1 x2 x3 x4 x5 r17 (0 : Int32) σ22)) x1 σ20) ∧ (r21 = 0 → (Q (-13 : Int32) σ20)))) x3 x4 r17 σ18))) x2 x4 r17 σ16) x5 σ13) ∧ ((gI σ13 6 (ix x1)) = 0 → (Q (-12 : Int32) σ13)))) ∧ (r14 = 0 → (Q (-11 : Int32) σ13)))) x3 σ11))) x2 σ8))) ∧ (r9 = 0 → (Q (-3 : Int32) σ8)))) (x5.toInt64) (-40 : Int64) (40 : Int64) σ6))) x3 σ4))) x2 σ2))) x1 σ1
set_option maxRecDepth 100000 in
set_option maxHeartbeats 4000000 in
theorem b_X5_pair_0 {p : Program} {l : Launch} {e : Env} {s : State} {m : MethodId} {args : Array Value} {below : List Frame} {meth : Method} {c : Code} {D : va_G} {cA : Nat → ClassId} {A : Nat → Prop} {ad0 : Nat → Nat} {Q : Int32 → St → Prop} {x1 : Int32} {x2 : Int32} {x3 : Int32} {x4 : Int32} {x5 : Int32} {σ : St} (X : Cx p rmX5_pair s m args meth c cX5_pair 8 RX5 D cA A) (hr : meth.sig.returnType = some .int) (h : w_X5_pair Q x1 x2 x3 x4 x5 σ) : G p l e rmX5_pair s m args below meth c 8 D cA A (MQ below (va_Qi Q (EndW D cA ad0 shR) A) args s 0 0 A) 0 0 (fun ad => ad = ad0) shR σ [(0, .ref 0), (1, .int x1), (2, .int x2), (3, .int x3), (4, .int x4), (5, .int x5)] 0 [] := by
  unfold w_X5_pair at h
  refine g_aload_n X 0 dX5_pair_0 rfl rfl ?_
  refine g_iconst X (0 : Int32) dX5_pair_1 (by decide) ?_
  refine g_putI X (C := RX5) (T := TX5) (N := 23) (ty0 := tyX5) 0 dX5_pair_2 (Nat.le_of_ble_eq_true rfl) rfl rfl rfl inG5 tyX5_ok nmX5 (Nat.le_of_ble_eq_true rfl) rfl rfl q569 rfl rfl ?_
  refine g_nameS (fun σ1 eσ1 => ?_)
  have h := h σ1 eσ1
  refine g_iload_n X 1 dX5_pair_5 rfl rfl ?_
  refine g_callSI X (n := 1) [.int x1] [] dX5_pair_6 (c_X5_isKeeper l D cA shR h) q731 q732 q57 q733 ⟨by decide, by decide, by decide +kernel⟩ rfl rfl (Nat.le_of_ble_eq_true rfl) rfl rfl ⟨(Nat.le_of_ble_eq_true rfl), (Nat.le_of_ble_eq_true rfl)⟩ (Nat.le_of_ble_eq_true rfl) (Nat.le_of_ble_eq_true rfl) (fun r3 σ2 h => ?_)
  refine g_if_eq X 41 dX5_pair_9 (by decide) (fun hc => ?_) (fun hc => ?_)
  · have h := h.1 hc
    refine g_bipush X (-3 : Int32) dX5_pair_41 (by decide) ?_
    exact g_iret X hr dX5_pair_43 rfl h
  · have h := h.2 hc
    refine g_iload_n X 2 dX5_pair_12 rfl rfl ?_
    refine g_callSI X (n := 1) [.int x2] [] dX5_pair_13 (c_X5_isRow l D cA shR h) q644 q645 q57 q646 ⟨by decide, by decide, by decide +kernel⟩ rfl rfl (Nat.le_of_ble_eq_true rfl) rfl rfl ⟨(Nat.le_of_ble_eq_true rfl), (Nat.le_of_ble_eq_true rfl)⟩ (Nat.le_of_ble_eq_true rfl) (Nat.le_of_ble_eq_true rfl) (fun r5 σ4 h => ?_)
    refine g_if_eq X 41 dX5_pair_16 (by decide) (fun hc => ?_) (fun hc => ?_)
    · have h := h.1 hc
      refine g_bipush X (-3 : Int32) dX5_pair_41 (by decide) ?_
      exact g_iret X hr dX5_pair_43 rfl h
    · have h := h.2 hc
      refine g_iload_n X 3 dX5_pair_19 rfl rfl ?_
      refine g_callSI X (n := 1) [.int x3] [] dX5_pair_20 (c_X5_isRow l D cA shR h) q644 q645 q57 q646 ⟨by decide, by decide, by decide +kernel⟩ rfl rfl (Nat.le_of_ble_eq_true rfl) rfl rfl ⟨(Nat.le_of_ble_eq_true rfl), (Nat.le_of_ble_eq_true rfl)⟩ (Nat.le_of_ble_eq_true rfl) (Nat.le_of_ble_eq_true rfl) (fun r7 σ6 h => ?_)
      refine g_if_eq X 41 dX5_pair_23 (by decide) (fun hc => ?_) (fun hc => ?_)
      · have h := h.1 hc
        refine g_bipush X (-3 : Int32) dX5_pair_41 (by decide) ?_
        exact g_iret X hr dX5_pair_43 rfl h
      · have h := h.2 hc
        refine g_iload X 5 dX5_pair_26 rfl ?_
        refine g_i2l X dX5_pair_28 ?_
        refine g_ldc2 X q747 dX5_pair_29 ?_
        refine g_ldc2 X q748 dX5_pair_32 ?_
        refine g_callSI X (n := 3) [.long (x5.toInt64), .long (-40 : Int64), .long (40 : Int64)] [] dX5_pair_35 (c_X5_in l D cA shR h) q648 q649 q57 q650 ⟨by decide, by decide, by decide +kernel⟩ rfl rfl (Nat.le_of_ble_eq_true rfl) rfl rfl ⟨(Nat.le_of_ble_eq_true rfl), (Nat.le_of_ble_eq_true rfl)⟩ (Nat.le_of_ble_eq_true rfl) (Nat.le_of_ble_eq_true rfl) (fun r9 σ8 h => ?_)
        refine g_if_ne X 44 dX5_pair_38 (by decide) (fun hc => ?_) (fun hc => ?_)
        · have h := h.1 hc
          refine g_aload_n X 0 dX5_pair_44 rfl rfl ?_
          refine g_getR X (C := RX5) (T := TX5) (N := 23) 6 dX5_pair_45 (Nat.le_of_ble_eq_true rfl) rfl rfl rfl inG5 (Nat.le_of_ble_eq_true rfl) rfl rfl q575 ?_
          refine g_iload_n X 1 dX5_pair_48 rfl rfl ?_
          obtain ⟨hi10, h⟩ := h
          refine g_iald X dX5_pair_49 (Nat.le_of_ble_eq_true rfl) rfl hi10 ?_
          refine g_iconst X (-1 : Int32) dX5_pair_50 (by decide) ?_
          refine g_icmp_eq X 70 dX5_pair_51 (by decide) (fun hc => ?_) (fun hc => ?_)
          · have h := h.1 hc
            refine g_bipush X (-11 : Int32) dX5_pair_70 (by decide) ?_
            exact g_iret X hr dX5_pair_72 rfl h
          · have h := h.2 hc
            refine g_aload_n X 0 dX5_pair_54 rfl rfl ?_
            refine g_iload_n X 2 dX5_pair_55 rfl rfl ?_
            refine g_callVI X (C := RX5) (T := TX5) (N := 23) (n := 1) [.int x2] [] dX5_pair_56 (c_X5_isThere l D cA h) q656 q658 q18 q57 q659 (Nat.le_of_ble_eq_true rfl) rfl rfl ⟨rfl, by decide, by decide, by decide +kernel⟩ rfl rfl (Nat.le_of_ble_eq_true rfl) rfl rfl ⟨(Nat.le_of_ble_eq_true rfl), (Nat.le_of_ble_eq_true rfl)⟩ (Nat.le_of_ble_eq_true rfl) (Nat.le_of_ble_eq_true rfl) (fun r12 σ11 h => ?_)
            refine g_if_eq X 70 dX5_pair_59 (by decide) (fun hc => ?_) (fun hc => ?_)
            · have h := h.1 hc
              refine g_bipush X (-11 : Int32) dX5_pair_70 (by decide) ?_
              exact g_iret X hr dX5_pair_72 rfl h
            · have h := h.2 hc
              refine g_aload_n X 0 dX5_pair_62 rfl rfl ?_
              refine g_iload_n X 3 dX5_pair_63 rfl rfl ?_
              refine g_callVI X (C := RX5) (T := TX5) (N := 23) (n := 1) [.int x3] [] dX5_pair_64 (c_X5_isThere l D cA h) q656 q658 q18 q57 q659 (Nat.le_of_ble_eq_true rfl) rfl rfl ⟨rfl, by decide, by decide, by decide +kernel⟩ rfl rfl (Nat.le_of_ble_eq_true rfl) rfl rfl ⟨(Nat.le_of_ble_eq_true rfl), (Nat.le_of_ble_eq_true rfl)⟩ (Nat.le_of_ble_eq_true rfl) (Nat.le_of_ble_eq_true rfl) (fun r14 σ13 h => ?_)
              refine g_if_ne X 73 dX5_pair_67 (by decide) (fun hc => ?_) (fun hc => ?_)
              · have h := h.1 hc
                refine g_aload_n X 0 dX5_pair_73 rfl rfl ?_
                refine g_getR X (C := RX5) (T := TX5) (N := 23) 6 dX5_pair_74 (Nat.le_of_ble_eq_true rfl) rfl rfl rfl inG5 (Nat.le_of_ble_eq_true rfl) rfl rfl q575 ?_
                refine g_iload_n X 1 dX5_pair_77 rfl rfl ?_
                obtain ⟨hi15, h⟩ := h
                refine g_iald X dX5_pair_78 (Nat.le_of_ble_eq_true rfl) rfl hi15 ?_
                refine g_if_ne X 85 dX5_pair_79 (by decide) (fun hc => ?_) (fun hc => ?_)
                · have h := h.1 hc
                  refine g_iload X 5 dX5_pair_85 rfl ?_
                  refine g_callSI X (n := 1) [.int x5] [] dX5_pair_87 (c_X5_sizeOf l D cA shR h) q749 q750 q57 q751 ⟨by decide, by decide, by decide +kernel⟩ rfl rfl (Nat.le_of_ble_eq_true rfl) rfl rfl ⟨(Nat.le_of_ble_eq_true rfl), (Nat.le_of_ble_eq_true rfl)⟩ (Nat.le_of_ble_eq_true rfl) (Nat.le_of_ble_eq_true rfl) (fun r17 σ16 h => ?_)
                  refine g_istore X [(6, .int r17), (0, .ref 0), (1, .int x1), (2, .int x2), (3, .int x3), (4, .int x4), (5, .int x5)] dX5_pair_90 (Nat.le_of_ble_eq_true rfl) rfl ?_
                  refine g_aload_n X 1 dX5_pair_92 rfl rfl ?_
                  refine g_iload_n X 3 dX5_pair_93 rfl rfl ?_
                  refine g_iload X 5 dX5_pair_94 rfl ?_
                  refine g_iload X 0 dX5_pair_96 rfl ?_
                  refine g_callVI X (C := RX5) (T := TX5) (N := 23) (n := 3) [.int x2, .int x4, .int r17] [] dX5_pair_98 (c_X5_arePlaces l D cA h) q696 q698 q22 q57 q699 (Nat.le_of_ble_eq_true rfl) rfl rfl ⟨rfl, by decide, by decide, by decide +kernel⟩ rfl rfl (Nat.le_of_ble_eq_true rfl) rfl rfl ⟨(Nat.le_of_ble_eq_true rfl), (Nat.le_of_ble_eq_true rfl)⟩ (Nat.le_of_ble_eq_true rfl) (Nat.le_of_ble_eq_true rfl) (fun r19 σ18 h => ?_)
                  refine g_if_eq X 116 dX5_pair_101 (by decide) (fun hc => ?_) (fun hc => ?_)
                  · have h := h.1 hc
                    refine g_bipush X (-13 : Int32) dX5_pair_116 (by decide) ?_
                    exact g_iret X hr dX5_pair_118 rfl h
                  · have h := h.2 hc
                    refine g_aload_n X 1 dX5_pair_104 rfl rfl ?_
                    refine g_iload_n X 4 dX5_pair_105 rfl rfl ?_
                    refine g_iload X 5 dX5_pair_106 rfl ?_
                    refine g_iload X 0 dX5_pair_108 rfl ?_
                    refine g_callVI X (C := RX5) (T := TX5) (N := 23) (n := 3) [.int x3, .int x4, .int r17] [] dX5_pair_110 (c_X5_arePlaces l D cA h) q696 q698 q22 q57 q699 (Nat.le_of_ble_eq_true rfl) rfl rfl ⟨rfl, by decide, by decide, by decide +kernel⟩ rfl rfl (Nat.le_of_ble_eq_true rfl) rfl rfl ⟨(Nat.le_of_ble_eq_true rfl), (Nat.le_of_ble_eq_true rfl)⟩ (Nat.le_of_ble_eq_true rfl) (Nat.le_of_ble_eq_true rfl) (fun r21 σ20 h => ?_)
                    refine g_if_ne X 119 dX5_pair_113 (by decide) (fun hc => ?_) (fun hc => ?_)
                    · have h := h.1 hc
                      refine g_aload_n X 1 dX5_pair_119 rfl rfl ?_
                      refine g_iload_n X 2 dX5_pair_120 rfl rfl ?_
                      refine g_callVV X (C := RX5) (T := TX5) (N := 23) (n := 1) [.int x1] [] dX5_pair_121 (c_X5_keep l D cA h) q735 q737 q24 q57 q738 (Nat.le_of_ble_eq_true rfl) rfl rfl ⟨rfl, by decide, by decide, by decide +kernel⟩ rfl rfl (Nat.le_of_ble_eq_true rfl) rfl rfl ⟨(Nat.le_of_ble_eq_true rfl), (Nat.le_of_ble_eq_true rfl)⟩ (Nat.le_of_ble_eq_true rfl) (Nat.le_of_ble_eq_true rfl) (fun σ22 h => ?_)
                      refine g_iconst X (0 : Int32) dX5_pair_124 (by decide) ?_
                      refine g_istore X [(7, .int (0 : Int32)), (6, .int r17), (0, .ref 0), (1, .int x1), (2, .int x2), (3, .int x3), (4, .int x4), (5, .int x5)] dX5_pair_125 (Nat.le_of_ble_eq_true rfl) rfl ?_
                      refine g_weak [2, 3, 4, 5, 6, 7, 1, 0] rfl ?_
                      obtain ⟨fu26, h⟩ := h
                      exact b_X5_pair_127 X hr fu26 _ _ _ _ _ _ _ _ h
                    · have h := h.2 hc
                      refine g_bipush X (-13 : Int32) dX5_pair_116 (by decide) ?_
                      exact g_iret X hr dX5_pair_118 rfl h
                · have h := h.2 hc
                  refine g_bipush X (-12 : Int32) dX5_pair_82 (by decide) ?_
                  exact g_iret X hr dX5_pair_84 rfl h
              · have h := h.2 hc
                refine g_bipush X (-11 : Int32) dX5_pair_70 (by decide) ?_
                exact g_iret X hr dX5_pair_72 rfl h
        · have h := h.2 hc
          refine g_bipush X (-3 : Int32) dX5_pair_41 (by decide) ?_
          exact g_iret X hr dX5_pair_43 rfl h
theorem c_X5_pair (l : Launch) (D : va_G) (cA : Nat → ClassId) {x1 : Int32} {x2 : Int32} {x3 : Int32} {x4 : Int32} {x5 : Int32} {σ : St} {Q : Int32 → St → Prop} (h : w_X5_pair Q x1 x2 x3 x4 x5 σ) : CtI l yX5_pair cX5_pair 8 (some .int) rmX5_pair D cA shR [.ref 0, .int x1, .int x2, .int x3, .int x4, .int x5] σ Q := by
  refine CtI.of (own := RX5) rfl (by decide +kernel) [(0, .ref 0), (1, .int x1), (2, .int x2), (3, .int x3), (4, .int x4), (5, .int x5)] rfl (Nat.le_of_ble_eq_true rfl) ?_
  intro p e s m args below meth c ad0 A X hr
  exact b_X5_pair_0 X hr  h
def rmX5_merge : Room := { frames := 2, cells := 0, slots := 0, locals := 45 }
def w_X5_merge_138 (Q : Int32 → St → Prop) : Nat → Int32 → Int32 → Int32 → St → Prop
  | 0, _, _, _, _ => False
  | n + 1, x1, x2, x5, σ => (((3 : Int32) ≤ x5 → (Q (0 : Int32) σ)) ∧ (¬ (3 : Int32) ≤ x5 → vp_in (((3 : Int32) * x2) + x5) 21 ∧ w_X5_see_ (fun σ12 => ∀ y13 : Int32, y13 = x5 + (1 : Int32) → (w_X5_merge_138 Q n x1 x2 y13 σ12)) x1 x5 (gI σ 8 (ix (((3 : Int32) * x2) + x5))) σ))
set_option maxRecDepth 100000 in
set_option maxHeartbeats 4000000 in
theorem b_X5_merge_138 {p : Program} {l : Launch} {e : Env} {s : State} {m : MethodId} {args : Array Value} {below : List Frame} {meth : Method} {c : Code} {D : va_G} {cA : Nat → ClassId} {A : Nat → Prop} {ad0 : Nat → Nat} {Q : Int32 → St → Prop} (X : Cx p rmX5_merge s m args meth c cX5_merge 6 RX5 D cA A) (hr : meth.sig.returnType = some .int) : ∀ (n : Nat) (x1 : Int32) (x2 : Int32) (x5 : Int32) (σ : St), w_X5_merge_138 Q n x1 x2 x5 σ → G p l e rmX5_merge s m args below meth c 6 D cA A (MQ below (va_Qi Q (EndW D cA ad0 shR) A) args s 0 0 A) 0 0 (fun ad => ad = ad0) shR σ [(0, .ref 0), (1, .int x1), (2, .int x2), (5, .int x5)] 138 [] := by
  intro n
  induction n with
  | zero => intro x1 x2 x5 σ h; exact h.elim
  | succ n ih =>
    intro x1 x2 x5 σ h
    rw [w_X5_merge_138] at h
    refine g_iload X 3 dX5_merge_138 rfl ?_
    refine g_iconst X (3 : Int32) dX5_merge_140 (by decide) ?_
    refine g_icmp_ge X 168 dX5_merge_141 (by decide) (fun hc => ?_) (fun hc => ?_)
    · have h := h.1 hc
      refine g_iconst X (0 : Int32) dX5_merge_168 (by decide) ?_
      exact g_iret X hr dX5_merge_169 rfl h
    · have h := h.2 hc
      refine g_aload_n X 0 dX5_merge_144 rfl rfl ?_
      refine g_iload_n X 1 dX5_merge_145 rfl rfl ?_
      refine g_iload X 3 dX5_merge_146 rfl ?_
      refine g_aload_n X 0 dX5_merge_148 rfl rfl ?_
      refine g_getR X (C := RX5) (T := TX5) (N := 23) 8 dX5_merge_149 (Nat.le_of_ble_eq_true rfl) rfl rfl rfl inG5 (Nat.le_of_ble_eq_true rfl) rfl rfl q577 ?_
      refine g_iconst X (3 : Int32) dX5_merge_152 (by decide) ?_
      refine g_iload_n X 2 dX5_merge_153 rfl rfl ?_
      refine g_imul X dX5_merge_154 ?_
      refine g_iload X 3 dX5_merge_155 rfl ?_
      refine g_iadd X dX5_merge_157 ?_
      obtain ⟨hi11, h⟩ := h
      refine g_iald X dX5_merge_158 (Nat.le_of_ble_eq_true rfl) rfl hi11 ?_
      refine g_callVV X (C := RX5) (T := TX5) (N := 23) (n := 3) [.int x1, .int x5, .int (gI σ 8 (ix (((3 : Int32) * x2) + x5)))] [] dX5_merge_159 (c_X5_see_ l D cA h) q764 q766 q29 q57 q767 (Nat.le_of_ble_eq_true rfl) rfl rfl ⟨rfl, by decide, by decide, by decide +kernel⟩ rfl rfl (Nat.le_of_ble_eq_true rfl) rfl rfl ⟨(Nat.le_of_ble_eq_true rfl), (Nat.le_of_ble_eq_true rfl)⟩ (Nat.le_of_ble_eq_true rfl) (Nat.le_of_ble_eq_true rfl) (fun σ12 h => ?_)
      obtain ⟨y13, ey13⟩ : ∃ y : Int32, y = x5 + (1 : Int32) := ⟨_, rfl⟩
      have h := h y13 ey13
      refine g_iinc X 3 (1 : Int32) [(5, .int y13), (0, .ref 0), (1, .int x1), (2, .int x2)] dX5_merge_162 rfl (by decide) (Nat.le_of_ble_eq_true rfl) (by rw [ey13]; rfl) ?_
      refine g_goto X 138 dX5_merge_165 (by decide) ?_
      refine g_weak [1, 2, 3, 0] rfl ?_
      exact ih _ _ _ _ h
def w_X5_merge_89 (Q : Int32 → St → Prop) : Nat → Int32 → Int32 → Int64 → Int32 → St → Prop
  | 0, _, _, _, _, _ => False
  | n + 1, x1, x2, x3, x5, σ => (((152 : Int32) ≤ x5 → (∃ fu14 : Nat, w_X5_merge_138 Q fu14 x1 x2 (0 : Int32) σ)) ∧ (¬ (152 : Int32) ≤ x5 → vp_in (((152 : Int32) * x2) + x5) 1064 ∧ w_X5_carry (fun r17 σ16 => ∀ y18 : Int32, y18 = x5 + (1 : Int32) → (w_X5_merge_89 Q n x1 x2 r17 y18 σ16)) (((152 : Int32) * x1) + x5) (((gI σ 7 (ix (((152 : Int32) * x2) + x5))).toInt64) &&& (4294967295 : Int64)) x3 σ))
set_option maxRecDepth 100000 in
set_option maxHeartbeats 4000000 in
theorem b_X5_merge_89 {p : Program} {l : Launch} {e : Env} {s : State} {m : MethodId} {args : Array Value} {below : List Frame} {meth : Method} {c : Code} {D : va_G} {cA : Nat → ClassId} {A : Nat → Prop} {ad0 : Nat → Nat} {Q : Int32 → St → Prop} (X : Cx p rmX5_merge s m args meth c cX5_merge 6 RX5 D cA A) (hr : meth.sig.returnType = some .int) : ∀ (n : Nat) (x1 : Int32) (x2 : Int32) (x3 : Int64) (x5 : Int32) (σ : St), w_X5_merge_89 Q n x1 x2 x3 x5 σ → G p l e rmX5_merge s m args below meth c 6 D cA A (MQ below (va_Qi Q (EndW D cA ad0 shR) A) args s 0 0 A) 0 0 (fun ad => ad = ad0) shR σ [(0, .ref 0), (1, .int x1), (2, .int x2), (3, .long x3), (5, .int x5)] 89 [] := by
  intro n
  induction n with
  | zero => intro x1 x2 x3 x5 σ h; exact h.elim
  | succ n ih =>
    intro x1 x2 x3 x5 σ h
    rw [w_X5_merge_89] at h
    refine g_iload X 4 dX5_merge_89 rfl ?_
    refine g_sipush X (152 : Int32) dX5_merge_91 (by decide) ?_
    refine g_icmp_ge X 135 dX5_merge_94 (by decide) (fun hc => ?_) (fun hc => ?_)
    · have h := h.1 hc
      refine g_iconst X (0 : Int32) dX5_merge_135 (by decide) ?_
      refine g_istore X [(5, .int (0 : Int32)), (0, .ref 0), (1, .int x1), (2, .int x2), (3, .long x3)] dX5_merge_136 (Nat.le_of_ble_eq_true rfl) rfl ?_
      refine g_weak [1, 2, 3, 0] rfl ?_
      obtain ⟨fu14, h⟩ := h
      exact b_X5_merge_138 X hr fu14 _ _ _ _ h
    · have h := h.2 hc
      refine g_aload_n X 0 dX5_merge_97 rfl rfl ?_
      refine g_sipush X (152 : Int32) dX5_merge_98 (by decide) ?_
      refine g_iload_n X 1 dX5_merge_101 rfl rfl ?_
      refine g_imul X dX5_merge_102 ?_
      refine g_iload X 4 dX5_merge_103 rfl ?_
      refine g_iadd X dX5_merge_105 ?_
      refine g_aload_n X 0 dX5_merge_106 rfl rfl ?_
      refine g_getR X (C := RX5) (T := TX5) (N := 23) 7 dX5_merge_107 (Nat.le_of_ble_eq_true rfl) rfl rfl rfl inG5 (Nat.le_of_ble_eq_true rfl) rfl rfl q576 ?_
      refine g_sipush X (152 : Int32) dX5_merge_110 (by decide) ?_
      refine g_iload_n X 2 dX5_merge_113 rfl rfl ?_
      refine g_imul X dX5_merge_114 ?_
      refine g_iload X 4 dX5_merge_115 rfl ?_
      refine g_iadd X dX5_merge_117 ?_
      obtain ⟨hi15, h⟩ := h
      refine g_iald X dX5_merge_118 (Nat.le_of_ble_eq_true rfl) rfl hi15 ?_
      refine g_i2l X dX5_merge_119 ?_
      refine g_ldc2 X q795 dX5_merge_120 ?_
      refine g_land X dX5_merge_123 ?_
      refine g_lload_n X 3 dX5_merge_124 rfl rfl ?_
      refine g_callVL X (C := RX5) (T := TX5) (N := 23) (n := 3) [.int (((152 : Int32) * x1) + x5), .long (((gI σ 7 (ix (((152 : Int32) * x2) + x5))).toInt64) &&& (4294967295 : Int64)), .long x3] [] dX5_merge_125 (c_X5_carry l D cA h) q796 q798 q35 q57 q799 (Nat.le_of_ble_eq_true rfl) rfl rfl ⟨rfl, by decide, by decide, by decide +kernel⟩ rfl rfl (Nat.le_of_ble_eq_true rfl) rfl rfl ⟨(Nat.le_of_ble_eq_true rfl), (Nat.le_of_ble_eq_true rfl)⟩ (Nat.le_of_ble_eq_true rfl) (Nat.le_of_ble_eq_true rfl) (fun r17 σ16 h => ?_)
      refine g_lstore_n X [(3, .long r17), (0, .ref 0), (1, .int x1), (2, .int x2), (5, .int x5)] dX5_merge_128 rfl (Nat.le_of_ble_eq_true rfl) rfl ?_
      obtain ⟨y18, ey18⟩ : ∃ y : Int32, y = x5 + (1 : Int32) := ⟨_, rfl⟩
      have h := h y18 ey18
      refine g_iinc X 4 (1 : Int32) [(5, .int y18), (3, .long r17), (0, .ref 0), (1, .int x1), (2, .int x2)] dX5_merge_129 rfl (by decide) (Nat.le_of_ble_eq_true rfl) (by rw [ey18]; rfl) ?_
      refine g_goto X 89 dX5_merge_132 (by decide) ?_
      refine g_weak [2, 3, 4, 1, 0] rfl ?_
      exact ih _ _ _ _ _ h
def w_X5_merge_73 (Q : Int32 → St → Prop) (x1 : Int32) (x2 : Int32) (s0 : Int32) (s1 : Int32) (σ : St) : Prop := ((s1 = s0 → w_X5_keep (fun σ10 => (∃ fu19 : Nat, w_X5_merge_89 Q fu19 x1 x2 (0 : Int64) (0 : Int32) σ10)) x1 σ) ∧ (¬ s1 = s0 → (Q (-12 : Int32) σ)))
set_option maxRecDepth 100000 in
set_option maxHeartbeats 4000000 in
theorem b_X5_merge_73 {p : Program} {l : Launch} {e : Env} {s : State} {m : MethodId} {args : Array Value} {below : List Frame} {meth : Method} {c : Code} {D : va_G} {cA : Nat → ClassId} {A : Nat → Prop} {ad0 : Nat → Nat} {Q : Int32 → St → Prop} {x1 : Int32} {x2 : Int32} {s0 : Int32} {s1 : Int32} {σ : St} (X : Cx p rmX5_merge s m args meth c cX5_merge 6 RX5 D cA A) (hr : meth.sig.returnType = some .int) (h : w_X5_merge_73 Q x1 x2 s0 s1 σ) : G p l e rmX5_merge s m args below meth c 6 D cA A (MQ below (va_Qi Q (EndW D cA ad0 shR) A) args s 0 0 A) 0 0 (fun ad => ad = ad0) shR σ [(0, .ref 0), (1, .int x1), (2, .int x2)] 73 [.int s0, .int s1] := by
  unfold w_X5_merge_73 at h
  refine g_icmp_eq X 79 dX5_merge_73 (by decide) (fun hc => ?_) (fun hc => ?_)
  · have h := h.1 hc
    refine g_aload_n X 0 dX5_merge_79 rfl rfl ?_
    refine g_iload_n X 1 dX5_merge_80 rfl rfl ?_
    refine g_callVV X (C := RX5) (T := TX5) (N := 23) (n := 1) [.int x1] [] dX5_merge_81 (c_X5_keep l D cA h) q735 q737 q24 q57 q738 (Nat.le_of_ble_eq_true rfl) rfl rfl ⟨rfl, by decide, by decide, by decide +kernel⟩ rfl rfl (Nat.le_of_ble_eq_true rfl) rfl rfl ⟨(Nat.le_of_ble_eq_true rfl), (Nat.le_of_ble_eq_true rfl)⟩ (Nat.le_of_ble_eq_true rfl) (Nat.le_of_ble_eq_true rfl) (fun σ10 h => ?_)
    refine g_lconst X (0 : Int64) dX5_merge_84 (by decide) ?_
    refine g_lstore_n X [(3, .long (0 : Int64)), (0, .ref 0), (1, .int x1), (2, .int x2)] dX5_merge_85 rfl (Nat.le_of_ble_eq_true rfl) rfl ?_
    refine g_iconst X (0 : Int32) dX5_merge_86 (by decide) ?_
    refine g_istore X [(5, .int (0 : Int32)), (3, .long (0 : Int64)), (0, .ref 0), (1, .int x1), (2, .int x2)] dX5_merge_87 (Nat.le_of_ble_eq_true rfl) rfl ?_
    refine g_weak [2, 3, 4, 1, 0] rfl ?_
    obtain ⟨fu19, h⟩ := h
    exact b_X5_merge_89 X hr fu19 _ _ _ _ _ h
  · have h := h.2 hc
    refine g_bipush X (-12 : Int32) dX5_merge_76 (by decide) ?_
    exact g_iret X hr dX5_merge_78 rfl h
def w_X5_merge_59 (Q : Int32 → St → Prop) (x1 : Int32) (x2 : Int32) (s0 : Int32) (σ : St) : Prop := vp_in x2 7 ∧ ((¬ (gI σ 6 (ix x2)) = 0 → (w_X5_merge_73 Q x1 x2 (0 : Int32) s0 σ)) ∧ ((gI σ 6 (ix x2)) = 0 → (w_X5_merge_73 Q x1 x2 (1 : Int32) s0 σ)))
set_option maxRecDepth 100000 in
set_option maxHeartbeats 4000000 in
theorem b_X5_merge_59 {p : Program} {l : Launch} {e : Env} {s : State} {m : MethodId} {args : Array Value} {below : List Frame} {meth : Method} {c : Code} {D : va_G} {cA : Nat → ClassId} {A : Nat → Prop} {ad0 : Nat → Nat} {Q : Int32 → St → Prop} {x1 : Int32} {x2 : Int32} {s0 : Int32} {σ : St} (X : Cx p rmX5_merge s m args meth c cX5_merge 6 RX5 D cA A) (hr : meth.sig.returnType = some .int) (h : w_X5_merge_59 Q x1 x2 s0 σ) : G p l e rmX5_merge s m args below meth c 6 D cA A (MQ below (va_Qi Q (EndW D cA ad0 shR) A) args s 0 0 A) 0 0 (fun ad => ad = ad0) shR σ [(0, .ref 0), (1, .int x1), (2, .int x2)] 59 [.int s0] := by
  unfold w_X5_merge_59 at h
  refine g_aload_n X 0 dX5_merge_59 rfl rfl ?_
  refine g_getR X (C := RX5) (T := TX5) (N := 23) 6 dX5_merge_60 (Nat.le_of_ble_eq_true rfl) rfl rfl rfl inG5 (Nat.le_of_ble_eq_true rfl) rfl rfl q575 ?_
  refine g_iload_n X 2 dX5_merge_63 rfl rfl ?_
  obtain ⟨hi9, h⟩ := h
  refine g_iald X dX5_merge_64 (Nat.le_of_ble_eq_true rfl) rfl hi9 ?_
  refine g_if_ne X 72 dX5_merge_65 (by decide) (fun hc => ?_) (fun hc => ?_)
  · have h := h.1 hc
    refine g_iconst X (0 : Int32) dX5_merge_72 (by decide) ?_
    exact b_X5_merge_73 X hr h
  · have h := h.2 hc
    refine g_iconst X (1 : Int32) dX5_merge_68 (by decide) ?_
    refine g_goto X 73 dX5_merge_69 (by decide) ?_
    exact b_X5_merge_73 X hr h
def w_X5_merge (Q : Int32 → St → Prop) (x1 : Int32) (x2 : Int32) (σ : St) : Prop := ∀ σ1 : St, σ1 = uI σ 0 0 (0 : Int32) → w_X5_isKeeper (fun r3 σ2 => ((r3 = 0 → (Q (-3 : Int32) σ2)) ∧ (¬ r3 = 0 → w_X5_isKeeper (fun r5 σ4 => ((¬ r5 = 0 → vp_in x1 7 ∧ (((gI σ4 6 (ix x1)) = (-1 : Int32) → (Q (-11 : Int32) σ4)) ∧ (¬ (gI σ4 6 (ix x1)) = (-1 : Int32) → vp_in x2 7 ∧ ((¬ (gI σ4 6 (ix x2)) = (-1 : Int32) → vp_in x1 7 ∧ ((¬ (gI σ4 6 (ix x1)) = 0 → (w_X5_merge_59 Q x1 x2 (0 : Int32) σ4)) ∧ ((gI σ4 6 (ix x1)) = 0 → (w_X5_merge_59 Q x1 x2 (1 : Int32) σ4)))) ∧ ((gI σ4 6 (ix x2)) = (-1 : Int32) → (Q (-11 : Int32) σ4)))))) ∧ (r5 = 0 → (Q (-3 : Int32) σ4)))) x2 σ2))) x1 σ1
set_option maxRecDepth 100000 in
set_option maxHeartbeats 4000000 in
theorem b_X5_merge_0 {p : Program} {l : Launch} {e : Env} {s : State} {m : MethodId} {args : Array Value} {below : List Frame} {meth : Method} {c : Code} {D : va_G} {cA : Nat → ClassId} {A : Nat → Prop} {ad0 : Nat → Nat} {Q : Int32 → St → Prop} {x1 : Int32} {x2 : Int32} {σ : St} (X : Cx p rmX5_merge s m args meth c cX5_merge 6 RX5 D cA A) (hr : meth.sig.returnType = some .int) (h : w_X5_merge Q x1 x2 σ) : G p l e rmX5_merge s m args below meth c 6 D cA A (MQ below (va_Qi Q (EndW D cA ad0 shR) A) args s 0 0 A) 0 0 (fun ad => ad = ad0) shR σ [(0, .ref 0), (1, .int x1), (2, .int x2)] 0 [] := by
  unfold w_X5_merge at h
  refine g_aload_n X 0 dX5_merge_0 rfl rfl ?_
  refine g_iconst X (0 : Int32) dX5_merge_1 (by decide) ?_
  refine g_putI X (C := RX5) (T := TX5) (N := 23) (ty0 := tyX5) 0 dX5_merge_2 (Nat.le_of_ble_eq_true rfl) rfl rfl rfl inG5 tyX5_ok nmX5 (Nat.le_of_ble_eq_true rfl) rfl rfl q569 rfl rfl ?_
  refine g_nameS (fun σ1 eσ1 => ?_)
  have h := h σ1 eσ1
  refine g_iload_n X 1 dX5_merge_5 rfl rfl ?_
  refine g_callSI X (n := 1) [.int x1] [] dX5_merge_6 (c_X5_isKeeper l D cA shR h) q731 q732 q57 q733 ⟨by decide, by decide, by decide +kernel⟩ rfl rfl (Nat.le_of_ble_eq_true rfl) rfl rfl ⟨(Nat.le_of_ble_eq_true rfl), (Nat.le_of_ble_eq_true rfl)⟩ (Nat.le_of_ble_eq_true rfl) (Nat.le_of_ble_eq_true rfl) (fun r3 σ2 h => ?_)
  refine g_if_eq X 19 dX5_merge_9 (by decide) (fun hc => ?_) (fun hc => ?_)
  · have h := h.1 hc
    refine g_bipush X (-3 : Int32) dX5_merge_19 (by decide) ?_
    exact g_iret X hr dX5_merge_21 rfl h
  · have h := h.2 hc
    refine g_iload_n X 2 dX5_merge_12 rfl rfl ?_
    refine g_callSI X (n := 1) [.int x2] [] dX5_merge_13 (c_X5_isKeeper l D cA shR h) q731 q732 q57 q733 ⟨by decide, by decide, by decide +kernel⟩ rfl rfl (Nat.le_of_ble_eq_true rfl) rfl rfl ⟨(Nat.le_of_ble_eq_true rfl), (Nat.le_of_ble_eq_true rfl)⟩ (Nat.le_of_ble_eq_true rfl) (Nat.le_of_ble_eq_true rfl) (fun r5 σ4 h => ?_)
    refine g_if_ne X 22 dX5_merge_16 (by decide) (fun hc => ?_) (fun hc => ?_)
    · have h := h.1 hc
      refine g_aload_n X 0 dX5_merge_22 rfl rfl ?_
      refine g_getR X (C := RX5) (T := TX5) (N := 23) 6 dX5_merge_23 (Nat.le_of_ble_eq_true rfl) rfl rfl rfl inG5 (Nat.le_of_ble_eq_true rfl) rfl rfl q575 ?_
      refine g_iload_n X 1 dX5_merge_26 rfl rfl ?_
      obtain ⟨hi6, h⟩ := h
      refine g_iald X dX5_merge_27 (Nat.le_of_ble_eq_true rfl) rfl hi6 ?_
      refine g_iconst X (-1 : Int32) dX5_merge_28 (by decide) ?_
      refine g_icmp_eq X 42 dX5_merge_29 (by decide) (fun hc => ?_) (fun hc => ?_)
      · have h := h.1 hc
        refine g_bipush X (-11 : Int32) dX5_merge_42 (by decide) ?_
        exact g_iret X hr dX5_merge_44 rfl h
      · have h := h.2 hc
        refine g_aload_n X 0 dX5_merge_32 rfl rfl ?_
        refine g_getR X (C := RX5) (T := TX5) (N := 23) 6 dX5_merge_33 (Nat.le_of_ble_eq_true rfl) rfl rfl rfl inG5 (Nat.le_of_ble_eq_true rfl) rfl rfl q575 ?_
        refine g_iload_n X 2 dX5_merge_36 rfl rfl ?_
        obtain ⟨hi7, h⟩ := h
        refine g_iald X dX5_merge_37 (Nat.le_of_ble_eq_true rfl) rfl hi7 ?_
        refine g_iconst X (-1 : Int32) dX5_merge_38 (by decide) ?_
        refine g_icmp_ne X 45 dX5_merge_39 (by decide) (fun hc => ?_) (fun hc => ?_)
        · have h := h.1 hc
          refine g_aload_n X 0 dX5_merge_45 rfl rfl ?_
          refine g_getR X (C := RX5) (T := TX5) (N := 23) 6 dX5_merge_46 (Nat.le_of_ble_eq_true rfl) rfl rfl rfl inG5 (Nat.le_of_ble_eq_true rfl) rfl rfl q575 ?_
          refine g_iload_n X 1 dX5_merge_49 rfl rfl ?_
          obtain ⟨hi8, h⟩ := h
          refine g_iald X dX5_merge_50 (Nat.le_of_ble_eq_true rfl) rfl hi8 ?_
          refine g_if_ne X 58 dX5_merge_51 (by decide) (fun hc => ?_) (fun hc => ?_)
          · have h := h.1 hc
            refine g_iconst X (0 : Int32) dX5_merge_58 (by decide) ?_
            exact b_X5_merge_59 X hr h
          · have h := h.2 hc
            refine g_iconst X (1 : Int32) dX5_merge_54 (by decide) ?_
            refine g_goto X 59 dX5_merge_55 (by decide) ?_
            exact b_X5_merge_59 X hr h
        · have h := h.2 hc
          refine g_bipush X (-11 : Int32) dX5_merge_42 (by decide) ?_
          exact g_iret X hr dX5_merge_44 rfl h
    · have h := h.2 hc
      refine g_bipush X (-3 : Int32) dX5_merge_19 (by decide) ?_
      exact g_iret X hr dX5_merge_21 rfl h
theorem c_X5_merge (l : Launch) (D : va_G) (cA : Nat → ClassId) {x1 : Int32} {x2 : Int32} {σ : St} {Q : Int32 → St → Prop} (h : w_X5_merge Q x1 x2 σ) : CtI l yX5_merge cX5_merge 6 (some .int) rmX5_merge D cA shR [.ref 0, .int x1, .int x2] σ Q := by
  refine CtI.of (own := RX5) rfl (by decide +kernel) [(0, .ref 0), (1, .int x1), (2, .int x2)] rfl (Nat.le_of_ble_eq_true rfl) ?_
  intro p e s m args below meth c ad0 A X hr
  exact b_X5_merge_0 X hr  h
def rmX5_clear : Room := { frames := 2, cells := 0, slots := 0, locals := 45 }
def w_X5_clear (Q : Int32 → St → Prop) (x1 : Int32) (σ : St) : Prop := ∀ σ1 : St, σ1 = uI σ 0 0 (0 : Int32) → w_X5_isKeeper (fun r3 σ2 => ((¬ r3 = 0 → vp_in x1 7 ∧ ((¬ (gI σ2 6 (ix x1)) = (-1 : Int32) → w_X5_keep (fun σ5 => w_X5_blank (fun σ6 => (Q (0 : Int32) σ6)) x1 σ5) x1 σ2) ∧ ((gI σ2 6 (ix x1)) = (-1 : Int32) → (Q (-11 : Int32) σ2)))) ∧ (r3 = 0 → (Q (-3 : Int32) σ2)))) x1 σ1
set_option maxRecDepth 100000 in
set_option maxHeartbeats 4000000 in
theorem b_X5_clear_0 {p : Program} {l : Launch} {e : Env} {s : State} {m : MethodId} {args : Array Value} {below : List Frame} {meth : Method} {c : Code} {D : va_G} {cA : Nat → ClassId} {A : Nat → Prop} {ad0 : Nat → Nat} {Q : Int32 → St → Prop} {x1 : Int32} {σ : St} (X : Cx p rmX5_clear s m args meth c cX5_clear 2 RX5 D cA A) (hr : meth.sig.returnType = some .int) (h : w_X5_clear Q x1 σ) : G p l e rmX5_clear s m args below meth c 2 D cA A (MQ below (va_Qi Q (EndW D cA ad0 shR) A) args s 0 0 A) 0 0 (fun ad => ad = ad0) shR σ [(0, .ref 0), (1, .int x1)] 0 [] := by
  unfold w_X5_clear at h
  refine g_aload_n X 0 dX5_clear_0 rfl rfl ?_
  refine g_iconst X (0 : Int32) dX5_clear_1 (by decide) ?_
  refine g_putI X (C := RX5) (T := TX5) (N := 23) (ty0 := tyX5) 0 dX5_clear_2 (Nat.le_of_ble_eq_true rfl) rfl rfl rfl inG5 tyX5_ok nmX5 (Nat.le_of_ble_eq_true rfl) rfl rfl q569 rfl rfl ?_
  refine g_nameS (fun σ1 eσ1 => ?_)
  have h := h σ1 eσ1
  refine g_iload_n X 1 dX5_clear_5 rfl rfl ?_
  refine g_callSI X (n := 1) [.int x1] [] dX5_clear_6 (c_X5_isKeeper l D cA shR h) q731 q732 q57 q733 ⟨by decide, by decide, by decide +kernel⟩ rfl rfl (Nat.le_of_ble_eq_true rfl) rfl rfl ⟨(Nat.le_of_ble_eq_true rfl), (Nat.le_of_ble_eq_true rfl)⟩ (Nat.le_of_ble_eq_true rfl) (Nat.le_of_ble_eq_true rfl) (fun r3 σ2 h => ?_)
  refine g_if_ne X 15 dX5_clear_9 (by decide) (fun hc => ?_) (fun hc => ?_)
  · have h := h.1 hc
    refine g_aload_n X 0 dX5_clear_15 rfl rfl ?_
    refine g_getR X (C := RX5) (T := TX5) (N := 23) 6 dX5_clear_16 (Nat.le_of_ble_eq_true rfl) rfl rfl rfl inG5 (Nat.le_of_ble_eq_true rfl) rfl rfl q575 ?_
    refine g_iload_n X 1 dX5_clear_19 rfl rfl ?_
    obtain ⟨hi4, h⟩ := h
    refine g_iald X dX5_clear_20 (Nat.le_of_ble_eq_true rfl) rfl hi4 ?_
    refine g_iconst X (-1 : Int32) dX5_clear_21 (by decide) ?_
    refine g_icmp_ne X 28 dX5_clear_22 (by decide) (fun hc => ?_) (fun hc => ?_)
    · have h := h.1 hc
      refine g_aload_n X 0 dX5_clear_28 rfl rfl ?_
      refine g_iload_n X 1 dX5_clear_29 rfl rfl ?_
      refine g_callVV X (C := RX5) (T := TX5) (N := 23) (n := 1) [.int x1] [] dX5_clear_30 (c_X5_keep l D cA h) q735 q737 q24 q57 q738 (Nat.le_of_ble_eq_true rfl) rfl rfl ⟨rfl, by decide, by decide, by decide +kernel⟩ rfl rfl (Nat.le_of_ble_eq_true rfl) rfl rfl ⟨(Nat.le_of_ble_eq_true rfl), (Nat.le_of_ble_eq_true rfl)⟩ (Nat.le_of_ble_eq_true rfl) (Nat.le_of_ble_eq_true rfl) (fun σ5 h => ?_)
      refine g_aload_n X 0 dX5_clear_33 rfl rfl ?_
      refine g_iload_n X 1 dX5_clear_34 rfl rfl ?_
      refine g_callVV X (C := RX5) (T := TX5) (N := 23) (n := 1) [.int x1] [] dX5_clear_35 (c_X5_blank l D cA h) q739 q741 q25 q57 q742 (Nat.le_of_ble_eq_true rfl) rfl rfl ⟨rfl, by decide, by decide, by decide +kernel⟩ rfl rfl (Nat.le_of_ble_eq_true rfl) rfl rfl ⟨(Nat.le_of_ble_eq_true rfl), (Nat.le_of_ble_eq_true rfl)⟩ (Nat.le_of_ble_eq_true rfl) (Nat.le_of_ble_eq_true rfl) (fun σ6 h => ?_)
      refine g_iconst X (0 : Int32) dX5_clear_38 (by decide) ?_
      exact g_iret X hr dX5_clear_39 rfl h
    · have h := h.2 hc
      refine g_bipush X (-11 : Int32) dX5_clear_25 (by decide) ?_
      exact g_iret X hr dX5_clear_27 rfl h
  · have h := h.2 hc
    refine g_bipush X (-3 : Int32) dX5_clear_12 (by decide) ?_
    exact g_iret X hr dX5_clear_14 rfl h
theorem c_X5_clear (l : Launch) (D : va_G) (cA : Nat → ClassId) {x1 : Int32} {σ : St} {Q : Int32 → St → Prop} (h : w_X5_clear Q x1 σ) : CtI l yX5_clear cX5_clear 2 (some .int) rmX5_clear D cA shR [.ref 0, .int x1] σ Q := by
  refine CtI.of (own := RX5) rfl (by decide +kernel) [(0, .ref 0), (1, .int x1)] rfl (Nat.le_of_ble_eq_true rfl) ?_
  intro p e s m args below meth c ad0 A X hr
  exact b_X5_clear_0 X hr  h
def rmX5_plainOf : Room := { frames := 2, cells := 0, slots := 0, locals := 43 }
def w_X5_plainOf_67 (K6 : Int32 → Int32 → Int32 → UInt64 → Int32 → St → Prop) (Q : UInt64 → St → Prop) (x1 : Int32) (x2 : Int32) (x3 : Int32) (x4 : UInt64) (x6 : Int32) (x7 : Int32) (x8 : Int32) (s0 : Int32) (σ : St) : Prop := ((x8 = (3 : Int32) → (Q FP.dconst0 σ)) ∧ (¬ x8 = (3 : Int32) → ((s0 = 0 → w_X5_valueOf (fun r5 σ4 => vf_n64 (FP.dadd x4 r5) ∧ ∀ y6 : UInt64, y6 = (FP.dadd x4 r5) → ∀ y7 : Int32, y7 = x6 + (1 : Int32) → (K6 x1 x2 x3 y6 y7 σ4)) x1 x7 σ) ∧ (¬ s0 = 0 → (Q FP.dconst0 σ)))))
set_option maxRecDepth 100000 in
set_option maxHeartbeats 4000000 in
theorem b_X5_plainOf_67 {p : Program} {l : Launch} {e : Env} {s : State} {m : MethodId} {args : Array Value} {below : List Frame} {meth : Method} {c : Code} {D : va_G} {cA : Nat → ClassId} {A : Nat → Prop} {ad0 : Nat → Nat} {K6 : Int32 → Int32 → Int32 → UInt64 → Int32 → St → Prop} {Q : UInt64 → St → Prop} {x1 : Int32} {x2 : Int32} {x3 : Int32} {x4 : UInt64} {x6 : Int32} {x7 : Int32} {x8 : Int32} {s0 : Int32} {σ : St} (X : Cx p rmX5_plainOf s m args meth c cX5_plainOf 10 RX5 D cA A) (hr : meth.sig.returnType = some .double) (hK6 : ∀ (x1 : Int32) (x2 : Int32) (x3 : Int32) (x4 : UInt64) (x6 : Int32) (σ : St), K6 x1 x2 x3 x4 x6 σ → G p l e rmX5_plainOf s m args below meth c 10 D cA A (MQ below (va_Qd Q (EndW D cA ad0 shR) A) args s 0 0 A) 0 0 (fun ad => ad = ad0) shR σ [(0, .ref 0), (1, .int x1), (2, .int x2), (3, .int x3), (4, .double x4), (6, .int x6)] 6 []) (h : w_X5_plainOf_67 K6 Q x1 x2 x3 x4 x6 x7 x8 s0 σ) : G p l e rmX5_plainOf s m args below meth c 10 D cA A (MQ below (va_Qd Q (EndW D cA ad0 shR) A) args s 0 0 A) 0 0 (fun ad => ad = ad0) shR σ [(0, .ref 0), (1, .int x1), (2, .int x2), (3, .int x3), (4, .double x4), (6, .int x6), (7, .int x7), (8, .int x8)] 67 [.int s0] := by
  unfold w_X5_plainOf_67 at h
  refine g_istore X [(9, .int s0), (0, .ref 0), (1, .int x1), (2, .int x2), (3, .int x3), (4, .double x4), (6, .int x6), (7, .int x7), (8, .int x8)] dX5_plainOf_67 (Nat.le_of_ble_eq_true rfl) rfl ?_
  refine g_iload X 8 dX5_plainOf_69 rfl ?_
  refine g_iconst X (3 : Int32) dX5_plainOf_71 (by decide) ?_
  refine g_icmp_eq X 80 dX5_plainOf_72 (by decide) (fun hc => ?_) (fun hc => ?_)
  · have h := h.1 hc
    refine g_dconst0 X dX5_plainOf_80 ?_
    exact g_dret X hr dX5_plainOf_81 h
  · have h := h.2 hc
    refine g_iload X 0 dX5_plainOf_75 rfl ?_
    refine g_if_eq X 82 dX5_plainOf_77 (by decide) (fun hc => ?_) (fun hc => ?_)
    · have h := h.1 hc
      refine g_dload X 5 dX5_plainOf_82 rfl ?_
      refine g_aload_n X 1 dX5_plainOf_84 rfl rfl ?_
      refine g_iload_n X 2 dX5_plainOf_85 rfl rfl ?_
      refine g_iload X 7 dX5_plainOf_86 rfl ?_
      refine g_callVD X (C := RX5) (T := TX5) (N := 23) (n := 2) [.int x1, .int x7] [.double x4] dX5_plainOf_88 (c_X5_valueOf l D cA h) q713 q715 q23 q57 q716 (Nat.le_of_ble_eq_true rfl) rfl rfl ⟨rfl, by decide, by decide, by decide +kernel⟩ rfl rfl (Nat.le_of_ble_eq_true rfl) rfl rfl ⟨(Nat.le_of_ble_eq_true rfl), (Nat.le_of_ble_eq_true rfl)⟩ (Nat.le_of_ble_eq_true rfl) (Nat.le_of_ble_eq_true rfl) (fun r5 σ4 h => ?_)
      obtain ⟨hc, h⟩ := h
      refine g_dadd X dX5_plainOf_91 hc ?_
      refine g_nameD (fun y6 ey6 => ?_)
      have h := h y6 ey6
      refine g_dstore X [(4, .double y6), (9, .int s0), (0, .ref 0), (1, .int x1), (2, .int x2), (3, .int x3), (6, .int x6), (7, .int x7), (8, .int x8)] dX5_plainOf_92 (Nat.le_of_ble_eq_true rfl) rfl ?_
      obtain ⟨y7, ey7⟩ : ∃ y : Int32, y = x6 + (1 : Int32) := ⟨_, rfl⟩
      have h := h y7 ey7
      refine g_iinc X 6 (1 : Int32) [(6, .int y7), (4, .double y6), (9, .int s0), (0, .ref 0), (1, .int x1), (2, .int x2), (3, .int x3), (7, .int x7), (8, .int x8)] dX5_plainOf_94 rfl (by decide) (Nat.le_of_ble_eq_true rfl) (by rw [ey7]; rfl) ?_
      refine g_goto X 6 dX5_plainOf_97 (by decide) ?_
      refine g_weak [3, 4, 5, 6, 1, 0] rfl ?_
      exact hK6 _ _ _ _ _ _ h
    · have h := h.2 hc
      refine g_dconst0 X dX5_plainOf_80 ?_
      exact g_dret X hr dX5_plainOf_81 h
def w_X5_plainOf_66 (K6 : Int32 → Int32 → Int32 → UInt64 → Int32 → St → Prop) (Q : UInt64 → St → Prop) (x1 : Int32) (x2 : Int32) (x3 : Int32) (x4 : UInt64) (x6 : Int32) (x7 : Int32) (x8 : Int32) (σ : St) : Prop := (w_X5_plainOf_67 (K6) Q x1 x2 x3 x4 x6 x7 x8 (0 : Int32) σ)
set_option maxRecDepth 100000 in
set_option maxHeartbeats 4000000 in
theorem b_X5_plainOf_66 {p : Program} {l : Launch} {e : Env} {s : State} {m : MethodId} {args : Array Value} {below : List Frame} {meth : Method} {c : Code} {D : va_G} {cA : Nat → ClassId} {A : Nat → Prop} {ad0 : Nat → Nat} {K6 : Int32 → Int32 → Int32 → UInt64 → Int32 → St → Prop} {Q : UInt64 → St → Prop} {x1 : Int32} {x2 : Int32} {x3 : Int32} {x4 : UInt64} {x6 : Int32} {x7 : Int32} {x8 : Int32} {σ : St} (X : Cx p rmX5_plainOf s m args meth c cX5_plainOf 10 RX5 D cA A) (hr : meth.sig.returnType = some .double) (hK6 : ∀ (x1 : Int32) (x2 : Int32) (x3 : Int32) (x4 : UInt64) (x6 : Int32) (σ : St), K6 x1 x2 x3 x4 x6 σ → G p l e rmX5_plainOf s m args below meth c 10 D cA A (MQ below (va_Qd Q (EndW D cA ad0 shR) A) args s 0 0 A) 0 0 (fun ad => ad = ad0) shR σ [(0, .ref 0), (1, .int x1), (2, .int x2), (3, .int x3), (4, .double x4), (6, .int x6)] 6 []) (h : w_X5_plainOf_66 K6 Q x1 x2 x3 x4 x6 x7 x8 σ) : G p l e rmX5_plainOf s m args below meth c 10 D cA A (MQ below (va_Qd Q (EndW D cA ad0 shR) A) args s 0 0 A) 0 0 (fun ad => ad = ad0) shR σ [(0, .ref 0), (1, .int x1), (2, .int x2), (3, .int x3), (4, .double x4), (6, .int x6), (7, .int x7), (8, .int x8)] 66 [] := by
  unfold w_X5_plainOf_66 at h
  refine g_iconst X (0 : Int32) dX5_plainOf_66 (by decide) ?_
  exact b_X5_plainOf_67 X hr (hK6) h
def w_X5_plainOf_62 (K6 : Int32 → Int32 → Int32 → UInt64 → Int32 → St → Prop) (Q : UInt64 → St → Prop) (x1 : Int32) (x2 : Int32) (x3 : Int32) (x4 : UInt64) (x6 : Int32) (x7 : Int32) (x8 : Int32) (σ : St) : Prop := (w_X5_plainOf_67 (K6) Q x1 x2 x3 x4 x6 x7 x8 (1 : Int32) σ)
set_option maxRecDepth 100000 in
set_option maxHeartbeats 4000000 in
theorem b_X5_plainOf_62 {p : Program} {l : Launch} {e : Env} {s : State} {m : MethodId} {args : Array Value} {below : List Frame} {meth : Method} {c : Code} {D : va_G} {cA : Nat → ClassId} {A : Nat → Prop} {ad0 : Nat → Nat} {K6 : Int32 → Int32 → Int32 → UInt64 → Int32 → St → Prop} {Q : UInt64 → St → Prop} {x1 : Int32} {x2 : Int32} {x3 : Int32} {x4 : UInt64} {x6 : Int32} {x7 : Int32} {x8 : Int32} {σ : St} (X : Cx p rmX5_plainOf s m args meth c cX5_plainOf 10 RX5 D cA A) (hr : meth.sig.returnType = some .double) (hK6 : ∀ (x1 : Int32) (x2 : Int32) (x3 : Int32) (x4 : UInt64) (x6 : Int32) (σ : St), K6 x1 x2 x3 x4 x6 σ → G p l e rmX5_plainOf s m args below meth c 10 D cA A (MQ below (va_Qd Q (EndW D cA ad0 shR) A) args s 0 0 A) 0 0 (fun ad => ad = ad0) shR σ [(0, .ref 0), (1, .int x1), (2, .int x2), (3, .int x3), (4, .double x4), (6, .int x6)] 6 []) (h : w_X5_plainOf_62 K6 Q x1 x2 x3 x4 x6 x7 x8 σ) : G p l e rmX5_plainOf s m args below meth c 10 D cA A (MQ below (va_Qd Q (EndW D cA ad0 shR) A) args s 0 0 A) 0 0 (fun ad => ad = ad0) shR σ [(0, .ref 0), (1, .int x1), (2, .int x2), (3, .int x3), (4, .double x4), (6, .int x6), (7, .int x7), (8, .int x8)] 62 [] := by
  unfold w_X5_plainOf_62 at h
  refine g_iconst X (1 : Int32) dX5_plainOf_62 (by decide) ?_
  refine g_goto X 67 dX5_plainOf_63 (by decide) ?_
  exact b_X5_plainOf_67 X hr (hK6) h
def w_X5_plainOf_47 (K6 : Int32 → Int32 → Int32 → UInt64 → Int32 → St → Prop) (Q : UInt64 → St → Prop) (x1 : Int32) (x2 : Int32) (x3 : Int32) (x4 : UInt64) (x6 : Int32) (x7 : Int32) (x8 : Int32) (σ : St) : Prop := ((¬ x8 = (2 : Int32) → (w_X5_plainOf_66 (K6) Q x1 x2 x3 x4 x6 x7 x8 σ)) ∧ (x8 = (2 : Int32) → ((¬ (dcmpF x4 (9218868437227405312 : UInt64) .l) = 0 → (w_X5_plainOf_66 (K6) Q x1 x2 x3 x4 x6 x7 x8 σ)) ∧ ((dcmpF x4 (9218868437227405312 : UInt64) .l) = 0 → (w_X5_plainOf_62 (K6) Q x1 x2 x3 x4 x6 x7 x8 σ)))))
set_option maxRecDepth 100000 in
set_option maxHeartbeats 4000000 in
theorem b_X5_plainOf_47 {p : Program} {l : Launch} {e : Env} {s : State} {m : MethodId} {args : Array Value} {below : List Frame} {meth : Method} {c : Code} {D : va_G} {cA : Nat → ClassId} {A : Nat → Prop} {ad0 : Nat → Nat} {K6 : Int32 → Int32 → Int32 → UInt64 → Int32 → St → Prop} {Q : UInt64 → St → Prop} {x1 : Int32} {x2 : Int32} {x3 : Int32} {x4 : UInt64} {x6 : Int32} {x7 : Int32} {x8 : Int32} {σ : St} (X : Cx p rmX5_plainOf s m args meth c cX5_plainOf 10 RX5 D cA A) (hr : meth.sig.returnType = some .double) (hK6 : ∀ (x1 : Int32) (x2 : Int32) (x3 : Int32) (x4 : UInt64) (x6 : Int32) (σ : St), K6 x1 x2 x3 x4 x6 σ → G p l e rmX5_plainOf s m args below meth c 10 D cA A (MQ below (va_Qd Q (EndW D cA ad0 shR) A) args s 0 0 A) 0 0 (fun ad => ad = ad0) shR σ [(0, .ref 0), (1, .int x1), (2, .int x2), (3, .int x3), (4, .double x4), (6, .int x6)] 6 []) (h : w_X5_plainOf_47 K6 Q x1 x2 x3 x4 x6 x7 x8 σ) : G p l e rmX5_plainOf s m args below meth c 10 D cA A (MQ below (va_Qd Q (EndW D cA ad0 shR) A) args s 0 0 A) 0 0 (fun ad => ad = ad0) shR σ [(0, .ref 0), (1, .int x1), (2, .int x2), (3, .int x3), (4, .double x4), (6, .int x6), (7, .int x7), (8, .int x8)] 47 [] := by
  unfold w_X5_plainOf_47 at h
  refine g_iload X 7 dX5_plainOf_47 rfl ?_
  refine g_iconst X (2 : Int32) dX5_plainOf_49 (by decide) ?_
  refine g_icmp_ne X 66 dX5_plainOf_50 (by decide) (fun hc => ?_) (fun hc => ?_)
  · have h := h.1 hc
    exact b_X5_plainOf_66 X hr (hK6) h
  · have h := h.2 hc
    refine g_dload X 4 dX5_plainOf_53 rfl ?_
    refine g_ldc2d X q717 dX5_plainOf_55 ?_
    refine g_dcmp X dX5_plainOf_58 ?_
    refine g_if_ne X 66 dX5_plainOf_59 (by decide) (fun hc => ?_) (fun hc => ?_)
    · have h := h.1 hc
      exact b_X5_plainOf_66 X hr (hK6) h
    · have h := h.2 hc
      exact b_X5_plainOf_62 X hr (hK6) h
def w_X5_plainOf_6 (Q : UInt64 → St → Prop) : Nat → Int32 → Int32 → Int32 → UInt64 → Int32 → St → Prop
  | 0, _, _, _, _, _, _ => False
  | n + 1, x1, x2, x3, x4, x6, σ => ((x3 ≤ x6 → (Q x4 σ)) ∧ (¬ x3 ≤ x6 → ∀ y1 : Int32, y1 = ((((40 : Int32) * x1) + x2) + x6) → w_X5_sortOf (fun r3 σ2 => ((¬ r3 = (1 : Int32) → (w_X5_plainOf_47 (fun x1 x2 x3 x4 x6 σ => w_X5_plainOf_6 Q n x1 x2 x3 x4 x6 σ) Q x1 x2 x3 x4 x6 y1 r3 σ2)) ∧ (r3 = (1 : Int32) → (((dcmpF x4 (18442240474082181120 : UInt64) .l) = 0 → (w_X5_plainOf_62 (fun x1 x2 x3 x4 x6 σ => w_X5_plainOf_6 Q n x1 x2 x3 x4 x6 σ) Q x1 x2 x3 x4 x6 y1 r3 σ2)) ∧ (¬ (dcmpF x4 (18442240474082181120 : UInt64) .l) = 0 → (w_X5_plainOf_47 (fun x1 x2 x3 x4 x6 σ => w_X5_plainOf_6 Q n x1 x2 x3 x4 x6 σ) Q x1 x2 x3 x4 x6 y1 r3 σ2)))))) x1 y1 σ))
set_option maxRecDepth 100000 in
set_option maxHeartbeats 4000000 in
theorem b_X5_plainOf_6 {p : Program} {l : Launch} {e : Env} {s : State} {m : MethodId} {args : Array Value} {below : List Frame} {meth : Method} {c : Code} {D : va_G} {cA : Nat → ClassId} {A : Nat → Prop} {ad0 : Nat → Nat} {Q : UInt64 → St → Prop} (X : Cx p rmX5_plainOf s m args meth c cX5_plainOf 10 RX5 D cA A) (hr : meth.sig.returnType = some .double) : ∀ (n : Nat) (x1 : Int32) (x2 : Int32) (x3 : Int32) (x4 : UInt64) (x6 : Int32) (σ : St), w_X5_plainOf_6 Q n x1 x2 x3 x4 x6 σ → G p l e rmX5_plainOf s m args below meth c 10 D cA A (MQ below (va_Qd Q (EndW D cA ad0 shR) A) args s 0 0 A) 0 0 (fun ad => ad = ad0) shR σ [(0, .ref 0), (1, .int x1), (2, .int x2), (3, .int x3), (4, .double x4), (6, .int x6)] 6 [] := by
  intro n
  induction n with
  | zero => intro x1 x2 x3 x4 x6 σ h; exact h.elim
  | succ n ih =>
    intro x1 x2 x3 x4 x6 σ h
    rw [w_X5_plainOf_6] at h
    refine g_iload X 5 dX5_plainOf_6 rfl ?_
    refine g_iload_n X 3 dX5_plainOf_8 rfl rfl ?_
    refine g_icmp_ge X 100 dX5_plainOf_9 (by decide) (fun hc => ?_) (fun hc => ?_)
    · have h := h.1 hc
      refine g_dload X 4 dX5_plainOf_100 rfl ?_
      exact g_dret X hr dX5_plainOf_102 h
    · have h := h.2 hc
      refine g_bipush X (40 : Int32) dX5_plainOf_12 (by decide) ?_
      refine g_iload_n X 1 dX5_plainOf_14 rfl rfl ?_
      refine g_imul X dX5_plainOf_15 ?_
      refine g_iload_n X 2 dX5_plainOf_16 rfl rfl ?_
      refine g_iadd X dX5_plainOf_17 ?_
      refine g_iload X 5 dX5_plainOf_18 rfl ?_
      refine g_iadd X dX5_plainOf_20 ?_
      refine g_nameI (fun y1 ey1 => ?_)
      have h := h y1 ey1
      refine g_istore X [(7, .int y1), (0, .ref 0), (1, .int x1), (2, .int x2), (3, .int x3), (4, .double x4), (6, .int x6)] dX5_plainOf_21 (Nat.le_of_ble_eq_true rfl) rfl ?_
      refine g_aload_n X 1 dX5_plainOf_23 rfl rfl ?_
      refine g_iload_n X 2 dX5_plainOf_24 rfl rfl ?_
      refine g_iload X 0 dX5_plainOf_25 rfl ?_
      refine g_callVI X (C := RX5) (T := TX5) (N := 23) (n := 2) [.int x1, .int y1] [] dX5_plainOf_27 (c_X5_sortOf l D cA h) q756 q758 q27 q57 q759 (Nat.le_of_ble_eq_true rfl) rfl rfl ⟨rfl, by decide, by decide, by decide +kernel⟩ rfl rfl (Nat.le_of_ble_eq_true rfl) rfl rfl ⟨(Nat.le_of_ble_eq_true rfl), (Nat.le_of_ble_eq_true rfl)⟩ (Nat.le_of_ble_eq_true rfl) (Nat.le_of_ble_eq_true rfl) (fun r3 σ2 h => ?_)
      refine g_istore X [(8, .int r3), (7, .int y1), (0, .ref 0), (1, .int x1), (2, .int x2), (3, .int x3), (4, .double x4), (6, .int x6)] dX5_plainOf_30 (Nat.le_of_ble_eq_true rfl) rfl ?_
      refine g_iload X 0 dX5_plainOf_32 rfl ?_
      refine g_iconst X (1 : Int32) dX5_plainOf_34 (by decide) ?_
      refine g_icmp_ne X 47 dX5_plainOf_35 (by decide) (fun hc => ?_) (fun hc => ?_)
      · have h := h.1 hc
        refine g_weak [2, 3, 4, 5, 6, 7, 1, 0] rfl ?_
        exact b_X5_plainOf_47 X hr (ih) h
      · have h := h.2 hc
        refine g_dload X 6 dX5_plainOf_38 rfl ?_
        refine g_ldc2d X q718 dX5_plainOf_40 ?_
        refine g_dcmp X dX5_plainOf_43 ?_
        refine g_if_eq X 62 dX5_plainOf_44 (by decide) (fun hc => ?_) (fun hc => ?_)
        · have h := h.1 hc
          refine g_weak [2, 3, 4, 5, 6, 7, 1, 0] rfl ?_
          exact b_X5_plainOf_62 X hr (ih) h
        · have h := h.2 hc
          refine g_weak [2, 3, 4, 5, 6, 7, 1, 0] rfl ?_
          exact b_X5_plainOf_47 X hr (ih) h
def w_X5_plainOf (Q : UInt64 → St → Prop) (x1 : Int32) (x2 : Int32) (x3 : Int32) (σ : St) : Prop := (∃ fu8 : Nat, w_X5_plainOf_6 Q fu8 x1 x2 x3 FP.dconst0 (0 : Int32) σ)
set_option maxRecDepth 100000 in
set_option maxHeartbeats 4000000 in
theorem b_X5_plainOf_0 {p : Program} {l : Launch} {e : Env} {s : State} {m : MethodId} {args : Array Value} {below : List Frame} {meth : Method} {c : Code} {D : va_G} {cA : Nat → ClassId} {A : Nat → Prop} {ad0 : Nat → Nat} {Q : UInt64 → St → Prop} {x1 : Int32} {x2 : Int32} {x3 : Int32} {σ : St} (X : Cx p rmX5_plainOf s m args meth c cX5_plainOf 10 RX5 D cA A) (hr : meth.sig.returnType = some .double) (h : w_X5_plainOf Q x1 x2 x3 σ) : G p l e rmX5_plainOf s m args below meth c 10 D cA A (MQ below (va_Qd Q (EndW D cA ad0 shR) A) args s 0 0 A) 0 0 (fun ad => ad = ad0) shR σ [(0, .ref 0), (1, .int x1), (2, .int x2), (3, .int x3)] 0 [] := by
  unfold w_X5_plainOf at h
  refine g_dconst0 X dX5_plainOf_0 ?_
  refine g_dstore X [(4, .double FP.dconst0), (0, .ref 0), (1, .int x1), (2, .int x2), (3, .int x3)] dX5_plainOf_1 (Nat.le_of_ble_eq_true rfl) rfl ?_
  refine g_iconst X (0 : Int32) dX5_plainOf_3 (by decide) ?_
  refine g_istore X [(6, .int (0 : Int32)), (4, .double FP.dconst0), (0, .ref 0), (1, .int x1), (2, .int x2), (3, .int x3)] dX5_plainOf_4 (Nat.le_of_ble_eq_true rfl) rfl ?_
  refine g_weak [2, 3, 4, 5, 1, 0] rfl ?_
  obtain ⟨fu8, h⟩ := h
  exact b_X5_plainOf_6 X hr fu8 _ _ _ _ _ _ h
theorem c_X5_plainOf (l : Launch) (D : va_G) (cA : Nat → ClassId) {x1 : Int32} {x2 : Int32} {x3 : Int32} {σ : St} {Q : UInt64 → St → Prop} (h : w_X5_plainOf Q x1 x2 x3 σ) : CtD l yX5_plainOf cX5_plainOf 10 (some .double) rmX5_plainOf D cA shR [.ref 0, .int x1, .int x2, .int x3] σ Q := by
  refine CtD.of (own := RX5) rfl (by decide +kernel) [(0, .ref 0), (1, .int x1), (2, .int x2), (3, .int x3)] rfl (Nat.le_of_ble_eq_true rfl) ?_
  intro p e s m args below meth c ad0 A X hr
  exact b_X5_plainOf_0 X hr  h
def rmX5_error : Room := { frames := 3, cells := 0, slots := 0, locals := 91 }
def w_X5_error_205 (Q : Int32 → St → Prop) (x4 : Int32) (σ : St) : Prop := ∀ σ19 : St, σ19 = uI σ 0 9 ((gI σ 0 9) + x4) → (Q x4 σ19)
set_option maxRecDepth 100000 in
set_option maxHeartbeats 4000000 in
theorem b_X5_error_205 {p : Program} {l : Launch} {e : Env} {s : State} {m : MethodId} {args : Array Value} {below : List Frame} {meth : Method} {c : Code} {D : va_G} {cA : Nat → ClassId} {A : Nat → Prop} {ad0 : Nat → Nat} {Q : Int32 → St → Prop} {x4 : Int32} {σ : St} (X : Cx p rmX5_error s m args meth c cX5_error 7 RX5 D cA A) (hr : meth.sig.returnType = some .int) (h : w_X5_error_205 Q x4 σ) : G p l e rmX5_error s m args below meth c 7 D cA A (MQ below (va_Qi Q (EndW D cA ad0 shR) A) args s 0 0 A) 0 0 (fun ad => ad = ad0) shR σ [(0, .ref 0), (4, .int x4)] 205 [] := by
  unfold w_X5_error_205 at h
  refine g_aload_n X 0 dX5_error_205 rfl rfl ?_
  refine g_dup X dX5_error_206 rfl ?_
  refine g_getI X (C := RX5) (T := TX5) (N := 23) 9 dX5_error_207 (Nat.le_of_ble_eq_true rfl) rfl rfl rfl inG5 (Nat.le_of_ble_eq_true rfl) rfl q578 ?_
  refine g_iload X 1 dX5_error_210 rfl ?_
  refine g_iadd X dX5_error_212 ?_
  refine g_putI X (C := RX5) (T := TX5) (N := 23) (ty0 := tyX5) 9 dX5_error_213 (Nat.le_of_ble_eq_true rfl) rfl rfl rfl inG5 tyX5_ok nmX5 (Nat.le_of_ble_eq_true rfl) rfl rfl q578 rfl rfl ?_
  refine g_nameS (fun σ19 eσ19 => ?_)
  have h := h σ19 eσ19
  refine g_iload X 1 dX5_error_216 rfl ?_
  exact g_iret X hr dX5_error_218 rfl h
def w_X5_error_166 (Q : Int32 → St → Prop) (x4 : Int32) (s0 : Int32) (s1 : Int32) (σ : St) : Prop := w_X5_endless (fun σ18 => (w_X5_error_205 Q x4 σ18)) s1 s0 (1 : Int32) σ
set_option maxRecDepth 100000 in
set_option maxHeartbeats 4000000 in
theorem b_X5_error_166 {p : Program} {l : Launch} {e : Env} {s : State} {m : MethodId} {args : Array Value} {below : List Frame} {meth : Method} {c : Code} {D : va_G} {cA : Nat → ClassId} {A : Nat → Prop} {ad0 : Nat → Nat} {Q : Int32 → St → Prop} {x4 : Int32} {s0 : Int32} {s1 : Int32} {σ : St} (X : Cx p rmX5_error s m args meth c cX5_error 7 RX5 D cA A) (hr : meth.sig.returnType = some .int) (h : w_X5_error_166 Q x4 s0 s1 σ) : G p l e rmX5_error s m args below meth c 7 D cA A (MQ below (va_Qi Q (EndW D cA ad0 shR) A) args s 0 0 A) 0 0 (fun ad => ad = ad0) shR σ [(0, .ref 0), (4, .int x4)] 166 [.int s0, .int s1, .ref 0] := by
  unfold w_X5_error_166 at h
  refine g_iconst X (1 : Int32) dX5_error_166 (by decide) ?_
  refine g_callVV X (C := RX5) (T := TX5) (N := 23) (n := 3) [.int s1, .int s0, .int (1 : Int32)] [] dX5_error_167 (c_X5_endless l D cA h) q773 q775 q31 q57 q776 (Nat.le_of_ble_eq_true rfl) rfl rfl ⟨rfl, by decide, by decide, by decide +kernel⟩ rfl rfl (Nat.le_of_ble_eq_true rfl) rfl rfl ⟨(Nat.le_of_ble_eq_true rfl), (Nat.le_of_ble_eq_true rfl)⟩ (Nat.le_of_ble_eq_true rfl) (Nat.le_of_ble_eq_true rfl) (fun σ18 h => ?_)
  refine g_goto X 205 dX5_error_170 (by decide) ?_
  exact b_X5_error_205 X hr h
def w_X5_error_152 (Q : Int32 → St → Prop) (x1 : Int32) (x4 : Int32) (x5 : UInt64) (σ : St) : Prop := ((0 ≤ (dcmpF x5 FP.dconst0 .g) → (w_X5_error_166 Q x4 (0 : Int32) x1 σ)) ∧ (¬ 0 ≤ (dcmpF x5 FP.dconst0 .g) → (w_X5_error_166 Q x4 (1 : Int32) x1 σ)))
set_option maxRecDepth 100000 in
set_option maxHeartbeats 4000000 in
theorem b_X5_error_152 {p : Program} {l : Launch} {e : Env} {s : State} {m : MethodId} {args : Array Value} {below : List Frame} {meth : Method} {c : Code} {D : va_G} {cA : Nat → ClassId} {A : Nat → Prop} {ad0 : Nat → Nat} {Q : Int32 → St → Prop} {x1 : Int32} {x4 : Int32} {x5 : UInt64} {σ : St} (X : Cx p rmX5_error s m args meth c cX5_error 7 RX5 D cA A) (hr : meth.sig.returnType = some .int) (h : w_X5_error_152 Q x1 x4 x5 σ) : G p l e rmX5_error s m args below meth c 7 D cA A (MQ below (va_Qi Q (EndW D cA ad0 shR) A) args s 0 0 A) 0 0 (fun ad => ad = ad0) shR σ [(0, .ref 0), (1, .int x1), (4, .int x4), (5, .double x5)] 152 [] := by
  unfold w_X5_error_152 at h
  refine g_aload_n X 0 dX5_error_152 rfl rfl ?_
  refine g_iload_n X 1 dX5_error_153 rfl rfl ?_
  refine g_dload X 3 dX5_error_154 rfl ?_
  refine g_dconst0 X dX5_error_156 ?_
  refine g_dcmp X dX5_error_157 ?_
  refine g_if_ge X 165 dX5_error_158 (by decide) (fun hc => ?_) (fun hc => ?_)
  · have h := h.1 hc
    refine g_iconst X (0 : Int32) dX5_error_165 (by decide) ?_
    refine g_weak [0, 2] rfl ?_
    exact b_X5_error_166 X hr h
  · have h := h.2 hc
    refine g_iconst X (1 : Int32) dX5_error_161 (by decide) ?_
    refine g_goto X 166 dX5_error_162 (by decide) ?_
    refine g_weak [0, 2] rfl ?_
    exact b_X5_error_166 X hr h
def w_X5_error_202 (Q : Int32 → St → Prop) (x4 : Int32) (s0 : Int32) (s1 : Int32) (s2 : Int64) (s3 : Int64) (s4 : Int32) (σ : St) : Prop := w_X5_addBits (fun σ21 => (w_X5_error_205 Q x4 σ21)) s4 s3 s2 s1 s0 σ
set_option maxRecDepth 100000 in
set_option maxHeartbeats 4000000 in
theorem b_X5_error_202 {p : Program} {l : Launch} {e : Env} {s : State} {m : MethodId} {args : Array Value} {below : List Frame} {meth : Method} {c : Code} {D : va_G} {cA : Nat → ClassId} {A : Nat → Prop} {ad0 : Nat → Nat} {Q : Int32 → St → Prop} {x4 : Int32} {s0 : Int32} {s1 : Int32} {s2 : Int64} {s3 : Int64} {s4 : Int32} {σ : St} (X : Cx p rmX5_error s m args meth c cX5_error 7 RX5 D cA A) (hr : meth.sig.returnType = some .int) (h : w_X5_error_202 Q x4 s0 s1 s2 s3 s4 σ) : G p l e rmX5_error s m args below meth c 7 D cA A (MQ below (va_Qi Q (EndW D cA ad0 shR) A) args s 0 0 A) 0 0 (fun ad => ad = ad0) shR σ [(0, .ref 0), (4, .int x4)] 202 [.int s0, .int s1, .long s2, .long s3, .int s4, .ref 0] := by
  unfold w_X5_error_202 at h
  refine g_callVV X (C := RX5) (T := TX5) (N := 23) (n := 5) [.int s4, .long s3, .long s2, .int s1, .int s0] [] dX5_error_202 (c_X5_addBits l D cA h) q790 q792 q34 q57 q793 (Nat.le_of_ble_eq_true rfl) rfl rfl ⟨rfl, by decide, by decide, by decide +kernel⟩ rfl rfl (Nat.le_of_ble_eq_true rfl) rfl rfl ⟨(Nat.le_of_ble_eq_true rfl), (Nat.le_of_ble_eq_true rfl)⟩ (Nat.le_of_ble_eq_true rfl) (Nat.le_of_ble_eq_true rfl) (fun σ21 h => ?_)
  exact b_X5_error_205 X hr h
def w_X5_error_95 (Q : Int32 → St → Prop) : Nat → Int32 → Int32 → Int32 → Int32 → Int32 → St → Prop
  | 0, _, _, _, _, _, _ => False
  | n + 1, x1, x2, x3, x4, x5, σ => ((x4 ≤ x5 → w_X5_plainOf (fun r17 σ16 => (((dcmpF r17 (9218868437227405312 : UInt64) .l) = 0 → (w_X5_error_152 Q x1 x4 r17 σ16)) ∧ (¬ (dcmpF r17 (9218868437227405312 : UInt64) .l) = 0 → ((¬ (dcmpF r17 (18442240474082181120 : UInt64) .l) = 0 → w_X5_apart_ (fun σ20 => ((¬ (gI σ20 0 18) = 0 → (w_X5_error_202 Q x4 (0 : Int32) (gI σ20 0 17) (gJ σ20 0 16) (0 : Int64) x1 σ20)) ∧ ((gI σ20 0 18) = 0 → (w_X5_error_202 Q x4 (1 : Int32) (gI σ20 0 17) (gJ σ20 0 16) (0 : Int64) x1 σ20)))) r17 σ16) ∧ ((dcmpF r17 (18442240474082181120 : UInt64) .l) = 0 → (w_X5_error_152 Q x1 x4 r17 σ16)))))) x2 x3 x4 σ) ∧ (¬ x4 ≤ x5 → w_X5_addPlace (fun σ22 => ∀ y23 : Int32, y23 = x5 + (1 : Int32) → (w_X5_error_95 Q n x1 x2 x3 x4 y23 σ22)) x1 x2 ((((40 : Int32) * x2) + x3) + x5) (0 : Int32) σ))
set_option maxRecDepth 100000 in
set_option maxHeartbeats 4000000 in
theorem b_X5_error_95 {p : Program} {l : Launch} {e : Env} {s : State} {m : MethodId} {args : Array Value} {below : List Frame} {meth : Method} {c : Code} {D : va_G} {cA : Nat → ClassId} {A : Nat → Prop} {ad0 : Nat → Nat} {Q : Int32 → St → Prop} (X : Cx p rmX5_error s m args meth c cX5_error 7 RX5 D cA A) (hr : meth.sig.returnType = some .int) : ∀ (n : Nat) (x1 : Int32) (x2 : Int32) (x3 : Int32) (x4 : Int32) (x5 : Int32) (σ : St), w_X5_error_95 Q n x1 x2 x3 x4 x5 σ → G p l e rmX5_error s m args below meth c 7 D cA A (MQ below (va_Qi Q (EndW D cA ad0 shR) A) args s 0 0 A) 0 0 (fun ad => ad = ad0) shR σ [(0, .ref 0), (1, .int x1), (2, .int x2), (3, .int x3), (4, .int x4), (5, .int x5)] 95 [] := by
  intro n
  induction n with
  | zero => intro x1 x2 x3 x4 x5 σ h; exact h.elim
  | succ n ih =>
    intro x1 x2 x3 x4 x5 σ h
    rw [w_X5_error_95] at h
    refine g_iload X 5 dX5_error_95 rfl ?_
    refine g_iload X 4 dX5_error_97 rfl ?_
    refine g_icmp_ge X 124 dX5_error_99 (by decide) (fun hc => ?_) (fun hc => ?_)
    · have h := h.1 hc
      refine g_aload_n X 0 dX5_error_124 rfl rfl ?_
      refine g_iload_n X 2 dX5_error_125 rfl rfl ?_
      refine g_iload_n X 3 dX5_error_126 rfl rfl ?_
      refine g_iload X 4 dX5_error_127 rfl ?_
      refine g_callVD X (C := RX5) (T := TX5) (N := 23) (n := 3) [.int x2, .int x3, .int x4] [] dX5_error_129 (c_X5_plainOf l D cA h) q820 q822 q37 q57 q823 (Nat.le_of_ble_eq_true rfl) rfl rfl ⟨rfl, by decide, by decide, by decide +kernel⟩ rfl rfl (Nat.le_of_ble_eq_true rfl) rfl rfl ⟨(Nat.le_of_ble_eq_true rfl), (Nat.le_of_ble_eq_true rfl)⟩ (Nat.le_of_ble_eq_true rfl) (Nat.le_of_ble_eq_true rfl) (fun r17 σ16 h => ?_)
      refine g_dstore X [(5, .double r17), (0, .ref 0), (1, .int x1), (2, .int x2), (3, .int x3), (4, .int x4)] dX5_error_132 (Nat.le_of_ble_eq_true rfl) rfl ?_
      refine g_dload X 0 dX5_error_134 rfl ?_
      refine g_ldc2d X q717 dX5_error_136 ?_
      refine g_dcmp X dX5_error_139 ?_
      refine g_if_eq X 152 dX5_error_140 (by decide) (fun hc => ?_) (fun hc => ?_)
      · have h := h.1 hc
        refine g_weak [1, 2, 5, 0] rfl ?_
        exact b_X5_error_152 X hr h
      · have h := h.2 hc
        refine g_dload X 0 dX5_error_143 rfl ?_
        refine g_ldc2d X q718 dX5_error_145 ?_
        refine g_dcmp X dX5_error_148 ?_
        refine g_if_ne X 173 dX5_error_149 (by decide) (fun hc => ?_) (fun hc => ?_)
        · have h := h.1 hc
          refine g_aload_n X 1 dX5_error_173 rfl rfl ?_
          refine g_dload X 0 dX5_error_174 rfl ?_
          refine g_callVV X (C := RX5) (T := TX5) (N := 23) (n := 1) [.double r17] [] dX5_error_176 (c_X5_apart_ l D cA h) q781 q783 q33 q57 q784 (Nat.le_of_ble_eq_true rfl) rfl rfl ⟨rfl, by decide, by decide, by decide +kernel⟩ rfl rfl (Nat.le_of_ble_eq_true rfl) rfl rfl ⟨(Nat.le_of_ble_eq_true rfl), (Nat.le_of_ble_eq_true rfl)⟩ (Nat.le_of_ble_eq_true rfl) (Nat.le_of_ble_eq_true rfl) (fun σ20 h => ?_)
          refine g_aload_n X 1 dX5_error_179 rfl rfl ?_
          refine g_iload_n X 2 dX5_error_180 rfl rfl ?_
          refine g_lconst X (0 : Int64) dX5_error_181 (by decide) ?_
          refine g_aload_n X 1 dX5_error_182 rfl rfl ?_
          refine g_getJ X (C := RX5) (T := TX5) (N := 23) 16 dX5_error_183 (Nat.le_of_ble_eq_true rfl) rfl rfl rfl inG5 (Nat.le_of_ble_eq_true rfl) rfl q585 ?_
          refine g_aload_n X 1 dX5_error_186 rfl rfl ?_
          refine g_getI X (C := RX5) (T := TX5) (N := 23) 17 dX5_error_187 (Nat.le_of_ble_eq_true rfl) rfl rfl rfl inG5 (Nat.le_of_ble_eq_true rfl) rfl q586 ?_
          refine g_aload_n X 1 dX5_error_190 rfl rfl ?_
          refine g_getI X (C := RX5) (T := TX5) (N := 23) 18 dX5_error_191 (Nat.le_of_ble_eq_true rfl) rfl rfl rfl inG5 (Nat.le_of_ble_eq_true rfl) rfl q587 ?_
          refine g_if_ne X 201 dX5_error_194 (by decide) (fun hc => ?_) (fun hc => ?_)
          · have h := h.1 hc
            refine g_iconst X (0 : Int32) dX5_error_201 (by decide) ?_
            refine g_weak [1, 5] rfl ?_
            exact b_X5_error_202 X hr h
          · have h := h.2 hc
            refine g_iconst X (1 : Int32) dX5_error_197 (by decide) ?_
            refine g_goto X 202 dX5_error_198 (by decide) ?_
            refine g_weak [1, 5] rfl ?_
            exact b_X5_error_202 X hr h
        · have h := h.2 hc
          refine g_weak [1, 2, 5, 0] rfl ?_
          exact b_X5_error_152 X hr h
    · have h := h.2 hc
      refine g_aload_n X 0 dX5_error_102 rfl rfl ?_
      refine g_iload_n X 1 dX5_error_103 rfl rfl ?_
      refine g_iload_n X 2 dX5_error_104 rfl rfl ?_
      refine g_bipush X (40 : Int32) dX5_error_105 (by decide) ?_
      refine g_iload_n X 2 dX5_error_107 rfl rfl ?_
      refine g_imul X dX5_error_108 ?_
      refine g_iload_n X 3 dX5_error_109 rfl rfl ?_
      refine g_iadd X dX5_error_110 ?_
      refine g_iload X 5 dX5_error_111 rfl ?_
      refine g_iadd X dX5_error_113 ?_
      refine g_iconst X (0 : Int32) dX5_error_114 (by decide) ?_
      refine g_callVV X (C := RX5) (T := TX5) (N := 23) (n := 4) [.int x1, .int x2, .int ((((40 : Int32) * x2) + x3) + x5), .int (0 : Int32)] [] dX5_error_115 (c_X5_addPlace l D cA h) q800 q802 q36 q57 q803 (Nat.le_of_ble_eq_true rfl) rfl rfl ⟨rfl, by decide, by decide, by decide +kernel⟩ rfl rfl (Nat.le_of_ble_eq_true rfl) rfl rfl ⟨(Nat.le_of_ble_eq_true rfl), (Nat.le_of_ble_eq_true rfl)⟩ (Nat.le_of_ble_eq_true rfl) (Nat.le_of_ble_eq_true rfl) (fun σ22 h => ?_)
      obtain ⟨y23, ey23⟩ : ∃ y : Int32, y = x5 + (1 : Int32) := ⟨_, rfl⟩
      have h := h y23 ey23
      refine g_iinc X 5 (1 : Int32) [(5, .int y23), (0, .ref 0), (1, .int x1), (2, .int x2), (3, .int x3), (4, .int x4)] dX5_error_118 rfl (by decide) (Nat.le_of_ble_eq_true rfl) (by rw [ey23]; rfl) ?_
      refine g_goto X 95 dX5_error_121 (by decide) ?_
      refine g_weak [1, 2, 3, 4, 5, 0] rfl ?_
      exact ih _ _ _ _ _ _ h
def w_X5_error (Q : Int32 → St → Prop) (x1 : Int32) (x2 : Int32) (x3 : Int32) (x4 : Int32) (σ : St) : Prop := ∀ σ1 : St, σ1 = uI σ 0 0 (0 : Int32) → w_X5_isKeeper (fun r3 σ2 => ((r3 = 0 → (Q (-3 : Int32) σ2)) ∧ (¬ r3 = 0 → w_X5_isRow (fun r5 σ4 => ((r5 = 0 → (Q (-3 : Int32) σ4)) ∧ (¬ r5 = 0 → w_X5_in (fun r7 σ6 => ((¬ r7 = 0 → vp_in x1 7 ∧ (((gI σ6 6 (ix x1)) = (-1 : Int32) → (Q (-11 : Int32) σ6)) ∧ (¬ (gI σ6 6 (ix x1)) = (-1 : Int32) → w_X5_isThere (fun r10 σ9 => ((¬ r10 = 0 → vp_in x1 7 ∧ (((gI σ9 6 (ix x1)) = 0 → w_X5_arePlaces (fun r13 σ12 => ((¬ r13 = 0 → w_X5_keep (fun σ14 => w_X5_blank (fun σ15 => (∃ fu24 : Nat, w_X5_error_95 Q fu24 x1 x2 x3 x4 (0 : Int32) σ15)) x1 σ14) x1 σ12) ∧ (r13 = 0 → (Q (-13 : Int32) σ12)))) x2 x3 x4 σ9) ∧ (¬ (gI σ9 6 (ix x1)) = 0 → (Q (-12 : Int32) σ9)))) ∧ (r10 = 0 → (Q (-11 : Int32) σ9)))) x2 σ6))) ∧ (r7 = 0 → (Q (-3 : Int32) σ6)))) (x4.toInt64) (0 : Int64) (40 : Int64) σ4))) x2 σ2))) x1 σ1
set_option maxRecDepth 100000 in
set_option maxHeartbeats 4000000 in
theorem b_X5_error_0 {p : Program} {l : Launch} {e : Env} {s : State} {m : MethodId} {args : Array Value} {below : List Frame} {meth : Method} {c : Code} {D : va_G} {cA : Nat → ClassId} {A : Nat → Prop} {ad0 : Nat → Nat} {Q : Int32 → St → Prop} {x1 : Int32} {x2 : Int32} {x3 : Int32} {x4 : Int32} {σ : St} (X : Cx p rmX5_error s m args meth c cX5_error 7 RX5 D cA A) (hr : meth.sig.returnType = some .int) (h : w_X5_error Q x1 x2 x3 x4 σ) : G p l e rmX5_error s m args below meth c 7 D cA A (MQ below (va_Qi Q (EndW D cA ad0 shR) A) args s 0 0 A) 0 0 (fun ad => ad = ad0) shR σ [(0, .ref 0), (1, .int x1), (2, .int x2), (3, .int x3), (4, .int x4)] 0 [] := by
  unfold w_X5_error at h
  refine g_aload_n X 0 dX5_error_0 rfl rfl ?_
  refine g_iconst X (0 : Int32) dX5_error_1 (by decide) ?_
  refine g_putI X (C := RX5) (T := TX5) (N := 23) (ty0 := tyX5) 0 dX5_error_2 (Nat.le_of_ble_eq_true rfl) rfl rfl rfl inG5 tyX5_ok nmX5 (Nat.le_of_ble_eq_true rfl) rfl rfl q569 rfl rfl ?_
  refine g_nameS (fun σ1 eσ1 => ?_)
  have h := h σ1 eσ1
  refine g_iload_n X 1 dX5_error_5 rfl rfl ?_
  refine g_callSI X (n := 1) [.int x1] [] dX5_error_6 (c_X5_isKeeper l D cA shR h) q731 q732 q57 q733 ⟨by decide, by decide, by decide +kernel⟩ rfl rfl (Nat.le_of_ble_eq_true rfl) rfl rfl ⟨(Nat.le_of_ble_eq_true rfl), (Nat.le_of_ble_eq_true rfl)⟩ (Nat.le_of_ble_eq_true rfl) (Nat.le_of_ble_eq_true rfl) (fun r3 σ2 h => ?_)
  refine g_if_eq X 32 dX5_error_9 (by decide) (fun hc => ?_) (fun hc => ?_)
  · have h := h.1 hc
    refine g_bipush X (-3 : Int32) dX5_error_32 (by decide) ?_
    exact g_iret X hr dX5_error_34 rfl h
  · have h := h.2 hc
    refine g_iload_n X 2 dX5_error_12 rfl rfl ?_
    refine g_callSI X (n := 1) [.int x2] [] dX5_error_13 (c_X5_isRow l D cA shR h) q644 q645 q57 q646 ⟨by decide, by decide, by decide +kernel⟩ rfl rfl (Nat.le_of_ble_eq_true rfl) rfl rfl ⟨(Nat.le_of_ble_eq_true rfl), (Nat.le_of_ble_eq_true rfl)⟩ (Nat.le_of_ble_eq_true rfl) (Nat.le_of_ble_eq_true rfl) (fun r5 σ4 h => ?_)
    refine g_if_eq X 32 dX5_error_16 (by decide) (fun hc => ?_) (fun hc => ?_)
    · have h := h.1 hc
      refine g_bipush X (-3 : Int32) dX5_error_32 (by decide) ?_
      exact g_iret X hr dX5_error_34 rfl h
    · have h := h.2 hc
      refine g_iload X 4 dX5_error_19 rfl ?_
      refine g_i2l X dX5_error_21 ?_
      refine g_lconst X (0 : Int64) dX5_error_22 (by decide) ?_
      refine g_ldc2 X q748 dX5_error_23 ?_
      refine g_callSI X (n := 3) [.long (x4.toInt64), .long (0 : Int64), .long (40 : Int64)] [] dX5_error_26 (c_X5_in l D cA shR h) q648 q649 q57 q650 ⟨by decide, by decide, by decide +kernel⟩ rfl rfl (Nat.le_of_ble_eq_true rfl) rfl rfl ⟨(Nat.le_of_ble_eq_true rfl), (Nat.le_of_ble_eq_true rfl)⟩ (Nat.le_of_ble_eq_true rfl) (Nat.le_of_ble_eq_true rfl) (fun r7 σ6 h => ?_)
      refine g_if_ne X 35 dX5_error_29 (by decide) (fun hc => ?_) (fun hc => ?_)
      · have h := h.1 hc
        refine g_aload_n X 0 dX5_error_35 rfl rfl ?_
        refine g_getR X (C := RX5) (T := TX5) (N := 23) 6 dX5_error_36 (Nat.le_of_ble_eq_true rfl) rfl rfl rfl inG5 (Nat.le_of_ble_eq_true rfl) rfl rfl q575 ?_
        refine g_iload_n X 1 dX5_error_39 rfl rfl ?_
        obtain ⟨hi8, h⟩ := h
        refine g_iald X dX5_error_40 (Nat.le_of_ble_eq_true rfl) rfl hi8 ?_
        refine g_iconst X (-1 : Int32) dX5_error_41 (by decide) ?_
        refine g_icmp_eq X 53 dX5_error_42 (by decide) (fun hc => ?_) (fun hc => ?_)
        · have h := h.1 hc
          refine g_bipush X (-11 : Int32) dX5_error_53 (by decide) ?_
          exact g_iret X hr dX5_error_55 rfl h
        · have h := h.2 hc
          refine g_aload_n X 0 dX5_error_45 rfl rfl ?_
          refine g_iload_n X 2 dX5_error_46 rfl rfl ?_
          refine g_callVI X (C := RX5) (T := TX5) (N := 23) (n := 1) [.int x2] [] dX5_error_47 (c_X5_isThere l D cA h) q656 q658 q18 q57 q659 (Nat.le_of_ble_eq_true rfl) rfl rfl ⟨rfl, by decide, by decide, by decide +kernel⟩ rfl rfl (Nat.le_of_ble_eq_true rfl) rfl rfl ⟨(Nat.le_of_ble_eq_true rfl), (Nat.le_of_ble_eq_true rfl)⟩ (Nat.le_of_ble_eq_true rfl) (Nat.le_of_ble_eq_true rfl) (fun r10 σ9 h => ?_)
          refine g_if_ne X 56 dX5_error_50 (by decide) (fun hc => ?_) (fun hc => ?_)
          · have h := h.1 hc
            refine g_aload_n X 0 dX5_error_56 rfl rfl ?_
            refine g_getR X (C := RX5) (T := TX5) (N := 23) 6 dX5_error_57 (Nat.le_of_ble_eq_true rfl) rfl rfl rfl inG5 (Nat.le_of_ble_eq_true rfl) rfl rfl q575 ?_
            refine g_iload_n X 1 dX5_error_60 rfl rfl ?_
            obtain ⟨hi11, h⟩ := h
            refine g_iald X dX5_error_61 (Nat.le_of_ble_eq_true rfl) rfl hi11 ?_
            refine g_if_eq X 68 dX5_error_62 (by decide) (fun hc => ?_) (fun hc => ?_)
            · have h := h.1 hc
              refine g_aload_n X 0 dX5_error_68 rfl rfl ?_
              refine g_iload_n X 2 dX5_error_69 rfl rfl ?_
              refine g_iload_n X 3 dX5_error_70 rfl rfl ?_
              refine g_iload X 4 dX5_error_71 rfl ?_
              refine g_callVI X (C := RX5) (T := TX5) (N := 23) (n := 3) [.int x2, .int x3, .int x4] [] dX5_error_73 (c_X5_arePlaces l D cA h) q696 q698 q22 q57 q699 (Nat.le_of_ble_eq_true rfl) rfl rfl ⟨rfl, by decide, by decide, by decide +kernel⟩ rfl rfl (Nat.le_of_ble_eq_true rfl) rfl rfl ⟨(Nat.le_of_ble_eq_true rfl), (Nat.le_of_ble_eq_true rfl)⟩ (Nat.le_of_ble_eq_true rfl) (Nat.le_of_ble_eq_true rfl) (fun r13 σ12 h => ?_)
              refine g_if_ne X 82 dX5_error_76 (by decide) (fun hc => ?_) (fun hc => ?_)
              · have h := h.1 hc
                refine g_aload_n X 0 dX5_error_82 rfl rfl ?_
                refine g_iload_n X 1 dX5_error_83 rfl rfl ?_
                refine g_callVV X (C := RX5) (T := TX5) (N := 23) (n := 1) [.int x1] [] dX5_error_84 (c_X5_keep l D cA h) q735 q737 q24 q57 q738 (Nat.le_of_ble_eq_true rfl) rfl rfl ⟨rfl, by decide, by decide, by decide +kernel⟩ rfl rfl (Nat.le_of_ble_eq_true rfl) rfl rfl ⟨(Nat.le_of_ble_eq_true rfl), (Nat.le_of_ble_eq_true rfl)⟩ (Nat.le_of_ble_eq_true rfl) (Nat.le_of_ble_eq_true rfl) (fun σ14 h => ?_)
                refine g_aload_n X 0 dX5_error_87 rfl rfl ?_
                refine g_iload_n X 1 dX5_error_88 rfl rfl ?_
                refine g_callVV X (C := RX5) (T := TX5) (N := 23) (n := 1) [.int x1] [] dX5_error_89 (c_X5_blank l D cA h) q739 q741 q25 q57 q742 (Nat.le_of_ble_eq_true rfl) rfl rfl ⟨rfl, by decide, by decide, by decide +kernel⟩ rfl rfl (Nat.le_of_ble_eq_true rfl) rfl rfl ⟨(Nat.le_of_ble_eq_true rfl), (Nat.le_of_ble_eq_true rfl)⟩ (Nat.le_of_ble_eq_true rfl) (Nat.le_of_ble_eq_true rfl) (fun σ15 h => ?_)
                refine g_iconst X (0 : Int32) dX5_error_92 (by decide) ?_
                refine g_istore X [(5, .int (0 : Int32)), (0, .ref 0), (1, .int x1), (2, .int x2), (3, .int x3), (4, .int x4)] dX5_error_93 (Nat.le_of_ble_eq_true rfl) rfl ?_
                refine g_weak [1, 2, 3, 4, 5, 0] rfl ?_
                obtain ⟨fu24, h⟩ := h
                exact b_X5_error_95 X hr fu24 _ _ _ _ _ _ h
              · have h := h.2 hc
                refine g_bipush X (-13 : Int32) dX5_error_79 (by decide) ?_
                exact g_iret X hr dX5_error_81 rfl h
            · have h := h.2 hc
              refine g_bipush X (-12 : Int32) dX5_error_65 (by decide) ?_
              exact g_iret X hr dX5_error_67 rfl h
          · have h := h.2 hc
            refine g_bipush X (-11 : Int32) dX5_error_53 (by decide) ?_
            exact g_iret X hr dX5_error_55 rfl h
      · have h := h.2 hc
        refine g_bipush X (-3 : Int32) dX5_error_32 (by decide) ?_
        exact g_iret X hr dX5_error_34 rfl h
theorem c_X5_error (l : Launch) (D : va_G) (cA : Nat → ClassId) {x1 : Int32} {x2 : Int32} {x3 : Int32} {x4 : Int32} {σ : St} {Q : Int32 → St → Prop} (h : w_X5_error Q x1 x2 x3 x4 σ) : CtI l yX5_error cX5_error 7 (some .int) rmX5_error D cA shR [.ref 0, .int x1, .int x2, .int x3, .int x4] σ Q := by
  refine CtI.of (own := RX5) rfl (by decide +kernel) [(0, .ref 0), (1, .int x1), (2, .int x2), (3, .int x3), (4, .int x4)] rfl (Nat.le_of_ble_eq_true rfl) ?_
  intro p e s m args below meth c ad0 A X hr
  exact b_X5_error_0 X hr  h
def rmX5_plain : Room := { frames := 3, cells := 0, slots := 0, locals := 72 }
def w_X5_plain (Q : UInt64 → St → Prop) (x1 : Int32) (x2 : Int32) (x3 : Int32) (σ : St) : Prop := ∀ σ1 : St, σ1 = uI σ 0 0 (0 : Int32) → w_X5_isRow (fun r3 σ2 => ((r3 = 0 → (Q FP.dconst0 σ2)) ∧ (¬ r3 = 0 → w_X5_in (fun r5 σ4 => ((r5 = 0 → (Q FP.dconst0 σ4)) ∧ (¬ r5 = 0 → w_X5_isThere (fun r7 σ6 => ((r7 = 0 → (Q FP.dconst0 σ6)) ∧ (¬ r7 = 0 → w_X5_arePlaces (fun r9 σ8 => ((¬ r9 = 0 → w_X5_plainOf (fun r11 σ10 => (Q r11 σ10)) x1 x2 x3 σ8) ∧ (r9 = 0 → (Q FP.dconst0 σ8)))) x1 x2 x3 σ6))) x1 σ4))) (x3.toInt64) (0 : Int64) (40 : Int64) σ2))) x1 σ1
set_option maxRecDepth 100000 in
set_option maxHeartbeats 4000000 in
theorem b_X5_plain_0 {p : Program} {l : Launch} {e : Env} {s : State} {m : MethodId} {args : Array Value} {below : List Frame} {meth : Method} {c : Code} {D : va_G} {cA : Nat → ClassId} {A : Nat → Prop} {ad0 : Nat → Nat} {Q : UInt64 → St → Prop} {x1 : Int32} {x2 : Int32} {x3 : Int32} {σ : St} (X : Cx p rmX5_plain s m args meth c cX5_plain 4 RX5 D cA A) (hr : meth.sig.returnType = some .double) (h : w_X5_plain Q x1 x2 x3 σ) : G p l e rmX5_plain s m args below meth c 4 D cA A (MQ below (va_Qd Q (EndW D cA ad0 shR) A) args s 0 0 A) 0 0 (fun ad => ad = ad0) shR σ [(0, .ref 0), (1, .int x1), (2, .int x2), (3, .int x3)] 0 [] := by
  unfold w_X5_plain at h
  refine g_aload_n X 0 dX5_plain_0 rfl rfl ?_
  refine g_iconst X (0 : Int32) dX5_plain_1 (by decide) ?_
  refine g_putI X (C := RX5) (T := TX5) (N := 23) (ty0 := tyX5) 0 dX5_plain_2 (Nat.le_of_ble_eq_true rfl) rfl rfl rfl inG5 tyX5_ok nmX5 (Nat.le_of_ble_eq_true rfl) rfl rfl q569 rfl rfl ?_
  refine g_nameS (fun σ1 eσ1 => ?_)
  have h := h σ1 eσ1
  refine g_iload_n X 1 dX5_plain_5 rfl rfl ?_
  refine g_callSI X (n := 1) [.int x1] [] dX5_plain_6 (c_X5_isRow l D cA shR h) q644 q645 q57 q646 ⟨by decide, by decide, by decide +kernel⟩ rfl rfl (Nat.le_of_ble_eq_true rfl) rfl rfl ⟨(Nat.le_of_ble_eq_true rfl), (Nat.le_of_ble_eq_true rfl)⟩ (Nat.le_of_ble_eq_true rfl) (Nat.le_of_ble_eq_true rfl) (fun r3 σ2 h => ?_)
  refine g_if_eq X 42 dX5_plain_9 (by decide) (fun hc => ?_) (fun hc => ?_)
  · have h := h.1 hc
    refine g_dconst0 X dX5_plain_42 ?_
    exact g_dret X hr dX5_plain_43 h
  · have h := h.2 hc
    refine g_iload_n X 3 dX5_plain_12 rfl rfl ?_
    refine g_i2l X dX5_plain_13 ?_
    refine g_lconst X (0 : Int64) dX5_plain_14 (by decide) ?_
    refine g_ldc2 X q748 dX5_plain_15 ?_
    refine g_callSI X (n := 3) [.long (x3.toInt64), .long (0 : Int64), .long (40 : Int64)] [] dX5_plain_18 (c_X5_in l D cA shR h) q648 q649 q57 q650 ⟨by decide, by decide, by decide +kernel⟩ rfl rfl (Nat.le_of_ble_eq_true rfl) rfl rfl ⟨(Nat.le_of_ble_eq_true rfl), (Nat.le_of_ble_eq_true rfl)⟩ (Nat.le_of_ble_eq_true rfl) (Nat.le_of_ble_eq_true rfl) (fun r5 σ4 h => ?_)
    refine g_if_eq X 42 dX5_plain_21 (by decide) (fun hc => ?_) (fun hc => ?_)
    · have h := h.1 hc
      refine g_dconst0 X dX5_plain_42 ?_
      exact g_dret X hr dX5_plain_43 h
    · have h := h.2 hc
      refine g_aload_n X 0 dX5_plain_24 rfl rfl ?_
      refine g_iload_n X 1 dX5_plain_25 rfl rfl ?_
      refine g_callVI X (C := RX5) (T := TX5) (N := 23) (n := 1) [.int x1] [] dX5_plain_26 (c_X5_isThere l D cA h) q656 q658 q18 q57 q659 (Nat.le_of_ble_eq_true rfl) rfl rfl ⟨rfl, by decide, by decide, by decide +kernel⟩ rfl rfl (Nat.le_of_ble_eq_true rfl) rfl rfl ⟨(Nat.le_of_ble_eq_true rfl), (Nat.le_of_ble_eq_true rfl)⟩ (Nat.le_of_ble_eq_true rfl) (Nat.le_of_ble_eq_true rfl) (fun r7 σ6 h => ?_)
      refine g_if_eq X 42 dX5_plain_29 (by decide) (fun hc => ?_) (fun hc => ?_)
      · have h := h.1 hc
        refine g_dconst0 X dX5_plain_42 ?_
        exact g_dret X hr dX5_plain_43 h
      · have h := h.2 hc
        refine g_aload_n X 0 dX5_plain_32 rfl rfl ?_
        refine g_iload_n X 1 dX5_plain_33 rfl rfl ?_
        refine g_iload_n X 2 dX5_plain_34 rfl rfl ?_
        refine g_iload_n X 3 dX5_plain_35 rfl rfl ?_
        refine g_callVI X (C := RX5) (T := TX5) (N := 23) (n := 3) [.int x1, .int x2, .int x3] [] dX5_plain_36 (c_X5_arePlaces l D cA h) q696 q698 q22 q57 q699 (Nat.le_of_ble_eq_true rfl) rfl rfl ⟨rfl, by decide, by decide, by decide +kernel⟩ rfl rfl (Nat.le_of_ble_eq_true rfl) rfl rfl ⟨(Nat.le_of_ble_eq_true rfl), (Nat.le_of_ble_eq_true rfl)⟩ (Nat.le_of_ble_eq_true rfl) (Nat.le_of_ble_eq_true rfl) (fun r9 σ8 h => ?_)
        refine g_if_ne X 44 dX5_plain_39 (by decide) (fun hc => ?_) (fun hc => ?_)
        · have h := h.1 hc
          refine g_aload_n X 0 dX5_plain_44 rfl rfl ?_
          refine g_iload_n X 1 dX5_plain_45 rfl rfl ?_
          refine g_iload_n X 2 dX5_plain_46 rfl rfl ?_
          refine g_iload_n X 3 dX5_plain_47 rfl rfl ?_
          refine g_callVD X (C := RX5) (T := TX5) (N := 23) (n := 3) [.int x1, .int x2, .int x3] [] dX5_plain_48 (c_X5_plainOf l D cA h) q820 q822 q37 q57 q823 (Nat.le_of_ble_eq_true rfl) rfl rfl ⟨rfl, by decide, by decide, by decide +kernel⟩ rfl rfl (Nat.le_of_ble_eq_true rfl) rfl rfl ⟨(Nat.le_of_ble_eq_true rfl), (Nat.le_of_ble_eq_true rfl)⟩ (Nat.le_of_ble_eq_true rfl) (Nat.le_of_ble_eq_true rfl) (fun r11 σ10 h => ?_)
          exact g_dret X hr dX5_plain_51 h
        · have h := h.2 hc
          refine g_dconst0 X dX5_plain_42 ?_
          exact g_dret X hr dX5_plain_43 h
theorem c_X5_plain (l : Launch) (D : va_G) (cA : Nat → ClassId) {x1 : Int32} {x2 : Int32} {x3 : Int32} {σ : St} {Q : UInt64 → St → Prop} (h : w_X5_plain Q x1 x2 x3 σ) : CtD l yX5_plain cX5_plain 4 (some .double) rmX5_plain D cA shR [.ref 0, .int x1, .int x2, .int x3] σ Q := by
  refine CtD.of (own := RX5) rfl (by decide +kernel) [(0, .ref 0), (1, .int x1), (2, .int x2), (3, .int x3)] rfl (Nat.le_of_ble_eq_true rfl) ?_
  intro p e s m args below meth c ad0 A X hr
  exact b_X5_plain_0 X hr  h
def rmX5_sortOf_ : Room := { frames := 0, cells := 0, slots := 0, locals := 0 }
def w_X5_sortOf__61 (Q : Int32 → St → Prop) (x2 : Int32) (x3 : Int32) (σ : St) : Prop := ((x2 = 0 → ((x3 = 0 → (Q (0 : Int32) σ)) ∧ (¬ x3 = 0 → (Q (2 : Int32) σ)))) ∧ (¬ x2 = 0 → (Q (1 : Int32) σ)))
set_option maxRecDepth 100000 in
set_option maxHeartbeats 4000000 in
theorem b_X5_sortOf__61 {p : Program} {l : Launch} {e : Env} {s : State} {m : MethodId} {args : Array Value} {below : List Frame} {meth : Method} {c : Code} {D : va_G} {cA : Nat → ClassId} {A : Nat → Prop} {ad0 : Nat → Nat} {Q : Int32 → St → Prop} {x2 : Int32} {x3 : Int32} {σ : St} (X : Cx p rmX5_sortOf_ s m args meth c cX5_sortOf_ 4 RX5 D cA A) (hr : meth.sig.returnType = some .int) (h : w_X5_sortOf__61 Q x2 x3 σ) : G p l e rmX5_sortOf_ s m args below meth c 4 D cA A (MQ below (va_Qi Q (EndW D cA ad0 shR) A) args s 0 0 A) 0 0 (fun ad => ad = ad0) shR σ [(2, .int x2), (3, .int x3)] 61 [] := by
  unfold w_X5_sortOf__61 at h
  refine g_iload_n X 0 dX5_sortOf__61 rfl rfl ?_
  refine g_if_eq X 69 dX5_sortOf__62 (by decide) (fun hc => ?_) (fun hc => ?_)
  · have h := h.1 hc
    refine g_iload_n X 1 dX5_sortOf__69 rfl rfl ?_
    refine g_if_eq X 77 dX5_sortOf__70 (by decide) (fun hc => ?_) (fun hc => ?_)
    · have h := h.1 hc
      refine g_iconst X (0 : Int32) dX5_sortOf__77 (by decide) ?_
      exact g_iret X hr dX5_sortOf__78 rfl h
    · have h := h.2 hc
      refine g_iconst X (2 : Int32) dX5_sortOf__73 (by decide) ?_
      refine g_goto X 78 dX5_sortOf__74 (by decide) ?_
      exact g_iret X hr dX5_sortOf__78 rfl h
  · have h := h.2 hc
    refine g_iconst X (1 : Int32) dX5_sortOf__65 (by decide) ?_
    refine g_goto X 78 dX5_sortOf__66 (by decide) ?_
    exact g_iret X hr dX5_sortOf__78 rfl h
def w_X5_sortOf__37 (Q : Int32 → St → Prop) (x1 : Int32) (x2 : Int32) (s0 : Int32) (σ : St) : Prop := vp_in ((3 : Int32) * x1) 21 ∧ ((0 < (gI σ 8 (ix ((3 : Int32) * x1))) → (Q (3 : Int32) σ)) ∧ (¬ 0 < (gI σ 8 (ix ((3 : Int32) * x1))) → ((x2 = 0 → (w_X5_sortOf__61 Q x2 s0 σ)) ∧ (¬ x2 = 0 → ((s0 = 0 → (w_X5_sortOf__61 Q x2 s0 σ)) ∧ (¬ s0 = 0 → (Q (3 : Int32) σ)))))))
set_option maxRecDepth 100000 in
set_option maxHeartbeats 4000000 in
theorem b_X5_sortOf__37 {p : Program} {l : Launch} {e : Env} {s : State} {m : MethodId} {args : Array Value} {below : List Frame} {meth : Method} {c : Code} {D : va_G} {cA : Nat → ClassId} {A : Nat → Prop} {ad0 : Nat → Nat} {Q : Int32 → St → Prop} {x1 : Int32} {x2 : Int32} {s0 : Int32} {σ : St} (X : Cx p rmX5_sortOf_ s m args meth c cX5_sortOf_ 4 RX5 D cA A) (hr : meth.sig.returnType = some .int) (h : w_X5_sortOf__37 Q x1 x2 s0 σ) : G p l e rmX5_sortOf_ s m args below meth c 4 D cA A (MQ below (va_Qi Q (EndW D cA ad0 shR) A) args s 0 0 A) 0 0 (fun ad => ad = ad0) shR σ [(0, .ref 0), (1, .int x1), (2, .int x2)] 37 [.int s0] := by
  unfold w_X5_sortOf__37 at h
  refine g_istore_n X [(3, .int s0), (0, .ref 0), (1, .int x1), (2, .int x2)] dX5_sortOf__37 rfl (Nat.le_of_ble_eq_true rfl) rfl ?_
  refine g_aload_n X 1 dX5_sortOf__38 rfl rfl ?_
  refine g_getR X (C := RX5) (T := TX5) (N := 23) 8 dX5_sortOf__39 (Nat.le_of_ble_eq_true rfl) rfl rfl rfl inG5 (Nat.le_of_ble_eq_true rfl) rfl rfl q577 ?_
  refine g_iconst X (3 : Int32) dX5_sortOf__42 (by decide) ?_
  refine g_iload_n X 2 dX5_sortOf__43 rfl rfl ?_
  refine g_imul X dX5_sortOf__44 ?_
  obtain ⟨hi3, h⟩ := h
  refine g_iald X dX5_sortOf__45 (Nat.le_of_ble_eq_true rfl) rfl hi3 ?_
  refine g_if_gt X 57 dX5_sortOf__46 (by decide) (fun hc => ?_) (fun hc => ?_)
  · have h := h.1 hc
    refine g_iconst X (3 : Int32) dX5_sortOf__57 (by decide) ?_
    refine g_goto X 78 dX5_sortOf__58 (by decide) ?_
    exact g_iret X hr dX5_sortOf__78 rfl h
  · have h := h.2 hc
    refine g_iload_n X 3 dX5_sortOf__49 rfl rfl ?_
    refine g_if_eq X 61 dX5_sortOf__50 (by decide) (fun hc => ?_) (fun hc => ?_)
    · have h := h.1 hc
      refine g_weak [3, 0] rfl ?_
      exact b_X5_sortOf__61 X hr h
    · have h := h.2 hc
      refine g_iload_n X 0 dX5_sortOf__53 rfl rfl ?_
      refine g_if_eq X 61 dX5_sortOf__54 (by decide) (fun hc => ?_) (fun hc => ?_)
      · have h := h.1 hc
        refine g_weak [3, 0] rfl ?_
        exact b_X5_sortOf__61 X hr h
      · have h := h.2 hc
        refine g_iconst X (3 : Int32) dX5_sortOf__57 (by decide) ?_
        refine g_goto X 78 dX5_sortOf__58 (by decide) ?_
        exact g_iret X hr dX5_sortOf__78 rfl h
def w_X5_sortOf__18 (Q : Int32 → St → Prop) (x1 : Int32) (s0 : Int32) (σ : St) : Prop := vp_in (((3 : Int32) * x1) + (2 : Int32)) 21 ∧ (((gI σ 8 (ix (((3 : Int32) * x1) + (2 : Int32)))) ≤ 0 → (w_X5_sortOf__37 Q x1 s0 (0 : Int32) σ)) ∧ (¬ (gI σ 8 (ix (((3 : Int32) * x1) + (2 : Int32)))) ≤ 0 → (w_X5_sortOf__37 Q x1 s0 (1 : Int32) σ)))
set_option maxRecDepth 100000 in
set_option maxHeartbeats 4000000 in
theorem b_X5_sortOf__18 {p : Program} {l : Launch} {e : Env} {s : State} {m : MethodId} {args : Array Value} {below : List Frame} {meth : Method} {c : Code} {D : va_G} {cA : Nat → ClassId} {A : Nat → Prop} {ad0 : Nat → Nat} {Q : Int32 → St → Prop} {x1 : Int32} {s0 : Int32} {σ : St} (X : Cx p rmX5_sortOf_ s m args meth c cX5_sortOf_ 4 RX5 D cA A) (hr : meth.sig.returnType = some .int) (h : w_X5_sortOf__18 Q x1 s0 σ) : G p l e rmX5_sortOf_ s m args below meth c 4 D cA A (MQ below (va_Qi Q (EndW D cA ad0 shR) A) args s 0 0 A) 0 0 (fun ad => ad = ad0) shR σ [(0, .ref 0), (1, .int x1)] 18 [.int s0] := by
  unfold w_X5_sortOf__18 at h
  refine g_istore_n X [(2, .int s0), (0, .ref 0), (1, .int x1)] dX5_sortOf__18 rfl (Nat.le_of_ble_eq_true rfl) rfl ?_
  refine g_aload_n X 1 dX5_sortOf__19 rfl rfl ?_
  refine g_getR X (C := RX5) (T := TX5) (N := 23) 8 dX5_sortOf__20 (Nat.le_of_ble_eq_true rfl) rfl rfl rfl inG5 (Nat.le_of_ble_eq_true rfl) rfl rfl q577 ?_
  refine g_iconst X (3 : Int32) dX5_sortOf__23 (by decide) ?_
  refine g_iload_n X 2 dX5_sortOf__24 rfl rfl ?_
  refine g_imul X dX5_sortOf__25 ?_
  refine g_iconst X (2 : Int32) dX5_sortOf__26 (by decide) ?_
  refine g_iadd X dX5_sortOf__27 ?_
  obtain ⟨hi2, h⟩ := h
  refine g_iald X dX5_sortOf__28 (Nat.le_of_ble_eq_true rfl) rfl hi2 ?_
  refine g_if_le X 36 dX5_sortOf__29 (by decide) (fun hc => ?_) (fun hc => ?_)
  · have h := h.1 hc
    refine g_iconst X (0 : Int32) dX5_sortOf__36 (by decide) ?_
    refine g_weak [1, 2, 0] rfl ?_
    exact b_X5_sortOf__37 X hr h
  · have h := h.2 hc
    refine g_iconst X (1 : Int32) dX5_sortOf__32 (by decide) ?_
    refine g_goto X 37 dX5_sortOf__33 (by decide) ?_
    refine g_weak [1, 2, 0] rfl ?_
    exact b_X5_sortOf__37 X hr h
def w_X5_sortOf_ (Q : Int32 → St → Prop) (x1 : Int32) (σ : St) : Prop := vp_in (((3 : Int32) * x1) + (1 : Int32)) 21 ∧ (((gI σ 8 (ix (((3 : Int32) * x1) + (1 : Int32)))) ≤ 0 → (w_X5_sortOf__18 Q x1 (0 : Int32) σ)) ∧ (¬ (gI σ 8 (ix (((3 : Int32) * x1) + (1 : Int32)))) ≤ 0 → (w_X5_sortOf__18 Q x1 (1 : Int32) σ)))
set_option maxRecDepth 100000 in
set_option maxHeartbeats 4000000 in
theorem b_X5_sortOf__0 {p : Program} {l : Launch} {e : Env} {s : State} {m : MethodId} {args : Array Value} {below : List Frame} {meth : Method} {c : Code} {D : va_G} {cA : Nat → ClassId} {A : Nat → Prop} {ad0 : Nat → Nat} {Q : Int32 → St → Prop} {x1 : Int32} {σ : St} (X : Cx p rmX5_sortOf_ s m args meth c cX5_sortOf_ 4 RX5 D cA A) (hr : meth.sig.returnType = some .int) (h : w_X5_sortOf_ Q x1 σ) : G p l e rmX5_sortOf_ s m args below meth c 4 D cA A (MQ below (va_Qi Q (EndW D cA ad0 shR) A) args s 0 0 A) 0 0 (fun ad => ad = ad0) shR σ [(0, .ref 0), (1, .int x1)] 0 [] := by
  unfold w_X5_sortOf_ at h
  refine g_aload_n X 0 dX5_sortOf__0 rfl rfl ?_
  refine g_getR X (C := RX5) (T := TX5) (N := 23) 8 dX5_sortOf__1 (Nat.le_of_ble_eq_true rfl) rfl rfl rfl inG5 (Nat.le_of_ble_eq_true rfl) rfl rfl q577 ?_
  refine g_iconst X (3 : Int32) dX5_sortOf__4 (by decide) ?_
  refine g_iload_n X 1 dX5_sortOf__5 rfl rfl ?_
  refine g_imul X dX5_sortOf__6 ?_
  refine g_iconst X (1 : Int32) dX5_sortOf__7 (by decide) ?_
  refine g_iadd X dX5_sortOf__8 ?_
  obtain ⟨hi1, h⟩ := h
  refine g_iald X dX5_sortOf__9 (Nat.le_of_ble_eq_true rfl) rfl hi1 ?_
  refine g_if_le X 17 dX5_sortOf__10 (by decide) (fun hc => ?_) (fun hc => ?_)
  · have h := h.1 hc
    refine g_iconst X (0 : Int32) dX5_sortOf__17 (by decide) ?_
    exact b_X5_sortOf__18 X hr h
  · have h := h.2 hc
    refine g_iconst X (1 : Int32) dX5_sortOf__13 (by decide) ?_
    refine g_goto X 18 dX5_sortOf__14 (by decide) ?_
    exact b_X5_sortOf__18 X hr h
theorem c_X5_sortOf_ (l : Launch) (D : va_G) (cA : Nat → ClassId) {x1 : Int32} {σ : St} {Q : Int32 → St → Prop} (h : w_X5_sortOf_ Q x1 σ) : CtI l yX5_sortOf_ cX5_sortOf_ 4 (some .int) rmX5_sortOf_ D cA shR [.ref 0, .int x1] σ Q := by
  refine CtI.of (own := RX5) rfl (by decide +kernel) [(0, .ref 0), (1, .int x1)] rfl (Nat.le_of_ble_eq_true rfl) ?_
  intro p e s m args below meth c ad0 A X hr
  exact b_X5_sortOf__0 X hr  h
def rmX5_sort : Room := { frames := 2, cells := 0, slots := 0, locals := 45 }
def w_X5_sort (Q : Int32 → St → Prop) (x1 : Int32) (σ : St) : Prop := ∀ σ1 : St, σ1 = uI σ 0 0 (0 : Int32) → w_X5_isKeeper (fun r3 σ2 => ((¬ r3 = 0 → vp_in x1 7 ∧ ((¬ (gI σ2 6 (ix x1)) = (-1 : Int32) → w_X5_sortOf_ (fun r6 σ5 => (Q r6 σ5)) x1 σ2) ∧ ((gI σ2 6 (ix x1)) = (-1 : Int32) → (Q (-11 : Int32) σ2)))) ∧ (r3 = 0 → (Q (-3 : Int32) σ2)))) x1 σ1
set_option maxRecDepth 100000 in
set_option maxHeartbeats 4000000 in
theorem b_X5_sort_0 {p : Program} {l : Launch} {e : Env} {s : State} {m : MethodId} {args : Array Value} {below : List Frame} {meth : Method} {c : Code} {D : va_G} {cA : Nat → ClassId} {A : Nat → Prop} {ad0 : Nat → Nat} {Q : Int32 → St → Prop} {x1 : Int32} {σ : St} (X : Cx p rmX5_sort s m args meth c cX5_sort 2 RX5 D cA A) (hr : meth.sig.returnType = some .int) (h : w_X5_sort Q x1 σ) : G p l e rmX5_sort s m args below meth c 2 D cA A (MQ below (va_Qi Q (EndW D cA ad0 shR) A) args s 0 0 A) 0 0 (fun ad => ad = ad0) shR σ [(0, .ref 0), (1, .int x1)] 0 [] := by
  unfold w_X5_sort at h
  refine g_aload_n X 0 dX5_sort_0 rfl rfl ?_
  refine g_iconst X (0 : Int32) dX5_sort_1 (by decide) ?_
  refine g_putI X (C := RX5) (T := TX5) (N := 23) (ty0 := tyX5) 0 dX5_sort_2 (Nat.le_of_ble_eq_true rfl) rfl rfl rfl inG5 tyX5_ok nmX5 (Nat.le_of_ble_eq_true rfl) rfl rfl q569 rfl rfl ?_
  refine g_nameS (fun σ1 eσ1 => ?_)
  have h := h σ1 eσ1
  refine g_iload_n X 1 dX5_sort_5 rfl rfl ?_
  refine g_callSI X (n := 1) [.int x1] [] dX5_sort_6 (c_X5_isKeeper l D cA shR h) q731 q732 q57 q733 ⟨by decide, by decide, by decide +kernel⟩ rfl rfl (Nat.le_of_ble_eq_true rfl) rfl rfl ⟨(Nat.le_of_ble_eq_true rfl), (Nat.le_of_ble_eq_true rfl)⟩ (Nat.le_of_ble_eq_true rfl) (Nat.le_of_ble_eq_true rfl) (fun r3 σ2 h => ?_)
  refine g_if_ne X 17 dX5_sort_9 (by decide) (fun hc => ?_) (fun hc => ?_)
  · have h := h.1 hc
    refine g_aload_n X 0 dX5_sort_17 rfl rfl ?_
    refine g_getR X (C := RX5) (T := TX5) (N := 23) 6 dX5_sort_18 (Nat.le_of_ble_eq_true rfl) rfl rfl rfl inG5 (Nat.le_of_ble_eq_true rfl) rfl rfl q575 ?_
    refine g_iload_n X 1 dX5_sort_21 rfl rfl ?_
    obtain ⟨hi4, h⟩ := h
    refine g_iald X dX5_sort_22 (Nat.le_of_ble_eq_true rfl) rfl hi4 ?_
    refine g_iconst X (-1 : Int32) dX5_sort_23 (by decide) ?_
    refine g_icmp_ne X 32 dX5_sort_24 (by decide) (fun hc => ?_) (fun hc => ?_)
    · have h := h.1 hc
      refine g_aload_n X 0 dX5_sort_32 rfl rfl ?_
      refine g_iload_n X 1 dX5_sort_33 rfl rfl ?_
      refine g_callVI X (C := RX5) (T := TX5) (N := 23) (n := 1) [.int x1] [] dX5_sort_34 (c_X5_sortOf_ l D cA h) q832 q834 q38 q57 q835 (Nat.le_of_ble_eq_true rfl) rfl rfl ⟨rfl, by decide, by decide, by decide +kernel⟩ rfl rfl (Nat.le_of_ble_eq_true rfl) rfl rfl ⟨(Nat.le_of_ble_eq_true rfl), (Nat.le_of_ble_eq_true rfl)⟩ (Nat.le_of_ble_eq_true rfl) (Nat.le_of_ble_eq_true rfl) (fun r6 σ5 h => ?_)
      exact g_iret X hr dX5_sort_37 rfl h
    · have h := h.2 hc
      refine g_bipush X (-11 : Int32) dX5_sort_27 (by decide) ?_
      refine g_goto X 37 dX5_sort_29 (by decide) ?_
      exact g_iret X hr dX5_sort_37 rfl h
  · have h := h.2 hc
    refine g_bipush X (-3 : Int32) dX5_sort_12 (by decide) ?_
    refine g_goto X 37 dX5_sort_14 (by decide) ?_
    exact g_iret X hr dX5_sort_37 rfl h
theorem c_X5_sort (l : Launch) (D : va_G) (cA : Nat → ClassId) {x1 : Int32} {σ : St} {Q : Int32 → St → Prop} (h : w_X5_sort Q x1 σ) : CtI l yX5_sort cX5_sort 2 (some .int) rmX5_sort D cA shR [.ref 0, .int x1] σ Q := by
  refine CtI.of (own := RX5) rfl (by decide +kernel) [(0, .ref 0), (1, .int x1)] rfl (Nat.le_of_ble_eq_true rfl) ?_
  intro p e s m args below meth c ad0 A X hr
  exact b_X5_sort_0 X hr  h
def rmX5_seen : Room := { frames := 2, cells := 0, slots := 0, locals := 45 }
def w_X5_seen (Q : Int32 → St → Prop) (x1 : Int32) (x2 : Int32) (σ : St) : Prop := ∀ σ1 : St, σ1 = uI σ 0 0 (0 : Int32) → w_X5_isKeeper (fun r3 σ2 => ((r3 = 0 → (Q (-3 : Int32) σ2)) ∧ (¬ r3 = 0 → w_X5_in (fun r5 σ4 => ((¬ r5 = 0 → vp_in x1 7 ∧ ((¬ (gI σ4 6 (ix x1)) = (-1 : Int32) → vp_in (((3 : Int32) * x1) + x2) 21 ∧ (Q (gI σ4 8 (ix (((3 : Int32) * x1) + x2))) σ4)) ∧ ((gI σ4 6 (ix x1)) = (-1 : Int32) → (Q (-11 : Int32) σ4)))) ∧ (r5 = 0 → (Q (-3 : Int32) σ4)))) (x2.toInt64) (0 : Int64) (2 : Int64) σ2))) x1 σ1
set_option maxRecDepth 100000 in
set_option maxHeartbeats 4000000 in
theorem b_X5_seen_0 {p : Program} {l : Launch} {e : Env} {s : State} {m : MethodId} {args : Array Value} {below : List Frame} {meth : Method} {c : Code} {D : va_G} {cA : Nat → ClassId} {A : Nat → Prop} {ad0 : Nat → Nat} {Q : Int32 → St → Prop} {x1 : Int32} {x2 : Int32} {σ : St} (X : Cx p rmX5_seen s m args meth c cX5_seen 3 RX5 D cA A) (hr : meth.sig.returnType = some .int) (h : w_X5_seen Q x1 x2 σ) : G p l e rmX5_seen s m args below meth c 3 D cA A (MQ below (va_Qi Q (EndW D cA ad0 shR) A) args s 0 0 A) 0 0 (fun ad => ad = ad0) shR σ [(0, .ref 0), (1, .int x1), (2, .int x2)] 0 [] := by
  unfold w_X5_seen at h
  refine g_aload_n X 0 dX5_seen_0 rfl rfl ?_
  refine g_iconst X (0 : Int32) dX5_seen_1 (by decide) ?_
  refine g_putI X (C := RX5) (T := TX5) (N := 23) (ty0 := tyX5) 0 dX5_seen_2 (Nat.le_of_ble_eq_true rfl) rfl rfl rfl inG5 tyX5_ok nmX5 (Nat.le_of_ble_eq_true rfl) rfl rfl q569 rfl rfl ?_
  refine g_nameS (fun σ1 eσ1 => ?_)
  have h := h σ1 eσ1
  refine g_iload_n X 1 dX5_seen_5 rfl rfl ?_
  refine g_callSI X (n := 1) [.int x1] [] dX5_seen_6 (c_X5_isKeeper l D cA shR h) q731 q732 q57 q733 ⟨by decide, by decide, by decide +kernel⟩ rfl rfl (Nat.le_of_ble_eq_true rfl) rfl rfl ⟨(Nat.le_of_ble_eq_true rfl), (Nat.le_of_ble_eq_true rfl)⟩ (Nat.le_of_ble_eq_true rfl) (Nat.le_of_ble_eq_true rfl) (fun r3 σ2 h => ?_)
  refine g_if_eq X 24 dX5_seen_9 (by decide) (fun hc => ?_) (fun hc => ?_)
  · have h := h.1 hc
    refine g_bipush X (-3 : Int32) dX5_seen_24 (by decide) ?_
    exact g_iret X hr dX5_seen_26 rfl h
  · have h := h.2 hc
    refine g_iload_n X 2 dX5_seen_12 rfl rfl ?_
    refine g_i2l X dX5_seen_13 ?_
    refine g_lconst X (0 : Int64) dX5_seen_14 (by decide) ?_
    refine g_ldc2 X q734 dX5_seen_15 ?_
    refine g_callSI X (n := 3) [.long (x2.toInt64), .long (0 : Int64), .long (2 : Int64)] [] dX5_seen_18 (c_X5_in l D cA shR h) q648 q649 q57 q650 ⟨by decide, by decide, by decide +kernel⟩ rfl rfl (Nat.le_of_ble_eq_true rfl) rfl rfl ⟨(Nat.le_of_ble_eq_true rfl), (Nat.le_of_ble_eq_true rfl)⟩ (Nat.le_of_ble_eq_true rfl) (Nat.le_of_ble_eq_true rfl) (fun r5 σ4 h => ?_)
    refine g_if_ne X 27 dX5_seen_21 (by decide) (fun hc => ?_) (fun hc => ?_)
    · have h := h.1 hc
      refine g_aload_n X 0 dX5_seen_27 rfl rfl ?_
      refine g_getR X (C := RX5) (T := TX5) (N := 23) 6 dX5_seen_28 (Nat.le_of_ble_eq_true rfl) rfl rfl rfl inG5 (Nat.le_of_ble_eq_true rfl) rfl rfl q575 ?_
      refine g_iload_n X 1 dX5_seen_31 rfl rfl ?_
      obtain ⟨hi6, h⟩ := h
      refine g_iald X dX5_seen_32 (Nat.le_of_ble_eq_true rfl) rfl hi6 ?_
      refine g_iconst X (-1 : Int32) dX5_seen_33 (by decide) ?_
      refine g_icmp_ne X 42 dX5_seen_34 (by decide) (fun hc => ?_) (fun hc => ?_)
      · have h := h.1 hc
        refine g_aload_n X 0 dX5_seen_42 rfl rfl ?_
        refine g_getR X (C := RX5) (T := TX5) (N := 23) 8 dX5_seen_43 (Nat.le_of_ble_eq_true rfl) rfl rfl rfl inG5 (Nat.le_of_ble_eq_true rfl) rfl rfl q577 ?_
        refine g_iconst X (3 : Int32) dX5_seen_46 (by decide) ?_
        refine g_iload_n X 1 dX5_seen_47 rfl rfl ?_
        refine g_imul X dX5_seen_48 ?_
        refine g_iload_n X 2 dX5_seen_49 rfl rfl ?_
        refine g_iadd X dX5_seen_50 ?_
        obtain ⟨hi7, h⟩ := h
        refine g_iald X dX5_seen_51 (Nat.le_of_ble_eq_true rfl) rfl hi7 ?_
        exact g_iret X hr dX5_seen_52 rfl h
      · have h := h.2 hc
        refine g_bipush X (-11 : Int32) dX5_seen_37 (by decide) ?_
        refine g_goto X 52 dX5_seen_39 (by decide) ?_
        exact g_iret X hr dX5_seen_52 rfl h
    · have h := h.2 hc
      refine g_bipush X (-3 : Int32) dX5_seen_24 (by decide) ?_
      exact g_iret X hr dX5_seen_26 rfl h
theorem c_X5_seen (l : Launch) (D : va_G) (cA : Nat → ClassId) {x1 : Int32} {x2 : Int32} {σ : St} {Q : Int32 → St → Prop} (h : w_X5_seen Q x1 x2 σ) : CtI l yX5_seen cX5_seen 3 (some .int) rmX5_seen D cA shR [.ref 0, .int x1, .int x2] σ Q := by
  refine CtI.of (own := RX5) rfl (by decide +kernel) [(0, .ref 0), (1, .int x1), (2, .int x2)] rfl (Nat.le_of_ble_eq_true rfl) ?_
  intro p e s m args below meth c ad0 A X hr
  exact b_X5_seen_0 X hr  h
def rmX5_take : Room := { frames := 0, cells := 0, slots := 0, locals := 0 }
def w_X5_take_88 (K49 : Int32 → Int64 → Int32 → St → Prop) (Q : St → Prop) (x1 : Int32) (x2 : Int64) (x4 : Int32) (s0 : Int32) (σ : St) : Prop := ∀ y6 : Int64, y6 = (((s0.toInt64) &&& (4294967295 : Int64)) + x2) → vp_in x4 152 ∧ ∀ σ8 : St, σ8 = uI σ 13 (ix x4) (y6.toInt32) → ∀ y9 : Int64, y9 = (lushrF y6 (32 : Int32)) → ∀ y10 : Int32, y10 = x4 + (1 : Int32) → (K49 x1 y9 y10 σ8)
set_option maxRecDepth 100000 in
set_option maxHeartbeats 4000000 in
theorem b_X5_take_88 {p : Program} {l : Launch} {e : Env} {s : State} {m : MethodId} {args : Array Value} {below : List Frame} {meth : Method} {c : Code} {D : va_G} {cA : Nat → ClassId} {A : Nat → Prop} {ad0 : Nat → Nat} {K49 : Int32 → Int64 → Int32 → St → Prop} {Q : St → Prop} {x1 : Int32} {x2 : Int64} {x4 : Int32} {s0 : Int32} {σ : St} (X : Cx p rmX5_take s m args meth c cX5_take 8 RX5 D cA A) (hr : meth.sig.returnType = none) (hK49 : ∀ (x1 : Int32) (x2 : Int64) (x4 : Int32) (σ : St), K49 x1 x2 x4 σ → G p l e rmX5_take s m args below meth c 8 D cA A (MQ below (va_Qv Q (EndW D cA ad0 shR) A) args s 0 0 A) 0 0 (fun ad => ad = ad0) shR σ [(0, .ref 0), (1, .int x1), (2, .long x2), (4, .int x4)] 49 []) (h : w_X5_take_88 K49 Q x1 x2 x4 s0 σ) : G p l e rmX5_take s m args below meth c 8 D cA A (MQ below (va_Qv Q (EndW D cA ad0 shR) A) args s 0 0 A) 0 0 (fun ad => ad = ad0) shR σ [(0, .ref 0), (1, .int x1), (2, .long x2), (4, .int x4)] 88 [.int s0] := by
  unfold w_X5_take_88 at h
  refine g_i2l X dX5_take_88 ?_
  refine g_ldc2 X q795 dX5_take_89 ?_
  refine g_land X dX5_take_92 ?_
  refine g_lload_n X 2 dX5_take_93 rfl rfl ?_
  refine g_ladd X dX5_take_94 ?_
  refine g_nameJ (fun y6 ey6 => ?_)
  have h := h y6 ey6
  refine g_lstore X [(6, .long y6), (0, .ref 0), (1, .int x1), (2, .long x2), (4, .int x4)] dX5_take_95 (Nat.le_of_ble_eq_true rfl) rfl ?_
  refine g_aload_n X 1 dX5_take_97 rfl rfl ?_
  refine g_getR X (C := RX5) (T := TX5) (N := 23) 19 dX5_take_98 (Nat.le_of_ble_eq_true rfl) rfl rfl rfl inG5 (Nat.le_of_ble_eq_true rfl) rfl rfl q588 ?_
  refine g_iload X 4 dX5_take_101 rfl ?_
  refine g_lload X 0 dX5_take_103 rfl ?_
  refine g_l2i X dX5_take_105 ?_
  obtain ⟨hi7, h⟩ := h
  refine g_iast X dX5_take_106 (Nat.le_of_ble_eq_true rfl) rfl hi7 ?_
  refine g_nameS (fun σ8 eσ8 => ?_)
  have h := h σ8 eσ8
  refine g_lload X 0 dX5_take_107 rfl ?_
  refine g_bipush X (32 : Int32) dX5_take_109 (by decide) ?_
  refine g_lushr X dX5_take_111 ?_
  refine g_nameJ (fun y9 ey9 => ?_)
  have h := h y9 ey9
  refine g_lstore_n X [(2, .long y9), (6, .long y6), (0, .ref 0), (1, .int x1), (4, .int x4)] dX5_take_112 rfl (Nat.le_of_ble_eq_true rfl) rfl ?_
  obtain ⟨y10, ey10⟩ : ∃ y : Int32, y = x4 + (1 : Int32) := ⟨_, rfl⟩
  have h := h y10 ey10
  refine g_iinc X 4 (1 : Int32) [(4, .int y10), (2, .long y9), (6, .long y6), (0, .ref 0), (1, .int x1)] dX5_take_113 rfl (by decide) (Nat.le_of_ble_eq_true rfl) (by rw [ey10]; rfl) ?_
  refine g_goto X 49 dX5_take_116 (by decide) ?_
  refine g_weak [3, 4, 1, 0] rfl ?_
  exact hK49 _ _ _ _ h
def w_X5_take_49 (Q : St → Prop) : Nat → Int32 → Int64 → Int32 → St → Prop
  | 0, _, _, _, _ => False
  | n + 1, x1, x2, x4, σ => (((152 : Int32) ≤ x4 → (Q σ)) ∧ (¬ (152 : Int32) ≤ x4 → vp_in (((152 : Int32) * x1) + x4) 1064 ∧ ∀ y5 : Int32, y5 = (gI σ 7 (ix (((152 : Int32) * x1) + x4))) → (((gI σ 0 20) = 0 → (w_X5_take_88 (fun x1 x2 x4 σ => w_X5_take_49 Q n x1 x2 x4 σ) Q x1 x2 x4 y5 σ)) ∧ (¬ (gI σ 0 20) = 0 → (w_X5_take_88 (fun x1 x2 x4 σ => w_X5_take_49 Q n x1 x2 x4 σ) Q x1 x2 x4 (y5 ^^^ (-1 : Int32)) σ)))))
set_option maxRecDepth 100000 in
set_option maxHeartbeats 4000000 in
theorem b_X5_take_49 {p : Program} {l : Launch} {e : Env} {s : State} {m : MethodId} {args : Array Value} {below : List Frame} {meth : Method} {c : Code} {D : va_G} {cA : Nat → ClassId} {A : Nat → Prop} {ad0 : Nat → Nat} {Q : St → Prop} (X : Cx p rmX5_take s m args meth c cX5_take 8 RX5 D cA A) (hr : meth.sig.returnType = none) : ∀ (n : Nat) (x1 : Int32) (x2 : Int64) (x4 : Int32) (σ : St), w_X5_take_49 Q n x1 x2 x4 σ → G p l e rmX5_take s m args below meth c 8 D cA A (MQ below (va_Qv Q (EndW D cA ad0 shR) A) args s 0 0 A) 0 0 (fun ad => ad = ad0) shR σ [(0, .ref 0), (1, .int x1), (2, .long x2), (4, .int x4)] 49 [] := by
  intro n
  induction n with
  | zero => intro x1 x2 x4 σ h; exact h.elim
  | succ n ih =>
    intro x1 x2 x4 σ h
    rw [w_X5_take_49] at h
    refine g_iload X 3 dX5_take_49 rfl ?_
    refine g_sipush X (152 : Int32) dX5_take_51 (by decide) ?_
    refine g_icmp_ge X 119 dX5_take_54 (by decide) (fun hc => ?_) (fun hc => ?_)
    · have h := h.1 hc
      exact g_vret X hr dX5_take_119 h
    · have h := h.2 hc
      refine g_aload_n X 0 dX5_take_57 rfl rfl ?_
      refine g_getR X (C := RX5) (T := TX5) (N := 23) 7 dX5_take_58 (Nat.le_of_ble_eq_true rfl) rfl rfl rfl inG5 (Nat.le_of_ble_eq_true rfl) rfl rfl q576 ?_
      refine g_sipush X (152 : Int32) dX5_take_61 (by decide) ?_
      refine g_iload_n X 1 dX5_take_64 rfl rfl ?_
      refine g_imul X dX5_take_65 ?_
      refine g_iload X 3 dX5_take_66 rfl ?_
      refine g_iadd X dX5_take_68 ?_
      obtain ⟨hi4, h⟩ := h
      refine g_iald X dX5_take_69 (Nat.le_of_ble_eq_true rfl) rfl hi4 ?_
      refine g_nameI (fun y5 ey5 => ?_)
      have h := h y5 ey5
      refine g_istore X [(5, .int y5), (0, .ref 0), (1, .int x1), (2, .long x2), (4, .int x4)] dX5_take_70 (Nat.le_of_ble_eq_true rfl) rfl ?_
      refine g_aload_n X 1 dX5_take_72 rfl rfl ?_
      refine g_getI X (C := RX5) (T := TX5) (N := 23) 20 dX5_take_73 (Nat.le_of_ble_eq_true rfl) rfl rfl rfl inG5 (Nat.le_of_ble_eq_true rfl) rfl q589 ?_
      refine g_if_eq X 86 dX5_take_76 (by decide) (fun hc => ?_) (fun hc => ?_)
      · have h := h.1 hc
        refine g_iload X 0 dX5_take_86 rfl ?_
        refine g_weak [1, 2, 3, 4] rfl ?_
        exact b_X5_take_88 X hr (ih) h
      · have h := h.2 hc
        refine g_iload X 0 dX5_take_79 rfl ?_
        refine g_iconst X (-1 : Int32) dX5_take_81 (by decide) ?_
        refine g_ixor X dX5_take_82 ?_
        refine g_goto X 88 dX5_take_83 (by decide) ?_
        refine g_weak [1, 2, 3, 4] rfl ?_
        exact b_X5_take_88 X hr (ih) h
def w_X5_take_45 (Q : St → Prop) (x1 : Int32) (s0 : Int64) (σ : St) : Prop := (∃ fu11 : Nat, w_X5_take_49 Q fu11 x1 s0 (0 : Int32) σ)
set_option maxRecDepth 100000 in
set_option maxHeartbeats 4000000 in
theorem b_X5_take_45 {p : Program} {l : Launch} {e : Env} {s : State} {m : MethodId} {args : Array Value} {below : List Frame} {meth : Method} {c : Code} {D : va_G} {cA : Nat → ClassId} {A : Nat → Prop} {ad0 : Nat → Nat} {Q : St → Prop} {x1 : Int32} {s0 : Int64} {σ : St} (X : Cx p rmX5_take s m args meth c cX5_take 8 RX5 D cA A) (hr : meth.sig.returnType = none) (h : w_X5_take_45 Q x1 s0 σ) : G p l e rmX5_take s m args below meth c 8 D cA A (MQ below (va_Qv Q (EndW D cA ad0 shR) A) args s 0 0 A) 0 0 (fun ad => ad = ad0) shR σ [(0, .ref 0), (1, .int x1)] 45 [.long s0] := by
  unfold w_X5_take_45 at h
  refine g_lstore_n X [(2, .long s0), (0, .ref 0), (1, .int x1)] dX5_take_45 rfl (Nat.le_of_ble_eq_true rfl) rfl ?_
  refine g_iconst X (0 : Int32) dX5_take_46 (by decide) ?_
  refine g_istore X [(4, .int (0 : Int32)), (2, .long s0), (0, .ref 0), (1, .int x1)] dX5_take_47 (Nat.le_of_ble_eq_true rfl) rfl ?_
  refine g_weak [2, 3, 1, 0] rfl ?_
  obtain ⟨fu11, h⟩ := h
  exact b_X5_take_49 X hr fu11 _ _ _ _ h
def w_X5_take_25 (Q : St → Prop) (x1 : Int32) (s0 : Int32) (σ : St) : Prop := bz s0 ∧ ∀ σ2 : St, σ2 = uI σ 0 20 s0 → ∀ σ3 : St, σ3 = uI σ2 0 21 (0 : Int32) → (((gI σ3 0 20) = 0 → (w_X5_take_45 Q x1 (0 : Int64) σ3)) ∧ (¬ (gI σ3 0 20) = 0 → (w_X5_take_45 Q x1 (1 : Int64) σ3)))
set_option maxRecDepth 100000 in
set_option maxHeartbeats 4000000 in
theorem b_X5_take_25 {p : Program} {l : Launch} {e : Env} {s : State} {m : MethodId} {args : Array Value} {below : List Frame} {meth : Method} {c : Code} {D : va_G} {cA : Nat → ClassId} {A : Nat → Prop} {ad0 : Nat → Nat} {Q : St → Prop} {x1 : Int32} {s0 : Int32} {σ : St} (X : Cx p rmX5_take s m args meth c cX5_take 8 RX5 D cA A) (hr : meth.sig.returnType = none) (h : w_X5_take_25 Q x1 s0 σ) : G p l e rmX5_take s m args below meth c 8 D cA A (MQ below (va_Qv Q (EndW D cA ad0 shR) A) args s 0 0 A) 0 0 (fun ad => ad = ad0) shR σ [(0, .ref 0), (1, .int x1)] 25 [.int s0, .ref 0] := by
  unfold w_X5_take_25 at h
  obtain ⟨hc, h⟩ := h
  refine g_putI X (C := RX5) (T := TX5) (N := 23) (ty0 := tyX5) 20 dX5_take_25 (Nat.le_of_ble_eq_true rfl) rfl rfl rfl inG5 tyX5_ok nmX5 (Nat.le_of_ble_eq_true rfl) rfl rfl q589 (bz_narrow hc) (bz_fits hc) ?_
  refine g_nameS (fun σ2 eσ2 => ?_)
  have h := h σ2 eσ2
  refine g_aload_n X 0 dX5_take_28 rfl rfl ?_
  refine g_iconst X (0 : Int32) dX5_take_29 (by decide) ?_
  refine g_putI X (C := RX5) (T := TX5) (N := 23) (ty0 := tyX5) 21 dX5_take_30 (Nat.le_of_ble_eq_true rfl) rfl rfl rfl inG5 tyX5_ok nmX5 (Nat.le_of_ble_eq_true rfl) rfl rfl q590 rfl rfl ?_
  refine g_nameS (fun σ3 eσ3 => ?_)
  have h := h σ3 eσ3
  refine g_aload_n X 0 dX5_take_33 rfl rfl ?_
  refine g_getI X (C := RX5) (T := TX5) (N := 23) 20 dX5_take_34 (Nat.le_of_ble_eq_true rfl) rfl rfl rfl inG5 (Nat.le_of_ble_eq_true rfl) rfl q589 ?_
  refine g_if_eq X 44 dX5_take_37 (by decide) (fun hc => ?_) (fun hc => ?_)
  · have h := h.1 hc
    refine g_lconst X (0 : Int64) dX5_take_44 (by decide) ?_
    exact b_X5_take_45 X hr h
  · have h := h.2 hc
    refine g_lconst X (1 : Int64) dX5_take_40 (by decide) ?_
    refine g_goto X 45 dX5_take_41 (by decide) ?_
    exact b_X5_take_45 X hr h
def w_X5_take (Q : St → Prop) (x1 : Int32) (σ : St) : Prop := vp_in ((((152 : Int32) * x1) + (152 : Int32)) - (1 : Int32)) 1064 ∧ ((0 ≤ (gI σ 7 (ix ((((152 : Int32) * x1) + (152 : Int32)) - (1 : Int32)))) → (w_X5_take_25 Q x1 (0 : Int32) σ)) ∧ (¬ 0 ≤ (gI σ 7 (ix ((((152 : Int32) * x1) + (152 : Int32)) - (1 : Int32)))) → (w_X5_take_25 Q x1 (1 : Int32) σ)))
set_option maxRecDepth 100000 in
set_option maxHeartbeats 4000000 in
theorem b_X5_take_0 {p : Program} {l : Launch} {e : Env} {s : State} {m : MethodId} {args : Array Value} {below : List Frame} {meth : Method} {c : Code} {D : va_G} {cA : Nat → ClassId} {A : Nat → Prop} {ad0 : Nat → Nat} {Q : St → Prop} {x1 : Int32} {σ : St} (X : Cx p rmX5_take s m args meth c cX5_take 8 RX5 D cA A) (hr : meth.sig.returnType = none) (h : w_X5_take Q x1 σ) : G p l e rmX5_take s m args below meth c 8 D cA A (MQ below (va_Qv Q (EndW D cA ad0 shR) A) args s 0 0 A) 0 0 (fun ad => ad = ad0) shR σ [(0, .ref 0), (1, .int x1)] 0 [] := by
  unfold w_X5_take at h
  refine g_aload_n X 0 dX5_take_0 rfl rfl ?_
  refine g_aload_n X 0 dX5_take_1 rfl rfl ?_
  refine g_getR X (C := RX5) (T := TX5) (N := 23) 7 dX5_take_2 (Nat.le_of_ble_eq_true rfl) rfl rfl rfl inG5 (Nat.le_of_ble_eq_true rfl) rfl rfl q576 ?_
  refine g_sipush X (152 : Int32) dX5_take_5 (by decide) ?_
  refine g_iload_n X 1 dX5_take_8 rfl rfl ?_
  refine g_imul X dX5_take_9 ?_
  refine g_sipush X (152 : Int32) dX5_take_10 (by decide) ?_
  refine g_iadd X dX5_take_13 ?_
  refine g_iconst X (1 : Int32) dX5_take_14 (by decide) ?_
  refine g_isub X dX5_take_15 ?_
  obtain ⟨hi1, h⟩ := h
  refine g_iald X dX5_take_16 (Nat.le_of_ble_eq_true rfl) rfl hi1 ?_
  refine g_if_ge X 24 dX5_take_17 (by decide) (fun hc => ?_) (fun hc => ?_)
  · have h := h.1 hc
    refine g_iconst X (0 : Int32) dX5_take_24 (by decide) ?_
    exact b_X5_take_25 X hr h
  · have h := h.2 hc
    refine g_iconst X (1 : Int32) dX5_take_20 (by decide) ?_
    refine g_goto X 25 dX5_take_21 (by decide) ?_
    exact b_X5_take_25 X hr h
theorem c_X5_take (l : Launch) (D : va_G) (cA : Nat → ClassId) {x1 : Int32} {σ : St} {Q : St → Prop} (h : w_X5_take Q x1 σ) : CtV l yX5_take cX5_take 8 (none) rmX5_take D cA shR [.ref 0, .int x1] σ Q := by
  refine CtV.of (own := RX5) rfl (by decide +kernel) [(0, .ref 0), (1, .int x1)] rfl (Nat.le_of_ble_eq_true rfl) ?_
  intro p e s m args below meth c ad0 A X hr
  exact b_X5_take_0 X hr  h
def rmX5_bitAt : Room := { frames := 0, cells := 0, slots := 0, locals := 0 }
def w_X5_bitAt (Q : Int32 → St → Prop) (x1 : Int32) (σ : St) : Prop := ((x1 < 0 → (Q (0 : Int32) σ)) ∧ (¬ x1 < 0 → ((x1 < (4864 : Int32) → vp_in (x1 / (32 : Int32)) 152 ∧ (Q (((gI σ 13 (ix (x1 / (32 : Int32)))) >>> ((x1 - x1 / (32 : Int32) * (32 : Int32)) &&& 31)) &&& (1 : Int32)) σ)) ∧ (¬ x1 < (4864 : Int32) → (Q (0 : Int32) σ)))))
set_option maxRecDepth 100000 in
set_option maxHeartbeats 4000000 in
theorem b_X5_bitAt_0 {p : Program} {l : Launch} {e : Env} {s : State} {m : MethodId} {args : Array Value} {below : List Frame} {meth : Method} {c : Code} {D : va_G} {cA : Nat → ClassId} {A : Nat → Prop} {ad0 : Nat → Nat} {Q : Int32 → St → Prop} {x1 : Int32} {σ : St} (X : Cx p rmX5_bitAt s m args meth c cX5_bitAt 2 RX5 D cA A) (hr : meth.sig.returnType = some .int) (h : w_X5_bitAt Q x1 σ) : G p l e rmX5_bitAt s m args below meth c 2 D cA A (MQ below (va_Qi Q (EndW D cA ad0 shR) A) args s 0 0 A) 0 0 (fun ad => ad = ad0) shR σ [(0, .ref 0), (1, .int x1)] 0 [] := by
  unfold w_X5_bitAt at h
  refine g_iload_n X 1 dX5_bitAt_0 rfl rfl ?_
  refine g_if_lt X 11 dX5_bitAt_1 (by decide) (fun hc => ?_) (fun hc => ?_)
  · have h := h.1 hc
    refine g_iconst X (0 : Int32) dX5_bitAt_11 (by decide) ?_
    refine g_goto X 31 dX5_bitAt_12 (by decide) ?_
    exact g_iret X hr dX5_bitAt_31 rfl h
  · have h := h.2 hc
    refine g_iload_n X 1 dX5_bitAt_4 rfl rfl ?_
    refine g_sipush X (4864 : Int32) dX5_bitAt_5 (by decide) ?_
    refine g_icmp_lt X 15 dX5_bitAt_8 (by decide) (fun hc => ?_) (fun hc => ?_)
    · have h := h.1 hc
      refine g_aload_n X 0 dX5_bitAt_15 rfl rfl ?_
      refine g_getR X (C := RX5) (T := TX5) (N := 23) 19 dX5_bitAt_16 (Nat.le_of_ble_eq_true rfl) rfl rfl rfl inG5 (Nat.le_of_ble_eq_true rfl) rfl rfl q588 ?_
      refine g_iload_n X 1 dX5_bitAt_19 rfl rfl ?_
      refine g_bipush X (32 : Int32) dX5_bitAt_20 (by decide) ?_
      refine g_idiv X dX5_bitAt_22 (by decide) ?_
      obtain ⟨hi1, h⟩ := h
      refine g_iald X dX5_bitAt_23 (Nat.le_of_ble_eq_true rfl) rfl hi1 ?_
      refine g_iload_n X 1 dX5_bitAt_24 rfl rfl ?_
      refine g_bipush X (32 : Int32) dX5_bitAt_25 (by decide) ?_
      refine g_irem X dX5_bitAt_27 (by decide) ?_
      refine g_ishr X dX5_bitAt_28 ?_
      refine g_iconst X (1 : Int32) dX5_bitAt_29 (by decide) ?_
      refine g_iand X dX5_bitAt_30 ?_
      exact g_iret X hr dX5_bitAt_31 rfl h
    · have h := h.2 hc
      refine g_iconst X (0 : Int32) dX5_bitAt_11 (by decide) ?_
      refine g_goto X 31 dX5_bitAt_12 (by decide) ?_
      exact g_iret X hr dX5_bitAt_31 rfl h
theorem c_X5_bitAt (l : Launch) (D : va_G) (cA : Nat → ClassId) {x1 : Int32} {σ : St} {Q : Int32 → St → Prop} (h : w_X5_bitAt Q x1 σ) : CtI l yX5_bitAt cX5_bitAt 2 (some .int) rmX5_bitAt D cA shR [.ref 0, .int x1] σ Q := by
  refine CtI.of (own := RX5) rfl (by decide +kernel) [(0, .ref 0), (1, .int x1)] rfl (Nat.le_of_ble_eq_true rfl) ?_
  intro p e s m args below meth c ad0 A X hr
  exact b_X5_bitAt_0 X hr  h
def rmX5_highest : Room := { frames := 1, cells := 0, slots := 0, locals := 21 }
def w_X5_highest_4 (Q : Int32 → St → Prop) : Nat → Int32 → St → Prop
  | 0, _, _ => False
  | n + 1, x1, σ => ((x1 < 0 → (Q (-1 : Int32) σ)) ∧ (¬ x1 < 0 → w_X5_bitAt (fun r2 σ1 => ((¬ r2 = (1 : Int32) → ∀ y3 : Int32, y3 = x1 + (-1 : Int32) → (w_X5_highest_4 Q n y3 σ1)) ∧ (r2 = (1 : Int32) → (Q x1 σ1)))) x1 σ))
set_option maxRecDepth 100000 in
set_option maxHeartbeats 4000000 in
theorem b_X5_highest_4 {p : Program} {l : Launch} {e : Env} {s : State} {m : MethodId} {args : Array Value} {below : List Frame} {meth : Method} {c : Code} {D : va_G} {cA : Nat → ClassId} {A : Nat → Prop} {ad0 : Nat → Nat} {Q : Int32 → St → Prop} (X : Cx p rmX5_highest s m args meth c cX5_highest 2 RX5 D cA A) (hr : meth.sig.returnType = some .int) : ∀ (n : Nat) (x1 : Int32) (σ : St), w_X5_highest_4 Q n x1 σ → G p l e rmX5_highest s m args below meth c 2 D cA A (MQ below (va_Qi Q (EndW D cA ad0 shR) A) args s 0 0 A) 0 0 (fun ad => ad = ad0) shR σ [(0, .ref 0), (1, .int x1)] 4 [] := by
  intro n
  induction n with
  | zero => intro x1 σ h; exact h.elim
  | succ n ih =>
    intro x1 σ h
    rw [w_X5_highest_4] at h
    refine g_iload_n X 1 dX5_highest_4 rfl rfl ?_
    refine g_if_lt X 25 dX5_highest_5 (by decide) (fun hc => ?_) (fun hc => ?_)
    · have h := h.1 hc
      refine g_iconst X (-1 : Int32) dX5_highest_25 (by decide) ?_
      exact g_iret X hr dX5_highest_26 rfl h
    · have h := h.2 hc
      refine g_aload_n X 0 dX5_highest_8 rfl rfl ?_
      refine g_iload_n X 1 dX5_highest_9 rfl rfl ?_
      refine g_callVI X (C := RX5) (T := TX5) (N := 23) (n := 1) [.int x1] [] dX5_highest_10 (c_X5_bitAt l D cA h) q860 q862 q43 q57 q863 (Nat.le_of_ble_eq_true rfl) rfl rfl ⟨rfl, by decide, by decide, by decide +kernel⟩ rfl rfl (Nat.le_of_ble_eq_true rfl) rfl rfl ⟨(Nat.le_of_ble_eq_true rfl), (Nat.le_of_ble_eq_true rfl)⟩ (Nat.le_of_ble_eq_true rfl) (Nat.le_of_ble_eq_true rfl) (fun r2 σ1 h => ?_)
      refine g_iconst X (1 : Int32) dX5_highest_13 (by decide) ?_
      refine g_icmp_ne X 19 dX5_highest_14 (by decide) (fun hc => ?_) (fun hc => ?_)
      · have h := h.1 hc
        obtain ⟨y3, ey3⟩ : ∃ y : Int32, y = x1 + (-1 : Int32) := ⟨_, rfl⟩
        have h := h y3 ey3
        refine g_iinc X 1 (-1 : Int32) [(1, .int y3), (0, .ref 0)] dX5_highest_19 rfl (by decide) (Nat.le_of_ble_eq_true rfl) (by rw [ey3]; rfl) ?_
        refine g_goto X 4 dX5_highest_22 (by decide) ?_
        refine g_weak [1, 0] rfl ?_
        exact ih _ _ h
      · have h := h.2 hc
        refine g_iload_n X 1 dX5_highest_17 rfl rfl ?_
        exact g_iret X hr dX5_highest_18 rfl h
def w_X5_highest (Q : Int32 → St → Prop) (σ : St) : Prop := (∃ fu4 : Nat, w_X5_highest_4 Q fu4 (4863 : Int32) σ)
set_option maxRecDepth 100000 in
set_option maxHeartbeats 4000000 in
theorem b_X5_highest_0 {p : Program} {l : Launch} {e : Env} {s : State} {m : MethodId} {args : Array Value} {below : List Frame} {meth : Method} {c : Code} {D : va_G} {cA : Nat → ClassId} {A : Nat → Prop} {ad0 : Nat → Nat} {Q : Int32 → St → Prop} {σ : St} (X : Cx p rmX5_highest s m args meth c cX5_highest 2 RX5 D cA A) (hr : meth.sig.returnType = some .int) (h : w_X5_highest Q  σ) : G p l e rmX5_highest s m args below meth c 2 D cA A (MQ below (va_Qi Q (EndW D cA ad0 shR) A) args s 0 0 A) 0 0 (fun ad => ad = ad0) shR σ [(0, .ref 0)] 0 [] := by
  unfold w_X5_highest at h
  refine g_sipush X (4863 : Int32) dX5_highest_0 (by decide) ?_
  refine g_istore_n X [(1, .int (4863 : Int32)), (0, .ref 0)] dX5_highest_3 rfl (Nat.le_of_ble_eq_true rfl) rfl ?_
  refine g_weak [1, 0] rfl ?_
  obtain ⟨fu4, h⟩ := h
  exact b_X5_highest_4 X hr fu4 _ _ h
theorem c_X5_highest (l : Launch) (D : va_G) (cA : Nat → ClassId) {σ : St} {Q : Int32 → St → Prop} (h : w_X5_highest Q  σ) : CtI l yX5_highest cX5_highest 2 (some .int) rmX5_highest D cA shR [.ref 0] σ Q := by
  refine CtI.of (own := RX5) rfl (by decide +kernel) [(0, .ref 0)] rfl (Nat.le_of_ble_eq_true rfl) ?_
  intro p e s m args below meth c ad0 A X hr
  exact b_X5_highest_0 X hr  h
def rmX5_rounded : Room := { frames := 2, cells := 0, slots := 0, locals := 42 }
def w_X5_rounded_356 (Q : UInt64 → St → Prop) (x16 : UInt64) (σ : St) : Prop := ((¬ (dcmpF x16 FP.dconst0 .l) = 0 → (((gI σ 0 20) = 0 → (Q x16 σ)) ∧ (¬ (gI σ 0 20) = 0 → (Q (FP.dneg x16) σ)))) ∧ ((dcmpF x16 FP.dconst0 .l) = 0 → (Q FP.dconst0 σ)))
set_option maxRecDepth 100000 in
set_option maxHeartbeats 4000000 in
theorem b_X5_rounded_356 {p : Program} {l : Launch} {e : Env} {s : State} {m : MethodId} {args : Array Value} {below : List Frame} {meth : Method} {c : Code} {D : va_G} {cA : Nat → ClassId} {A : Nat → Prop} {ad0 : Nat → Nat} {Q : UInt64 → St → Prop} {x16 : UInt64} {σ : St} (X : Cx p rmX5_rounded s m args meth c cX5_rounded 18 RX5 D cA A) (hr : meth.sig.returnType = some .double) (h : w_X5_rounded_356 Q x16 σ) : G p l e rmX5_rounded s m args below meth c 18 D cA A (MQ below (va_Qd Q (EndW D cA ad0 shR) A) args s 0 0 A) 0 0 (fun ad => ad = ad0) shR σ [(0, .ref 0), (16, .double x16)] 356 [] := by
  unfold w_X5_rounded_356 at h
  refine g_dload X 1 dX5_rounded_356 rfl ?_
  refine g_dconst0 X dX5_rounded_358 ?_
  refine g_dcmp X dX5_rounded_359 ?_
  refine g_if_ne X 367 dX5_rounded_360 (by decide) (fun hc => ?_) (fun hc => ?_)
  · have h := h.1 hc
    refine g_aload_n X 0 dX5_rounded_367 rfl rfl ?_
    refine g_getI X (C := RX5) (T := TX5) (N := 23) 20 dX5_rounded_368 (Nat.le_of_ble_eq_true rfl) rfl rfl rfl inG5 (Nat.le_of_ble_eq_true rfl) rfl q589 ?_
    refine g_if_eq X 380 dX5_rounded_371 (by decide) (fun hc => ?_) (fun hc => ?_)
    · have h := h.1 hc
      refine g_dload X 1 dX5_rounded_380 rfl ?_
      exact g_dret X hr dX5_rounded_382 h
    · have h := h.2 hc
      refine g_dload X 1 dX5_rounded_374 rfl ?_
      refine g_dneg X dX5_rounded_376 ?_
      refine g_goto X 382 dX5_rounded_377 (by decide) ?_
      exact g_dret X hr dX5_rounded_382 h
  · have h := h.2 hc
    refine g_dconst0 X dX5_rounded_363 ?_
    refine g_goto X 382 dX5_rounded_364 (by decide) ?_
    exact g_dret X hr dX5_rounded_382 h
def w_X5_rounded_343 (Q : UInt64 → St → Prop) (x6 : Int32) (x7 : Int64) (σ : St) : Prop := w_X5_made (fun r10 σ9 => (w_X5_rounded_356 Q r10 σ9)) x7 (x6 - (2148 : Int32)) σ
set_option maxRecDepth 100000 in
set_option maxHeartbeats 4000000 in
theorem b_X5_rounded_343 {p : Program} {l : Launch} {e : Env} {s : State} {m : MethodId} {args : Array Value} {below : List Frame} {meth : Method} {c : Code} {D : va_G} {cA : Nat → ClassId} {A : Nat → Prop} {ad0 : Nat → Nat} {Q : UInt64 → St → Prop} {x6 : Int32} {x7 : Int64} {σ : St} (X : Cx p rmX5_rounded s m args meth c cX5_rounded 18 RX5 D cA A) (hr : meth.sig.returnType = some .double) (h : w_X5_rounded_343 Q x6 x7 σ) : G p l e rmX5_rounded s m args below meth c 18 D cA A (MQ below (va_Qd Q (EndW D cA ad0 shR) A) args s 0 0 A) 0 0 (fun ad => ad = ad0) shR σ [(0, .ref 0), (6, .int x6), (7, .long x7)] 343 [] := by
  unfold w_X5_rounded_343 at h
  refine g_lload X 2 dX5_rounded_343 rfl ?_
  refine g_iload X 1 dX5_rounded_345 rfl ?_
  refine g_sipush X (2148 : Int32) dX5_rounded_347 (by decide) ?_
  refine g_isub X dX5_rounded_350 ?_
  refine g_callSD X (n := 2) [.long x7, .int (x6 - (2148 : Int32))] [] dX5_rounded_351 (c_X5_made l D cA shR h) q672 q673 q57 q674 ⟨by decide, by decide, by decide +kernel⟩ rfl rfl (Nat.le_of_ble_eq_true rfl) rfl rfl ⟨(Nat.le_of_ble_eq_true rfl), (Nat.le_of_ble_eq_true rfl)⟩ (Nat.le_of_ble_eq_true rfl) (Nat.le_of_ble_eq_true rfl) (fun r10 σ9 h => ?_)
  refine g_dstore X [(16, .double r10), (0, .ref 0), (6, .int x6), (7, .long x7)] dX5_rounded_354 (Nat.le_of_ble_eq_true rfl) rfl ?_
  refine g_weak [1, 0] rfl ?_
  exact b_X5_rounded_356 X hr h
def w_X5_rounded_308 (Q : UInt64 → St → Prop) (s0 : UInt64) (σ : St) : Prop := (w_X5_rounded_356 Q s0 σ)
set_option maxRecDepth 100000 in
set_option maxHeartbeats 4000000 in
theorem b_X5_rounded_308 {p : Program} {l : Launch} {e : Env} {s : State} {m : MethodId} {args : Array Value} {below : List Frame} {meth : Method} {c : Code} {D : va_G} {cA : Nat → ClassId} {A : Nat → Prop} {ad0 : Nat → Nat} {Q : UInt64 → St → Prop} {s0 : UInt64} {σ : St} (X : Cx p rmX5_rounded s m args meth c cX5_rounded 18 RX5 D cA A) (hr : meth.sig.returnType = some .double) (h : w_X5_rounded_308 Q s0 σ) : G p l e rmX5_rounded s m args below meth c 18 D cA A (MQ below (va_Qd Q (EndW D cA ad0 shR) A) args s 0 0 A) 0 0 (fun ad => ad = ad0) shR σ [(0, .ref 0)] 308 [.double s0] := by
  unfold w_X5_rounded_308 at h
  refine g_dstore X [(16, .double s0), (0, .ref 0)] dX5_rounded_308 (Nat.le_of_ble_eq_true rfl) rfl ?_
  refine g_goto X 356 dX5_rounded_310 (by decide) ?_
  refine g_weak [1, 0] rfl ?_
  exact b_X5_rounded_356 X hr h
def w_X5_rounded_300 (Q : UInt64 → St → Prop) (σ : St) : Prop := (w_X5_rounded_308 Q (9218868437227405312 : UInt64) σ)
set_option maxRecDepth 100000 in
set_option maxHeartbeats 4000000 in
theorem b_X5_rounded_300 {p : Program} {l : Launch} {e : Env} {s : State} {m : MethodId} {args : Array Value} {below : List Frame} {meth : Method} {c : Code} {D : va_G} {cA : Nat → ClassId} {A : Nat → Prop} {ad0 : Nat → Nat} {Q : UInt64 → St → Prop} {σ : St} (X : Cx p rmX5_rounded s m args meth c cX5_rounded 18 RX5 D cA A) (hr : meth.sig.returnType = some .double) (h : w_X5_rounded_300 Q  σ) : G p l e rmX5_rounded s m args below meth c 18 D cA A (MQ below (va_Qd Q (EndW D cA ad0 shR) A) args s 0 0 A) 0 0 (fun ad => ad = ad0) shR σ [(0, .ref 0)] 300 [] := by
  unfold w_X5_rounded_300 at h
  refine g_ldc2d X q717 dX5_rounded_300 ?_
  refine g_goto X 308 dX5_rounded_303 (by decide) ?_
  exact b_X5_rounded_308 X hr h
def w_X5_rounded_266 (Q : UInt64 → St → Prop) (x1 : Int32) (x2 : Int32) (x4 : Int32) (x6 : Int32) (x11 : Int32) (x13 : Int32) (s0 : Int64) (s1 : Int64) (σ : St) : Prop := ∀ y6 : Int64, y6 = (s1 + s0) → w_X5_made (fun r8 σ7 => ((x13 = 0 → ((¬ y6 = (lshlF (1 : Int64) x2) → (w_X5_rounded_343 Q x6 y6 σ7)) ∧ (y6 = (lshlF (1 : Int64) x2) → ((¬ ((x6 - (2148 : Int32)) + x2) = x4 → (w_X5_rounded_343 Q x6 y6 σ7)) ∧ (((x6 - (2148 : Int32)) + x2) = x4 → (w_X5_rounded_356 Q (9218868437227405312 : UInt64) σ7)))))) ∧ (¬ x13 = 0 → ((x1 = 0 → (w_X5_rounded_300 Q σ7)) ∧ (¬ x1 = 0 → ((x11 = 0 → (w_X5_rounded_308 Q r8 σ7)) ∧ (¬ x11 = 0 → (w_X5_rounded_300 Q σ7)))))))) ((lshlF (1 : Int64) x2) - (1 : Int64)) (x4 - x2) σ
set_option maxRecDepth 100000 in
set_option maxHeartbeats 4000000 in
theorem b_X5_rounded_266 {p : Program} {l : Launch} {e : Env} {s : State} {m : MethodId} {args : Array Value} {below : List Frame} {meth : Method} {c : Code} {D : va_G} {cA : Nat → ClassId} {A : Nat → Prop} {ad0 : Nat → Nat} {Q : UInt64 → St → Prop} {x1 : Int32} {x2 : Int32} {x4 : Int32} {x6 : Int32} {x11 : Int32} {x13 : Int32} {s0 : Int64} {s1 : Int64} {σ : St} (X : Cx p rmX5_rounded s m args meth c cX5_rounded 18 RX5 D cA A) (hr : meth.sig.returnType = some .double) (h : w_X5_rounded_266 Q x1 x2 x4 x6 x11 x13 s0 s1 σ) : G p l e rmX5_rounded s m args below meth c 18 D cA A (MQ below (va_Qd Q (EndW D cA ad0 shR) A) args s 0 0 A) 0 0 (fun ad => ad = ad0) shR σ [(0, .ref 0), (1, .int x1), (2, .int x2), (4, .int x4), (6, .int x6), (11, .int x11), (13, .int x13)] 266 [.long s0, .long s1] := by
  unfold w_X5_rounded_266 at h
  refine g_ladd X dX5_rounded_266 ?_
  refine g_nameJ (fun y6 ey6 => ?_)
  have h := h y6 ey6
  refine g_lstore X [(7, .long y6), (0, .ref 0), (1, .int x1), (2, .int x2), (4, .int x4), (6, .int x6), (11, .int x11), (13, .int x13)] dX5_rounded_267 (Nat.le_of_ble_eq_true rfl) rfl ?_
  refine g_lconst X (1 : Int64) dX5_rounded_269 (by decide) ?_
  refine g_iload_n X 3 dX5_rounded_270 rfl rfl ?_
  refine g_lshl X dX5_rounded_271 ?_
  refine g_lconst X (1 : Int64) dX5_rounded_272 (by decide) ?_
  refine g_lsub X dX5_rounded_273 ?_
  refine g_iload X 4 dX5_rounded_274 rfl ?_
  refine g_iload_n X 3 dX5_rounded_276 rfl rfl ?_
  refine g_isub X dX5_rounded_277 ?_
  refine g_callSD X (n := 2) [.long ((lshlF (1 : Int64) x2) - (1 : Int64)), .int (x4 - x2)] [] dX5_rounded_278 (c_X5_made l D cA shR h) q672 q673 q57 q674 ⟨by decide, by decide, by decide +kernel⟩ rfl rfl (Nat.le_of_ble_eq_true rfl) rfl rfl ⟨(Nat.le_of_ble_eq_true rfl), (Nat.le_of_ble_eq_true rfl)⟩ (Nat.le_of_ble_eq_true rfl) (Nat.le_of_ble_eq_true rfl) (fun r8 σ7 h => ?_)
  refine g_dstore X [(14, .double r8), (7, .long y6), (0, .ref 0), (1, .int x1), (2, .int x2), (4, .int x4), (6, .int x6), (11, .int x11), (13, .int x13)] dX5_rounded_281 (Nat.le_of_ble_eq_true rfl) rfl ?_
  refine g_dconst0 X dX5_rounded_283 ?_
  refine g_dstore X [(16, .double FP.dconst0), (14, .double r8), (7, .long y6), (0, .ref 0), (1, .int x1), (2, .int x2), (4, .int x4), (6, .int x6), (11, .int x11), (13, .int x13)] dX5_rounded_284 (Nat.le_of_ble_eq_true rfl) rfl ?_
  refine g_iload X 9 dX5_rounded_286 rfl ?_
  refine g_if_eq X 313 dX5_rounded_288 (by decide) (fun hc => ?_) (fun hc => ?_)
  · have h := h.1 hc
    refine g_lload X 2 dX5_rounded_313 rfl ?_
    refine g_lconst X (1 : Int64) dX5_rounded_315 (by decide) ?_
    refine g_iload_n X 5 dX5_rounded_316 rfl rfl ?_
    refine g_lshl X dX5_rounded_317 ?_
    refine g_lcmp X dX5_rounded_318 ?_
    refine g_if_ne X 343 dX5_rounded_319 (by decide) (fun hc => ?_) (fun hc => ?_)
    · have h := h.1 (fun z => hc (lgc_eq.mpr z))
      refine g_weak [3, 7, 2] rfl ?_
      exact b_X5_rounded_343 X hr h
    · have h := h.2 (lgc_eq.mp hc)
      refine g_iload X 7 dX5_rounded_322 rfl ?_
      refine g_sipush X (2148 : Int32) dX5_rounded_324 (by decide) ?_
      refine g_isub X dX5_rounded_327 ?_
      refine g_iload_n X 5 dX5_rounded_328 rfl rfl ?_
      refine g_iadd X dX5_rounded_329 ?_
      refine g_iload X 6 dX5_rounded_330 rfl ?_
      refine g_icmp_ne X 343 dX5_rounded_332 (by decide) (fun hc => ?_) (fun hc => ?_)
      · have h := h.1 hc
        refine g_weak [3, 7, 2] rfl ?_
        exact b_X5_rounded_343 X hr h
      · have h := h.2 hc
        refine g_ldc2d X q717 dX5_rounded_335 ?_
        refine g_dstore X [(16, .double (9218868437227405312 : UInt64)), (14, .double r8), (7, .long y6), (0, .ref 0), (1, .int x1), (2, .int x2), (4, .int x4), (6, .int x6), (11, .int x11), (13, .int x13)] dX5_rounded_338 (Nat.le_of_ble_eq_true rfl) rfl ?_
        refine g_goto X 356 dX5_rounded_340 (by decide) ?_
        refine g_weak [3, 0] rfl ?_
        exact b_X5_rounded_356 X hr h
  · have h := h.2 hc
    refine g_iload_n X 4 dX5_rounded_291 rfl rfl ?_
    refine g_if_eq X 300 dX5_rounded_292 (by decide) (fun hc => ?_) (fun hc => ?_)
    · have h := h.1 hc
      refine g_weak [3] rfl ?_
      exact b_X5_rounded_300 X hr h
    · have h := h.2 hc
      refine g_iload X 8 dX5_rounded_295 rfl ?_
      refine g_if_eq X 306 dX5_rounded_297 (by decide) (fun hc => ?_) (fun hc => ?_)
      · have h := h.1 hc
        refine g_dload X 1 dX5_rounded_306 rfl ?_
        refine g_weak [3] rfl ?_
        exact b_X5_rounded_308 X hr h
      · have h := h.2 hc
        refine g_weak [3] rfl ?_
        exact b_X5_rounded_300 X hr h
def w_X5_rounded_252 (Q : UInt64 → St → Prop) (x1 : Int32) (x2 : Int32) (x4 : Int32) (x6 : Int32) (x7 : Int64) (x11 : Int32) (x12 : Int32) (s0 : Int32) (σ : St) : Prop := ((x12 = 0 → (w_X5_rounded_266 Q x1 x2 x4 x6 x11 s0 (0 : Int64) x7 σ)) ∧ (¬ x12 = 0 → (w_X5_rounded_266 Q x1 x2 x4 x6 x11 s0 (1 : Int64) x7 σ)))
set_option maxRecDepth 100000 in
set_option maxHeartbeats 4000000 in
theorem b_X5_rounded_252 {p : Program} {l : Launch} {e : Env} {s : State} {m : MethodId} {args : Array Value} {below : List Frame} {meth : Method} {c : Code} {D : va_G} {cA : Nat → ClassId} {A : Nat → Prop} {ad0 : Nat → Nat} {Q : UInt64 → St → Prop} {x1 : Int32} {x2 : Int32} {x4 : Int32} {x6 : Int32} {x7 : Int64} {x11 : Int32} {x12 : Int32} {s0 : Int32} {σ : St} (X : Cx p rmX5_rounded s m args meth c cX5_rounded 18 RX5 D cA A) (hr : meth.sig.returnType = some .double) (h : w_X5_rounded_252 Q x1 x2 x4 x6 x7 x11 x12 s0 σ) : G p l e rmX5_rounded s m args below meth c 18 D cA A (MQ below (va_Qd Q (EndW D cA ad0 shR) A) args s 0 0 A) 0 0 (fun ad => ad = ad0) shR σ [(0, .ref 0), (1, .int x1), (2, .int x2), (4, .int x4), (6, .int x6), (7, .long x7), (11, .int x11), (12, .int x12)] 252 [.int s0] := by
  unfold w_X5_rounded_252 at h
  refine g_istore X [(13, .int s0), (0, .ref 0), (1, .int x1), (2, .int x2), (4, .int x4), (6, .int x6), (7, .long x7), (11, .int x11), (12, .int x12)] dX5_rounded_252 (Nat.le_of_ble_eq_true rfl) rfl ?_
  refine g_lload X 6 dX5_rounded_254 rfl ?_
  refine g_iload X 8 dX5_rounded_256 rfl ?_
  refine g_if_eq X 265 dX5_rounded_258 (by decide) (fun hc => ?_) (fun hc => ?_)
  · have h := h.1 hc
    refine g_lconst X (0 : Int64) dX5_rounded_265 (by decide) ?_
    refine g_weak [1, 2, 3, 4, 5, 7, 0] rfl ?_
    exact b_X5_rounded_266 X hr h
  · have h := h.2 hc
    refine g_lconst X (1 : Int64) dX5_rounded_261 (by decide) ?_
    refine g_goto X 266 dX5_rounded_262 (by decide) ?_
    refine g_weak [1, 2, 3, 4, 5, 7, 0] rfl ?_
    exact b_X5_rounded_266 X hr h
def w_X5_rounded_234 (Q : UInt64 → St → Prop) (x1 : Int32) (x2 : Int32) (x4 : Int32) (x5 : Int32) (x6 : Int32) (x7 : Int64) (x11 : Int32) (s0 : Int32) (σ : St) : Prop := ((x5 < (x4 + (2148 : Int32)) → (w_X5_rounded_252 Q x1 x2 x4 x6 x7 x11 s0 (0 : Int32) σ)) ∧ (¬ x5 < (x4 + (2148 : Int32)) → (w_X5_rounded_252 Q x1 x2 x4 x6 x7 x11 s0 (1 : Int32) σ)))
set_option maxRecDepth 100000 in
set_option maxHeartbeats 4000000 in
theorem b_X5_rounded_234 {p : Program} {l : Launch} {e : Env} {s : State} {m : MethodId} {args : Array Value} {below : List Frame} {meth : Method} {c : Code} {D : va_G} {cA : Nat → ClassId} {A : Nat → Prop} {ad0 : Nat → Nat} {Q : UInt64 → St → Prop} {x1 : Int32} {x2 : Int32} {x4 : Int32} {x5 : Int32} {x6 : Int32} {x7 : Int64} {x11 : Int32} {s0 : Int32} {σ : St} (X : Cx p rmX5_rounded s m args meth c cX5_rounded 18 RX5 D cA A) (hr : meth.sig.returnType = some .double) (h : w_X5_rounded_234 Q x1 x2 x4 x5 x6 x7 x11 s0 σ) : G p l e rmX5_rounded s m args below meth c 18 D cA A (MQ below (va_Qd Q (EndW D cA ad0 shR) A) args s 0 0 A) 0 0 (fun ad => ad = ad0) shR σ [(0, .ref 0), (1, .int x1), (2, .int x2), (4, .int x4), (5, .int x5), (6, .int x6), (7, .long x7), (11, .int x11)] 234 [.int s0] := by
  unfold w_X5_rounded_234 at h
  refine g_istore X [(12, .int s0), (0, .ref 0), (1, .int x1), (2, .int x2), (4, .int x4), (5, .int x5), (6, .int x6), (7, .long x7), (11, .int x11)] dX5_rounded_234 (Nat.le_of_ble_eq_true rfl) rfl ?_
  refine g_iload X 5 dX5_rounded_236 rfl ?_
  refine g_iload X 4 dX5_rounded_238 rfl ?_
  refine g_sipush X (2148 : Int32) dX5_rounded_240 (by decide) ?_
  refine g_iadd X dX5_rounded_243 ?_
  refine g_icmp_lt X 251 dX5_rounded_244 (by decide) (fun hc => ?_) (fun hc => ?_)
  · have h := h.1 hc
    refine g_iconst X (0 : Int32) dX5_rounded_251 (by decide) ?_
    refine g_weak [1, 2, 3, 4, 6, 7, 8, 0] rfl ?_
    exact b_X5_rounded_252 X hr h
  · have h := h.2 hc
    refine g_iconst X (1 : Int32) dX5_rounded_247 (by decide) ?_
    refine g_goto X 252 dX5_rounded_248 (by decide) ?_
    refine g_weak [1, 2, 3, 4, 6, 7, 8, 0] rfl ?_
    exact b_X5_rounded_252 X hr h
def w_X5_rounded_233 (Q : UInt64 → St → Prop) (x1 : Int32) (x2 : Int32) (x4 : Int32) (x5 : Int32) (x6 : Int32) (x7 : Int64) (x11 : Int32) (σ : St) : Prop := (w_X5_rounded_234 Q x1 x2 x4 x5 x6 x7 x11 (0 : Int32) σ)
set_option maxRecDepth 100000 in
set_option maxHeartbeats 4000000 in
theorem b_X5_rounded_233 {p : Program} {l : Launch} {e : Env} {s : State} {m : MethodId} {args : Array Value} {below : List Frame} {meth : Method} {c : Code} {D : va_G} {cA : Nat → ClassId} {A : Nat → Prop} {ad0 : Nat → Nat} {Q : UInt64 → St → Prop} {x1 : Int32} {x2 : Int32} {x4 : Int32} {x5 : Int32} {x6 : Int32} {x7 : Int64} {x11 : Int32} {σ : St} (X : Cx p rmX5_rounded s m args meth c cX5_rounded 18 RX5 D cA A) (hr : meth.sig.returnType = some .double) (h : w_X5_rounded_233 Q x1 x2 x4 x5 x6 x7 x11 σ) : G p l e rmX5_rounded s m args below meth c 18 D cA A (MQ below (va_Qd Q (EndW D cA ad0 shR) A) args s 0 0 A) 0 0 (fun ad => ad = ad0) shR σ [(0, .ref 0), (1, .int x1), (2, .int x2), (4, .int x4), (5, .int x5), (6, .int x6), (7, .long x7), (11, .int x11)] 233 [] := by
  unfold w_X5_rounded_233 at h
  refine g_iconst X (0 : Int32) dX5_rounded_233 (by decide) ?_
  exact b_X5_rounded_234 X hr h
def w_X5_rounded_229 (Q : UInt64 → St → Prop) (x1 : Int32) (x2 : Int32) (x4 : Int32) (x5 : Int32) (x6 : Int32) (x7 : Int64) (x11 : Int32) (σ : St) : Prop := (w_X5_rounded_234 Q x1 x2 x4 x5 x6 x7 x11 (1 : Int32) σ)
set_option maxRecDepth 100000 in
set_option maxHeartbeats 4000000 in
theorem b_X5_rounded_229 {p : Program} {l : Launch} {e : Env} {s : State} {m : MethodId} {args : Array Value} {below : List Frame} {meth : Method} {c : Code} {D : va_G} {cA : Nat → ClassId} {A : Nat → Prop} {ad0 : Nat → Nat} {Q : UInt64 → St → Prop} {x1 : Int32} {x2 : Int32} {x4 : Int32} {x5 : Int32} {x6 : Int32} {x7 : Int64} {x11 : Int32} {σ : St} (X : Cx p rmX5_rounded s m args meth c cX5_rounded 18 RX5 D cA A) (hr : meth.sig.returnType = some .double) (h : w_X5_rounded_229 Q x1 x2 x4 x5 x6 x7 x11 σ) : G p l e rmX5_rounded s m args below meth c 18 D cA A (MQ below (va_Qd Q (EndW D cA ad0 shR) A) args s 0 0 A) 0 0 (fun ad => ad = ad0) shR σ [(0, .ref 0), (1, .int x1), (2, .int x2), (4, .int x4), (5, .int x5), (6, .int x6), (7, .long x7), (11, .int x11)] 229 [] := by
  unfold w_X5_rounded_229 at h
  refine g_iconst X (1 : Int32) dX5_rounded_229 (by decide) ?_
  refine g_goto X 234 dX5_rounded_230 (by decide) ?_
  exact b_X5_rounded_234 X hr h
def w_X5_rounded_210 (Q : UInt64 → St → Prop) (x1 : Int32) (x2 : Int32) (x4 : Int32) (x5 : Int32) (x6 : Int32) (x7 : Int64) (x11 : Int32) (σ : St) : Prop := (w_X5_rounded_234 Q x1 x2 x4 x5 x6 x7 x11 (0 : Int32) σ)
set_option maxRecDepth 100000 in
set_option maxHeartbeats 4000000 in
theorem b_X5_rounded_210 {p : Program} {l : Launch} {e : Env} {s : State} {m : MethodId} {args : Array Value} {below : List Frame} {meth : Method} {c : Code} {D : va_G} {cA : Nat → ClassId} {A : Nat → Prop} {ad0 : Nat → Nat} {Q : UInt64 → St → Prop} {x1 : Int32} {x2 : Int32} {x4 : Int32} {x5 : Int32} {x6 : Int32} {x7 : Int64} {x11 : Int32} {σ : St} (X : Cx p rmX5_rounded s m args meth c cX5_rounded 18 RX5 D cA A) (hr : meth.sig.returnType = some .double) (h : w_X5_rounded_210 Q x1 x2 x4 x5 x6 x7 x11 σ) : G p l e rmX5_rounded s m args below meth c 18 D cA A (MQ below (va_Qd Q (EndW D cA ad0 shR) A) args s 0 0 A) 0 0 (fun ad => ad = ad0) shR σ [(0, .ref 0), (1, .int x1), (2, .int x2), (4, .int x4), (5, .int x5), (6, .int x6), (7, .long x7), (11, .int x11)] 210 [] := by
  unfold w_X5_rounded_210 at h
  refine g_iconst X (0 : Int32) dX5_rounded_210 (by decide) ?_
  refine g_goto X 234 dX5_rounded_211 (by decide) ?_
  exact b_X5_rounded_234 X hr h
def w_X5_rounded_206 (Q : UInt64 → St → Prop) (x1 : Int32) (x2 : Int32) (x4 : Int32) (x5 : Int32) (x6 : Int32) (x7 : Int64) (x11 : Int32) (σ : St) : Prop := (w_X5_rounded_234 Q x1 x2 x4 x5 x6 x7 x11 (1 : Int32) σ)
set_option maxRecDepth 100000 in
set_option maxHeartbeats 4000000 in
theorem b_X5_rounded_206 {p : Program} {l : Launch} {e : Env} {s : State} {m : MethodId} {args : Array Value} {below : List Frame} {meth : Method} {c : Code} {D : va_G} {cA : Nat → ClassId} {A : Nat → Prop} {ad0 : Nat → Nat} {Q : UInt64 → St → Prop} {x1 : Int32} {x2 : Int32} {x4 : Int32} {x5 : Int32} {x6 : Int32} {x7 : Int64} {x11 : Int32} {σ : St} (X : Cx p rmX5_rounded s m args meth c cX5_rounded 18 RX5 D cA A) (hr : meth.sig.returnType = some .double) (h : w_X5_rounded_206 Q x1 x2 x4 x5 x6 x7 x11 σ) : G p l e rmX5_rounded s m args below meth c 18 D cA A (MQ below (va_Qd Q (EndW D cA ad0 shR) A) args s 0 0 A) 0 0 (fun ad => ad = ad0) shR σ [(0, .ref 0), (1, .int x1), (2, .int x2), (4, .int x4), (5, .int x5), (6, .int x6), (7, .long x7), (11, .int x11)] 206 [] := by
  unfold w_X5_rounded_206 at h
  refine g_iconst X (1 : Int32) dX5_rounded_206 (by decide) ?_
  refine g_goto X 234 dX5_rounded_207 (by decide) ?_
  exact b_X5_rounded_234 X hr h
def w_X5_rounded_181 (Q : UInt64 → St → Prop) (x1 : Int32) (x2 : Int32) (x4 : Int32) (x5 : Int32) (x6 : Int32) (x7 : Int64) (x9 : Int32) (x10 : Int32) (s0 : Int32) (σ : St) : Prop := ((¬ x1 = 0 → ((s0 = 0 → (w_X5_rounded_233 Q x1 x2 x4 x5 x6 x7 s0 σ)) ∧ (¬ s0 = 0 → ((¬ x9 = 0 → (w_X5_rounded_229 Q x1 x2 x4 x5 x6 x7 s0 σ)) ∧ (x9 = 0 → ((x10 = 0 → (w_X5_rounded_233 Q x1 x2 x4 x5 x6 x7 s0 σ)) ∧ (¬ x10 = 0 → (w_X5_rounded_229 Q x1 x2 x4 x5 x6 x7 s0 σ)))))))) ∧ (x1 = 0 → ((x9 = 0 → (w_X5_rounded_210 Q x1 x2 x4 x5 x6 x7 s0 σ)) ∧ (¬ x9 = 0 → ((¬ x10 = 0 → (w_X5_rounded_206 Q x1 x2 x4 x5 x6 x7 s0 σ)) ∧ (x10 = 0 → ((¬ (x7 &&& (1 : Int64)) = (1 : Int64) → (w_X5_rounded_210 Q x1 x2 x4 x5 x6 x7 s0 σ)) ∧ ((x7 &&& (1 : Int64)) = (1 : Int64) → (w_X5_rounded_206 Q x1 x2 x4 x5 x6 x7 s0 σ)))))))))
set_option maxRecDepth 100000 in
set_option maxHeartbeats 4000000 in
theorem b_X5_rounded_181 {p : Program} {l : Launch} {e : Env} {s : State} {m : MethodId} {args : Array Value} {below : List Frame} {meth : Method} {c : Code} {D : va_G} {cA : Nat → ClassId} {A : Nat → Prop} {ad0 : Nat → Nat} {Q : UInt64 → St → Prop} {x1 : Int32} {x2 : Int32} {x4 : Int32} {x5 : Int32} {x6 : Int32} {x7 : Int64} {x9 : Int32} {x10 : Int32} {s0 : Int32} {σ : St} (X : Cx p rmX5_rounded s m args meth c cX5_rounded 18 RX5 D cA A) (hr : meth.sig.returnType = some .double) (h : w_X5_rounded_181 Q x1 x2 x4 x5 x6 x7 x9 x10 s0 σ) : G p l e rmX5_rounded s m args below meth c 18 D cA A (MQ below (va_Qd Q (EndW D cA ad0 shR) A) args s 0 0 A) 0 0 (fun ad => ad = ad0) shR σ [(0, .ref 0), (1, .int x1), (2, .int x2), (4, .int x4), (5, .int x5), (6, .int x6), (7, .long x7), (9, .int x9), (10, .int x10)] 181 [.int s0] := by
  unfold w_X5_rounded_181 at h
  refine g_istore X [(11, .int s0), (0, .ref 0), (1, .int x1), (2, .int x2), (4, .int x4), (5, .int x5), (6, .int x6), (7, .long x7), (9, .int x9), (10, .int x10)] dX5_rounded_181 (Nat.le_of_ble_eq_true rfl) rfl ?_
  refine g_iload_n X 2 dX5_rounded_183 rfl rfl ?_
  refine g_if_ne X 214 dX5_rounded_184 (by decide) (fun hc => ?_) (fun hc => ?_)
  · have h := h.1 hc
    refine g_iload X 0 dX5_rounded_214 rfl ?_
    refine g_if_eq X 233 dX5_rounded_216 (by decide) (fun hc => ?_) (fun hc => ?_)
    · have h := h.1 hc
      refine g_weak [1, 2, 3, 4, 5, 6, 7, 0] rfl ?_
      exact b_X5_rounded_233 X hr h
    · have h := h.2 hc
      refine g_iload X 8 dX5_rounded_219 rfl ?_
      refine g_if_ne X 229 dX5_rounded_221 (by decide) (fun hc => ?_) (fun hc => ?_)
      · have h := h.1 hc
        refine g_weak [1, 2, 3, 4, 5, 6, 7, 0] rfl ?_
        exact b_X5_rounded_229 X hr h
      · have h := h.2 hc
        refine g_iload X 9 dX5_rounded_224 rfl ?_
        refine g_if_eq X 233 dX5_rounded_226 (by decide) (fun hc => ?_) (fun hc => ?_)
        · have h := h.1 hc
          refine g_weak [1, 2, 3, 4, 5, 6, 7, 0] rfl ?_
          exact b_X5_rounded_233 X hr h
        · have h := h.2 hc
          refine g_weak [1, 2, 3, 4, 5, 6, 7, 0] rfl ?_
          exact b_X5_rounded_229 X hr h
  · have h := h.2 hc
    refine g_iload X 8 dX5_rounded_187 rfl ?_
    refine g_if_eq X 210 dX5_rounded_189 (by decide) (fun hc => ?_) (fun hc => ?_)
    · have h := h.1 hc
      refine g_weak [1, 2, 3, 4, 5, 6, 7, 0] rfl ?_
      exact b_X5_rounded_210 X hr h
    · have h := h.2 hc
      refine g_iload X 9 dX5_rounded_192 rfl ?_
      refine g_if_ne X 206 dX5_rounded_194 (by decide) (fun hc => ?_) (fun hc => ?_)
      · have h := h.1 hc
        refine g_weak [1, 2, 3, 4, 5, 6, 7, 0] rfl ?_
        exact b_X5_rounded_206 X hr h
      · have h := h.2 hc
        refine g_lload X 7 dX5_rounded_197 rfl ?_
        refine g_lconst X (1 : Int64) dX5_rounded_199 (by decide) ?_
        refine g_land X dX5_rounded_200 ?_
        refine g_lconst X (1 : Int64) dX5_rounded_201 (by decide) ?_
        refine g_lcmp X dX5_rounded_202 ?_
        refine g_if_ne X 210 dX5_rounded_203 (by decide) (fun hc => ?_) (fun hc => ?_)
        · have h := h.1 (fun z => hc (lgc_eq.mpr z))
          refine g_weak [1, 2, 3, 4, 5, 6, 7, 0] rfl ?_
          exact b_X5_rounded_210 X hr h
        · have h := h.2 (lgc_eq.mp hc)
          refine g_weak [1, 2, 3, 4, 5, 6, 7, 0] rfl ?_
          exact b_X5_rounded_206 X hr h
def w_X5_rounded_180 (Q : UInt64 → St → Prop) (x1 : Int32) (x2 : Int32) (x4 : Int32) (x5 : Int32) (x6 : Int32) (x7 : Int64) (x9 : Int32) (x10 : Int32) (σ : St) : Prop := (w_X5_rounded_181 Q x1 x2 x4 x5 x6 x7 x9 x10 (0 : Int32) σ)
set_option maxRecDepth 100000 in
set_option maxHeartbeats 4000000 in
theorem b_X5_rounded_180 {p : Program} {l : Launch} {e : Env} {s : State} {m : MethodId} {args : Array Value} {below : List Frame} {meth : Method} {c : Code} {D : va_G} {cA : Nat → ClassId} {A : Nat → Prop} {ad0 : Nat → Nat} {Q : UInt64 → St → Prop} {x1 : Int32} {x2 : Int32} {x4 : Int32} {x5 : Int32} {x6 : Int32} {x7 : Int64} {x9 : Int32} {x10 : Int32} {σ : St} (X : Cx p rmX5_rounded s m args meth c cX5_rounded 18 RX5 D cA A) (hr : meth.sig.returnType = some .double) (h : w_X5_rounded_180 Q x1 x2 x4 x5 x6 x7 x9 x10 σ) : G p l e rmX5_rounded s m args below meth c 18 D cA A (MQ below (va_Qd Q (EndW D cA ad0 shR) A) args s 0 0 A) 0 0 (fun ad => ad = ad0) shR σ [(0, .ref 0), (1, .int x1), (2, .int x2), (4, .int x4), (5, .int x5), (6, .int x6), (7, .long x7), (9, .int x9), (10, .int x10)] 180 [] := by
  unfold w_X5_rounded_180 at h
  refine g_iconst X (0 : Int32) dX5_rounded_180 (by decide) ?_
  exact b_X5_rounded_181 X hr h
def w_X5_rounded_176 (Q : UInt64 → St → Prop) (x1 : Int32) (x2 : Int32) (x4 : Int32) (x5 : Int32) (x6 : Int32) (x7 : Int64) (x9 : Int32) (x10 : Int32) (σ : St) : Prop := (w_X5_rounded_181 Q x1 x2 x4 x5 x6 x7 x9 x10 (1 : Int32) σ)
set_option maxRecDepth 100000 in
set_option maxHeartbeats 4000000 in
theorem b_X5_rounded_176 {p : Program} {l : Launch} {e : Env} {s : State} {m : MethodId} {args : Array Value} {below : List Frame} {meth : Method} {c : Code} {D : va_G} {cA : Nat → ClassId} {A : Nat → Prop} {ad0 : Nat → Nat} {Q : UInt64 → St → Prop} {x1 : Int32} {x2 : Int32} {x4 : Int32} {x5 : Int32} {x6 : Int32} {x7 : Int64} {x9 : Int32} {x10 : Int32} {σ : St} (X : Cx p rmX5_rounded s m args meth c cX5_rounded 18 RX5 D cA A) (hr : meth.sig.returnType = some .double) (h : w_X5_rounded_176 Q x1 x2 x4 x5 x6 x7 x9 x10 σ) : G p l e rmX5_rounded s m args below meth c 18 D cA A (MQ below (va_Qd Q (EndW D cA ad0 shR) A) args s 0 0 A) 0 0 (fun ad => ad = ad0) shR σ [(0, .ref 0), (1, .int x1), (2, .int x2), (4, .int x4), (5, .int x5), (6, .int x6), (7, .long x7), (9, .int x9), (10, .int x10)] 176 [] := by
  unfold w_X5_rounded_176 at h
  refine g_iconst X (1 : Int32) dX5_rounded_176 (by decide) ?_
  refine g_goto X 181 dX5_rounded_177 (by decide) ?_
  exact b_X5_rounded_181 X hr h
def w_X5_rounded_164 (Q : UInt64 → St → Prop) (x1 : Int32) (x2 : Int32) (x4 : Int32) (x5 : Int32) (x6 : Int32) (x7 : Int64) (x9 : Int32) (x10 : Int32) (σ : St) : Prop := ((¬ x1 = (3 : Int32) → (w_X5_rounded_180 Q x1 x2 x4 x5 x6 x7 x9 x10 σ)) ∧ (x1 = (3 : Int32) → (((gI σ 0 20) = 0 → (w_X5_rounded_180 Q x1 x2 x4 x5 x6 x7 x9 x10 σ)) ∧ (¬ (gI σ 0 20) = 0 → (w_X5_rounded_176 Q x1 x2 x4 x5 x6 x7 x9 x10 σ)))))
set_option maxRecDepth 100000 in
set_option maxHeartbeats 4000000 in
theorem b_X5_rounded_164 {p : Program} {l : Launch} {e : Env} {s : State} {m : MethodId} {args : Array Value} {below : List Frame} {meth : Method} {c : Code} {D : va_G} {cA : Nat → ClassId} {A : Nat → Prop} {ad0 : Nat → Nat} {Q : UInt64 → St → Prop} {x1 : Int32} {x2 : Int32} {x4 : Int32} {x5 : Int32} {x6 : Int32} {x7 : Int64} {x9 : Int32} {x10 : Int32} {σ : St} (X : Cx p rmX5_rounded s m args meth c cX5_rounded 18 RX5 D cA A) (hr : meth.sig.returnType = some .double) (h : w_X5_rounded_164 Q x1 x2 x4 x5 x6 x7 x9 x10 σ) : G p l e rmX5_rounded s m args below meth c 18 D cA A (MQ below (va_Qd Q (EndW D cA ad0 shR) A) args s 0 0 A) 0 0 (fun ad => ad = ad0) shR σ [(0, .ref 0), (1, .int x1), (2, .int x2), (4, .int x4), (5, .int x5), (6, .int x6), (7, .long x7), (9, .int x9), (10, .int x10)] 164 [] := by
  unfold w_X5_rounded_164 at h
  refine g_iload_n X 1 dX5_rounded_164 rfl rfl ?_
  refine g_iconst X (3 : Int32) dX5_rounded_165 (by decide) ?_
  refine g_icmp_ne X 180 dX5_rounded_166 (by decide) (fun hc => ?_) (fun hc => ?_)
  · have h := h.1 hc
    exact b_X5_rounded_180 X hr h
  · have h := h.2 hc
    refine g_aload_n X 0 dX5_rounded_169 rfl rfl ?_
    refine g_getI X (C := RX5) (T := TX5) (N := 23) 20 dX5_rounded_170 (Nat.le_of_ble_eq_true rfl) rfl rfl rfl inG5 (Nat.le_of_ble_eq_true rfl) rfl q589 ?_
    refine g_if_eq X 180 dX5_rounded_173 (by decide) (fun hc => ?_) (fun hc => ?_)
    · have h := h.1 hc
      exact b_X5_rounded_180 X hr h
    · have h := h.2 hc
      exact b_X5_rounded_176 X hr h
def w_X5_rounded_152 (Q : UInt64 → St → Prop) (x1 : Int32) (x2 : Int32) (x4 : Int32) (x5 : Int32) (x6 : Int32) (x7 : Int64) (x9 : Int32) (x10 : Int32) (σ : St) : Prop := ((¬ x1 = (2 : Int32) → (w_X5_rounded_164 Q x1 x2 x4 x5 x6 x7 x9 x10 σ)) ∧ (x1 = (2 : Int32) → (((gI σ 0 20) = 0 → (w_X5_rounded_176 Q x1 x2 x4 x5 x6 x7 x9 x10 σ)) ∧ (¬ (gI σ 0 20) = 0 → (w_X5_rounded_164 Q x1 x2 x4 x5 x6 x7 x9 x10 σ)))))
set_option maxRecDepth 100000 in
set_option maxHeartbeats 4000000 in
theorem b_X5_rounded_152 {p : Program} {l : Launch} {e : Env} {s : State} {m : MethodId} {args : Array Value} {below : List Frame} {meth : Method} {c : Code} {D : va_G} {cA : Nat → ClassId} {A : Nat → Prop} {ad0 : Nat → Nat} {Q : UInt64 → St → Prop} {x1 : Int32} {x2 : Int32} {x4 : Int32} {x5 : Int32} {x6 : Int32} {x7 : Int64} {x9 : Int32} {x10 : Int32} {σ : St} (X : Cx p rmX5_rounded s m args meth c cX5_rounded 18 RX5 D cA A) (hr : meth.sig.returnType = some .double) (h : w_X5_rounded_152 Q x1 x2 x4 x5 x6 x7 x9 x10 σ) : G p l e rmX5_rounded s m args below meth c 18 D cA A (MQ below (va_Qd Q (EndW D cA ad0 shR) A) args s 0 0 A) 0 0 (fun ad => ad = ad0) shR σ [(0, .ref 0), (1, .int x1), (2, .int x2), (4, .int x4), (5, .int x5), (6, .int x6), (7, .long x7), (9, .int x9), (10, .int x10)] 152 [] := by
  unfold w_X5_rounded_152 at h
  refine g_iload_n X 1 dX5_rounded_152 rfl rfl ?_
  refine g_iconst X (2 : Int32) dX5_rounded_153 (by decide) ?_
  refine g_icmp_ne X 164 dX5_rounded_154 (by decide) (fun hc => ?_) (fun hc => ?_)
  · have h := h.1 hc
    exact b_X5_rounded_164 X hr h
  · have h := h.2 hc
    refine g_aload_n X 0 dX5_rounded_157 rfl rfl ?_
    refine g_getI X (C := RX5) (T := TX5) (N := 23) 20 dX5_rounded_158 (Nat.le_of_ble_eq_true rfl) rfl rfl rfl inG5 (Nat.le_of_ble_eq_true rfl) rfl q589 ?_
    refine g_if_eq X 176 dX5_rounded_161 (by decide) (fun hc => ?_) (fun hc => ?_)
    · have h := h.1 hc
      exact b_X5_rounded_176 X hr h
    · have h := h.2 hc
      exact b_X5_rounded_164 X hr h
def w_X5_rounded_115 (Q : UInt64 → St → Prop) : Nat → Int32 → Int32 → Int32 → Int32 → Int32 → Int64 → Int32 → Int32 → Int32 → St → Prop
  | 0, _, _, _, _, _, _, _, _, _, _ => False
  | n + 1, x1, x2, x4, x5, x6, x7, x9, x10, x11, σ => (((x6 - (1 : Int32)) ≤ x11 → (w_X5_rounded_152 Q x1 x2 x4 x5 x6 x7 x9 x10 σ)) ∧ (¬ (x6 - (1 : Int32)) ≤ x11 → ((¬ x10 = 0 → (w_X5_rounded_152 Q x1 x2 x4 x5 x6 x7 x9 x10 σ)) ∧ (x10 = 0 → w_X5_bitAt (fun r12 σ11 => ((¬ r12 = (1 : Int32) → ∀ y13 : Int32, y13 = x11 + (1 : Int32) → (w_X5_rounded_115 Q n x1 x2 x4 x5 x6 x7 x9 (0 : Int32) y13 σ11)) ∧ (r12 = (1 : Int32) → ∀ y14 : Int32, y14 = x11 + (1 : Int32) → (w_X5_rounded_115 Q n x1 x2 x4 x5 x6 x7 x9 (1 : Int32) y14 σ11)))) x11 σ))))
set_option maxRecDepth 100000 in
set_option maxHeartbeats 4000000 in
theorem b_X5_rounded_115 {p : Program} {l : Launch} {e : Env} {s : State} {m : MethodId} {args : Array Value} {below : List Frame} {meth : Method} {c : Code} {D : va_G} {cA : Nat → ClassId} {A : Nat → Prop} {ad0 : Nat → Nat} {Q : UInt64 → St → Prop} (X : Cx p rmX5_rounded s m args meth c cX5_rounded 18 RX5 D cA A) (hr : meth.sig.returnType = some .double) : ∀ (n : Nat) (x1 : Int32) (x2 : Int32) (x4 : Int32) (x5 : Int32) (x6 : Int32) (x7 : Int64) (x9 : Int32) (x10 : Int32) (x11 : Int32) (σ : St), w_X5_rounded_115 Q n x1 x2 x4 x5 x6 x7 x9 x10 x11 σ → G p l e rmX5_rounded s m args below meth c 18 D cA A (MQ below (va_Qd Q (EndW D cA ad0 shR) A) args s 0 0 A) 0 0 (fun ad => ad = ad0) shR σ [(0, .ref 0), (1, .int x1), (2, .int x2), (4, .int x4), (5, .int x5), (6, .int x6), (7, .long x7), (9, .int x9), (10, .int x10), (11, .int x11)] 115 [] := by
  intro n
  induction n with
  | zero => intro x1 x2 x4 x5 x6 x7 x9 x10 x11 σ h; exact h.elim
  | succ n ih =>
    intro x1 x2 x4 x5 x6 x7 x9 x10 x11 σ h
    rw [w_X5_rounded_115] at h
    refine g_iload X 9 dX5_rounded_115 rfl ?_
    refine g_iload X 5 dX5_rounded_117 rfl ?_
    refine g_iconst X (1 : Int32) dX5_rounded_119 (by decide) ?_
    refine g_isub X dX5_rounded_120 ?_
    refine g_icmp_ge X 152 dX5_rounded_121 (by decide) (fun hc => ?_) (fun hc => ?_)
    · have h := h.1 hc
      refine g_weak [0, 1, 2, 3, 4, 5, 6, 7, 8] rfl ?_
      exact b_X5_rounded_152 X hr h
    · have h := h.2 hc
      refine g_iload X 8 dX5_rounded_124 rfl ?_
      refine g_if_ne X 152 dX5_rounded_126 (by decide) (fun hc => ?_) (fun hc => ?_)
      · have h := h.1 hc
        refine g_weak [0, 1, 2, 3, 4, 5, 6, 7, 8] rfl ?_
        exact b_X5_rounded_152 X hr h
      · have h := h.2 hc
        refine g_aload_n X 0 dX5_rounded_129 rfl rfl ?_
        refine g_iload X 9 dX5_rounded_130 rfl ?_
        refine g_callVI X (C := RX5) (T := TX5) (N := 23) (n := 1) [.int x11] [] dX5_rounded_132 (c_X5_bitAt l D cA h) q860 q862 q43 q57 q863 (Nat.le_of_ble_eq_true rfl) rfl rfl ⟨rfl, by decide, by decide, by decide +kernel⟩ rfl rfl (Nat.le_of_ble_eq_true rfl) rfl rfl ⟨(Nat.le_of_ble_eq_true rfl), (Nat.le_of_ble_eq_true rfl)⟩ (Nat.le_of_ble_eq_true rfl) (Nat.le_of_ble_eq_true rfl) (fun r12 σ11 h => ?_)
        refine g_iconst X (1 : Int32) dX5_rounded_135 (by decide) ?_
        refine g_icmp_ne X 143 dX5_rounded_136 (by decide) (fun hc => ?_) (fun hc => ?_)
        · have h := h.1 hc
          refine g_iconst X (0 : Int32) dX5_rounded_143 (by decide) ?_
          refine g_istore X [(10, .int (0 : Int32)), (0, .ref 0), (1, .int x1), (2, .int x2), (4, .int x4), (5, .int x5), (6, .int x6), (7, .long x7), (9, .int x9), (11, .int x11)] dX5_rounded_144 (Nat.le_of_ble_eq_true rfl) rfl ?_
          obtain ⟨y13, ey13⟩ : ∃ y : Int32, y = x11 + (1 : Int32) := ⟨_, rfl⟩
          have h := h y13 ey13
          refine g_iinc X 9 (1 : Int32) [(11, .int y13), (10, .int (0 : Int32)), (0, .ref 0), (1, .int x1), (2, .int x2), (4, .int x4), (5, .int x5), (6, .int x6), (7, .long x7), (9, .int x9)] dX5_rounded_146 rfl (by decide) (Nat.le_of_ble_eq_true rfl) (by rw [ey13]; rfl) ?_
          refine g_goto X 115 dX5_rounded_149 (by decide) ?_
          refine g_weak [2, 3, 4, 5, 6, 7, 8, 9, 1, 0] rfl ?_
          exact ih _ _ _ _ _ _ _ _ _ _ h
        · have h := h.2 hc
          refine g_iconst X (1 : Int32) dX5_rounded_139 (by decide) ?_
          refine g_goto X 144 dX5_rounded_140 (by decide) ?_
          refine g_istore X [(10, .int (1 : Int32)), (0, .ref 0), (1, .int x1), (2, .int x2), (4, .int x4), (5, .int x5), (6, .int x6), (7, .long x7), (9, .int x9), (11, .int x11)] dX5_rounded_144 (Nat.le_of_ble_eq_true rfl) rfl ?_
          obtain ⟨y14, ey14⟩ : ∃ y : Int32, y = x11 + (1 : Int32) := ⟨_, rfl⟩
          have h := h y14 ey14
          refine g_iinc X 9 (1 : Int32) [(11, .int y14), (10, .int (1 : Int32)), (0, .ref 0), (1, .int x1), (2, .int x2), (4, .int x4), (5, .int x5), (6, .int x6), (7, .long x7), (9, .int x9)] dX5_rounded_146 rfl (by decide) (Nat.le_of_ble_eq_true rfl) (by rw [ey14]; rfl) ?_
          refine g_goto X 115 dX5_rounded_149 (by decide) ?_
          refine g_weak [2, 3, 4, 5, 6, 7, 8, 9, 1, 0] rfl ?_
          exact ih _ _ _ _ _ _ _ _ _ _ h
def w_X5_rounded_104 (Q : UInt64 → St → Prop) (x1 : Int32) (x2 : Int32) (x4 : Int32) (x5 : Int32) (x6 : Int32) (x7 : Int64) (s0 : Int32) (σ : St) : Prop := ∀ y5 : Int32, y5 = (gI σ 0 21) → (∃ fu15 : Nat, w_X5_rounded_115 Q fu15 x1 x2 x4 x5 x6 x7 s0 y5 (0 : Int32) σ)
set_option maxRecDepth 100000 in
set_option maxHeartbeats 4000000 in
theorem b_X5_rounded_104 {p : Program} {l : Launch} {e : Env} {s : State} {m : MethodId} {args : Array Value} {below : List Frame} {meth : Method} {c : Code} {D : va_G} {cA : Nat → ClassId} {A : Nat → Prop} {ad0 : Nat → Nat} {Q : UInt64 → St → Prop} {x1 : Int32} {x2 : Int32} {x4 : Int32} {x5 : Int32} {x6 : Int32} {x7 : Int64} {s0 : Int32} {σ : St} (X : Cx p rmX5_rounded s m args meth c cX5_rounded 18 RX5 D cA A) (hr : meth.sig.returnType = some .double) (h : w_X5_rounded_104 Q x1 x2 x4 x5 x6 x7 s0 σ) : G p l e rmX5_rounded s m args below meth c 18 D cA A (MQ below (va_Qd Q (EndW D cA ad0 shR) A) args s 0 0 A) 0 0 (fun ad => ad = ad0) shR σ [(0, .ref 0), (1, .int x1), (2, .int x2), (4, .int x4), (5, .int x5), (6, .int x6), (7, .long x7)] 104 [.int s0] := by
  unfold w_X5_rounded_104 at h
  refine g_istore X [(9, .int s0), (0, .ref 0), (1, .int x1), (2, .int x2), (4, .int x4), (5, .int x5), (6, .int x6), (7, .long x7)] dX5_rounded_104 (Nat.le_of_ble_eq_true rfl) rfl ?_
  refine g_aload_n X 1 dX5_rounded_106 rfl rfl ?_
  refine g_getI X (C := RX5) (T := TX5) (N := 23) 21 dX5_rounded_107 (Nat.le_of_ble_eq_true rfl) rfl rfl rfl inG5 (Nat.le_of_ble_eq_true rfl) rfl q590 ?_
  refine g_nameI (fun y5 ey5 => ?_)
  have h := h y5 ey5
  refine g_istore X [(10, .int y5), (9, .int s0), (0, .ref 0), (1, .int x1), (2, .int x2), (4, .int x4), (5, .int x5), (6, .int x6), (7, .long x7)] dX5_rounded_110 (Nat.le_of_ble_eq_true rfl) rfl ?_
  refine g_iconst X (0 : Int32) dX5_rounded_112 (by decide) ?_
  refine g_istore X [(11, .int (0 : Int32)), (10, .int y5), (9, .int s0), (0, .ref 0), (1, .int x1), (2, .int x2), (4, .int x4), (5, .int x5), (6, .int x6), (7, .long x7)] dX5_rounded_113 (Nat.le_of_ble_eq_true rfl) rfl ?_
  refine g_weak [3, 4, 5, 6, 7, 8, 9, 2, 1, 0] rfl ?_
  obtain ⟨fu15, h⟩ := h
  exact b_X5_rounded_115 X hr fu15 _ _ _ _ _ _ _ _ _ _ h
def w_X5_rounded_58 (Q : UInt64 → St → Prop) : Nat → Int32 → Int32 → Int32 → Int32 → Int32 → Int64 → Int32 → St → Prop
  | 0, _, _, _, _, _, _, _, _ => False
  | n + 1, x1, x2, x4, x5, x6, x7, x9, σ => ((x9 < x6 → w_X5_bitAt (fun r4 σ3 => ((¬ r4 = (1 : Int32) → (w_X5_rounded_104 Q x1 x2 x4 x5 x6 x7 (0 : Int32) σ3)) ∧ (r4 = (1 : Int32) → (w_X5_rounded_104 Q x1 x2 x4 x5 x6 x7 (1 : Int32) σ3)))) (x6 - (1 : Int32)) σ) ∧ (¬ x9 < x6 → w_X5_bitAt (fun r17 σ16 => ∀ y18 : Int64, y18 = (((2 : Int64) * x7) + (r17.toInt64)) → ∀ y19 : Int32, y19 = x9 + (-1 : Int32) → (w_X5_rounded_58 Q n x1 x2 x4 x5 x6 y18 y19 σ16)) x9 σ))
set_option maxRecDepth 100000 in
set_option maxHeartbeats 4000000 in
theorem b_X5_rounded_58 {p : Program} {l : Launch} {e : Env} {s : State} {m : MethodId} {args : Array Value} {below : List Frame} {meth : Method} {c : Code} {D : va_G} {cA : Nat → ClassId} {A : Nat → Prop} {ad0 : Nat → Nat} {Q : UInt64 → St → Prop} (X : Cx p rmX5_rounded s m args meth c cX5_rounded 18 RX5 D cA A) (hr : meth.sig.returnType = some .double) : ∀ (n : Nat) (x1 : Int32) (x2 : Int32) (x4 : Int32) (x5 : Int32) (x6 : Int32) (x7 : Int64) (x9 : Int32) (σ : St), w_X5_rounded_58 Q n x1 x2 x4 x5 x6 x7 x9 σ → G p l e rmX5_rounded s m args below meth c 18 D cA A (MQ below (va_Qd Q (EndW D cA ad0 shR) A) args s 0 0 A) 0 0 (fun ad => ad = ad0) shR σ [(0, .ref 0), (1, .int x1), (2, .int x2), (4, .int x4), (5, .int x5), (6, .int x6), (7, .long x7), (9, .int x9)] 58 [] := by
  intro n
  induction n with
  | zero => intro x1 x2 x4 x5 x6 x7 x9 σ h; exact h.elim
  | succ n ih =>
    intro x1 x2 x4 x5 x6 x7 x9 σ h
    rw [w_X5_rounded_58] at h
    refine g_iload X 7 dX5_rounded_58 rfl ?_
    refine g_iload X 5 dX5_rounded_60 rfl ?_
    refine g_icmp_lt X 87 dX5_rounded_62 (by decide) (fun hc => ?_) (fun hc => ?_)
    · have h := h.1 hc
      refine g_aload_n X 0 dX5_rounded_87 rfl rfl ?_
      refine g_iload X 5 dX5_rounded_88 rfl ?_
      refine g_iconst X (1 : Int32) dX5_rounded_90 (by decide) ?_
      refine g_isub X dX5_rounded_91 ?_
      refine g_callVI X (C := RX5) (T := TX5) (N := 23) (n := 1) [.int (x6 - (1 : Int32))] [] dX5_rounded_92 (c_X5_bitAt l D cA h) q860 q862 q43 q57 q863 (Nat.le_of_ble_eq_true rfl) rfl rfl ⟨rfl, by decide, by decide, by decide +kernel⟩ rfl rfl (Nat.le_of_ble_eq_true rfl) rfl rfl ⟨(Nat.le_of_ble_eq_true rfl), (Nat.le_of_ble_eq_true rfl)⟩ (Nat.le_of_ble_eq_true rfl) (Nat.le_of_ble_eq_true rfl) (fun r4 σ3 h => ?_)
      refine g_iconst X (1 : Int32) dX5_rounded_95 (by decide) ?_
      refine g_icmp_ne X 103 dX5_rounded_96 (by decide) (fun hc => ?_) (fun hc => ?_)
      · have h := h.1 hc
        refine g_iconst X (0 : Int32) dX5_rounded_103 (by decide) ?_
        refine g_weak [0, 1, 2, 3, 4, 5, 6] rfl ?_
        exact b_X5_rounded_104 X hr h
      · have h := h.2 hc
        refine g_iconst X (1 : Int32) dX5_rounded_99 (by decide) ?_
        refine g_goto X 104 dX5_rounded_100 (by decide) ?_
        refine g_weak [0, 1, 2, 3, 4, 5, 6] rfl ?_
        exact b_X5_rounded_104 X hr h
    · have h := h.2 hc
      refine g_ldc2 X q734 dX5_rounded_65 ?_
      refine g_lload X 6 dX5_rounded_68 rfl ?_
      refine g_lmul X dX5_rounded_70 ?_
      refine g_aload_n X 0 dX5_rounded_71 rfl rfl ?_
      refine g_iload X 7 dX5_rounded_72 rfl ?_
      refine g_callVI X (C := RX5) (T := TX5) (N := 23) (n := 1) [.int x9] [.long ((2 : Int64) * x7)] dX5_rounded_74 (c_X5_bitAt l D cA h) q860 q862 q43 q57 q863 (Nat.le_of_ble_eq_true rfl) rfl rfl ⟨rfl, by decide, by decide, by decide +kernel⟩ rfl rfl (Nat.le_of_ble_eq_true rfl) rfl rfl ⟨(Nat.le_of_ble_eq_true rfl), (Nat.le_of_ble_eq_true rfl)⟩ (Nat.le_of_ble_eq_true rfl) (Nat.le_of_ble_eq_true rfl) (fun r17 σ16 h => ?_)
      refine g_i2l X dX5_rounded_77 ?_
      refine g_ladd X dX5_rounded_78 ?_
      refine g_nameJ (fun y18 ey18 => ?_)
      have h := h y18 ey18
      refine g_lstore X [(7, .long y18), (0, .ref 0), (1, .int x1), (2, .int x2), (4, .int x4), (5, .int x5), (6, .int x6), (9, .int x9)] dX5_rounded_79 (Nat.le_of_ble_eq_true rfl) rfl ?_
      obtain ⟨y19, ey19⟩ : ∃ y : Int32, y = x9 + (-1 : Int32) := ⟨_, rfl⟩
      have h := h y19 ey19
      refine g_iinc X 7 (-1 : Int32) [(9, .int y19), (7, .long y18), (0, .ref 0), (1, .int x1), (2, .int x2), (4, .int x4), (5, .int x5), (6, .int x6)] dX5_rounded_81 rfl (by decide) (Nat.le_of_ble_eq_true rfl) (by rw [ey19]; rfl) ?_
      refine g_goto X 58 dX5_rounded_84 (by decide) ?_
      refine g_weak [2, 3, 4, 5, 6, 7, 1, 0] rfl ?_
      exact ih _ _ _ _ _ _ _ _ h
def w_X5_rounded_49 (Q : UInt64 → St → Prop) (x1 : Int32) (x2 : Int32) (x4 : Int32) (x5 : Int32) (s0 : Int32) (σ : St) : Prop := (∃ fu20 : Nat, w_X5_rounded_58 Q fu20 x1 x2 x4 x5 s0 (0 : Int64) x5 σ)
set_option maxRecDepth 100000 in
set_option maxHeartbeats 4000000 in
theorem b_X5_rounded_49 {p : Program} {l : Launch} {e : Env} {s : State} {m : MethodId} {args : Array Value} {below : List Frame} {meth : Method} {c : Code} {D : va_G} {cA : Nat → ClassId} {A : Nat → Prop} {ad0 : Nat → Nat} {Q : UInt64 → St → Prop} {x1 : Int32} {x2 : Int32} {x4 : Int32} {x5 : Int32} {s0 : Int32} {σ : St} (X : Cx p rmX5_rounded s m args meth c cX5_rounded 18 RX5 D cA A) (hr : meth.sig.returnType = some .double) (h : w_X5_rounded_49 Q x1 x2 x4 x5 s0 σ) : G p l e rmX5_rounded s m args below meth c 18 D cA A (MQ below (va_Qd Q (EndW D cA ad0 shR) A) args s 0 0 A) 0 0 (fun ad => ad = ad0) shR σ [(0, .ref 0), (1, .int x1), (2, .int x2), (4, .int x4), (5, .int x5)] 49 [.int s0] := by
  unfold w_X5_rounded_49 at h
  refine g_istore X [(6, .int s0), (0, .ref 0), (1, .int x1), (2, .int x2), (4, .int x4), (5, .int x5)] dX5_rounded_49 (Nat.le_of_ble_eq_true rfl) rfl ?_
  refine g_lconst X (0 : Int64) dX5_rounded_51 (by decide) ?_
  refine g_lstore X [(7, .long (0 : Int64)), (6, .int s0), (0, .ref 0), (1, .int x1), (2, .int x2), (4, .int x4), (5, .int x5)] dX5_rounded_52 (Nat.le_of_ble_eq_true rfl) rfl ?_
  refine g_iload X 6 dX5_rounded_54 rfl ?_
  refine g_istore X [(9, .int x5), (7, .long (0 : Int64)), (6, .int s0), (0, .ref 0), (1, .int x1), (2, .int x2), (4, .int x4), (5, .int x5)] dX5_rounded_56 (Nat.le_of_ble_eq_true rfl) rfl ?_
  refine g_weak [3, 4, 5, 6, 7, 2, 1, 0] rfl ?_
  obtain ⟨fu20, h⟩ := h
  exact b_X5_rounded_58 X hr fu20 _ _ _ _ _ _ _ _ h
def w_X5_rounded_21 (Q : UInt64 → St → Prop) (x1 : Int32) (x2 : Int32) (x3 : Int32) (x4 : Int32) (x5 : Int32) (σ : St) : Prop := ((((x5 - x2) + (1 : Int32)) ≤ (x3 + (2148 : Int32)) → (w_X5_rounded_49 Q x1 x2 x4 x5 (x3 + (2148 : Int32)) σ)) ∧ (¬ ((x5 - x2) + (1 : Int32)) ≤ (x3 + (2148 : Int32)) → (w_X5_rounded_49 Q x1 x2 x4 x5 ((x5 - x2) + (1 : Int32)) σ)))
set_option maxRecDepth 100000 in
set_option maxHeartbeats 4000000 in
theorem b_X5_rounded_21 {p : Program} {l : Launch} {e : Env} {s : State} {m : MethodId} {args : Array Value} {below : List Frame} {meth : Method} {c : Code} {D : va_G} {cA : Nat → ClassId} {A : Nat → Prop} {ad0 : Nat → Nat} {Q : UInt64 → St → Prop} {x1 : Int32} {x2 : Int32} {x3 : Int32} {x4 : Int32} {x5 : Int32} {σ : St} (X : Cx p rmX5_rounded s m args meth c cX5_rounded 18 RX5 D cA A) (hr : meth.sig.returnType = some .double) (h : w_X5_rounded_21 Q x1 x2 x3 x4 x5 σ) : G p l e rmX5_rounded s m args below meth c 18 D cA A (MQ below (va_Qd Q (EndW D cA ad0 shR) A) args s 0 0 A) 0 0 (fun ad => ad = ad0) shR σ [(0, .ref 0), (1, .int x1), (2, .int x2), (3, .int x3), (4, .int x4), (5, .int x5)] 21 [] := by
  unfold w_X5_rounded_21 at h
  refine g_iload X 5 dX5_rounded_21 rfl ?_
  refine g_iload_n X 2 dX5_rounded_23 rfl rfl ?_
  refine g_isub X dX5_rounded_24 ?_
  refine g_iconst X (1 : Int32) dX5_rounded_25 (by decide) ?_
  refine g_iadd X dX5_rounded_26 ?_
  refine g_iload_n X 3 dX5_rounded_27 rfl rfl ?_
  refine g_sipush X (2148 : Int32) dX5_rounded_28 (by decide) ?_
  refine g_iadd X dX5_rounded_31 ?_
  refine g_icmp_le X 44 dX5_rounded_32 (by decide) (fun hc => ?_) (fun hc => ?_)
  · have h := h.1 hc
    refine g_iload_n X 3 dX5_rounded_44 rfl rfl ?_
    refine g_sipush X (2148 : Int32) dX5_rounded_45 (by decide) ?_
    refine g_iadd X dX5_rounded_48 ?_
    refine g_weak [0, 1, 2, 4, 5] rfl ?_
    exact b_X5_rounded_49 X hr h
  · have h := h.2 hc
    refine g_iload X 5 dX5_rounded_35 rfl ?_
    refine g_iload_n X 2 dX5_rounded_37 rfl rfl ?_
    refine g_isub X dX5_rounded_38 ?_
    refine g_iconst X (1 : Int32) dX5_rounded_39 (by decide) ?_
    refine g_iadd X dX5_rounded_40 ?_
    refine g_goto X 49 dX5_rounded_41 (by decide) ?_
    refine g_weak [0, 1, 2, 4, 5] rfl ?_
    exact b_X5_rounded_49 X hr h
def w_X5_rounded (Q : UInt64 → St → Prop) (x1 : Int32) (x2 : Int32) (x3 : Int32) (x4 : Int32) (σ : St) : Prop := w_X5_highest (fun r2 σ1 => ((¬ r2 = (-1 : Int32) → (w_X5_rounded_21 Q x1 x2 x3 x4 r2 σ1)) ∧ (r2 = (-1 : Int32) → ((¬ (gI σ1 0 21) = 0 → (w_X5_rounded_21 Q x1 x2 x3 x4 r2 σ1)) ∧ ((gI σ1 0 21) = 0 → (Q FP.dconst0 σ1)))))) σ
set_option maxRecDepth 100000 in
set_option maxHeartbeats 4000000 in
theorem b_X5_rounded_0 {p : Program} {l : Launch} {e : Env} {s : State} {m : MethodId} {args : Array Value} {below : List Frame} {meth : Method} {c : Code} {D : va_G} {cA : Nat → ClassId} {A : Nat → Prop} {ad0 : Nat → Nat} {Q : UInt64 → St → Prop} {x1 : Int32} {x2 : Int32} {x3 : Int32} {x4 : Int32} {σ : St} (X : Cx p rmX5_rounded s m args meth c cX5_rounded 18 RX5 D cA A) (hr : meth.sig.returnType = some .double) (h : w_X5_rounded Q x1 x2 x3 x4 σ) : G p l e rmX5_rounded s m args below meth c 18 D cA A (MQ below (va_Qd Q (EndW D cA ad0 shR) A) args s 0 0 A) 0 0 (fun ad => ad = ad0) shR σ [(0, .ref 0), (1, .int x1), (2, .int x2), (3, .int x3), (4, .int x4)] 0 [] := by
  unfold w_X5_rounded at h
  refine g_aload_n X 0 dX5_rounded_0 rfl rfl ?_
  refine g_callVI X (C := RX5) (T := TX5) (N := 23) (n := 0) [] [] dX5_rounded_1 (c_X5_highest l D cA h) q856 q858 q42 q57 q859 (Nat.le_of_ble_eq_true rfl) rfl rfl ⟨rfl, by decide, by decide, by decide +kernel⟩ rfl rfl (Nat.le_of_ble_eq_true rfl) rfl rfl ⟨(Nat.le_of_ble_eq_true rfl), (Nat.le_of_ble_eq_true rfl)⟩ (Nat.le_of_ble_eq_true rfl) (Nat.le_of_ble_eq_true rfl) (fun r2 σ1 h => ?_)
  refine g_istore X [(5, .int r2), (0, .ref 0), (1, .int x1), (2, .int x2), (3, .int x3), (4, .int x4)] dX5_rounded_4 (Nat.le_of_ble_eq_true rfl) rfl ?_
  refine g_iload X 0 dX5_rounded_6 rfl ?_
  refine g_iconst X (-1 : Int32) dX5_rounded_8 (by decide) ?_
  refine g_icmp_ne X 21 dX5_rounded_9 (by decide) (fun hc => ?_) (fun hc => ?_)
  · have h := h.1 hc
    refine g_weak [1, 2, 3, 4, 5, 0] rfl ?_
    exact b_X5_rounded_21 X hr h
  · have h := h.2 hc
    refine g_aload_n X 1 dX5_rounded_12 rfl rfl ?_
    refine g_getI X (C := RX5) (T := TX5) (N := 23) 21 dX5_rounded_13 (Nat.le_of_ble_eq_true rfl) rfl rfl rfl inG5 (Nat.le_of_ble_eq_true rfl) rfl q590 ?_
    refine g_if_ne X 21 dX5_rounded_16 (by decide) (fun hc => ?_) (fun hc => ?_)
    · have h := h.1 hc
      refine g_weak [1, 2, 3, 4, 5, 0] rfl ?_
      exact b_X5_rounded_21 X hr h
    · have h := h.2 hc
      refine g_dconst0 X dX5_rounded_19 ?_
      exact g_dret X hr dX5_rounded_20 h
theorem c_X5_rounded (l : Launch) (D : va_G) (cA : Nat → ClassId) {x1 : Int32} {x2 : Int32} {x3 : Int32} {x4 : Int32} {σ : St} {Q : UInt64 → St → Prop} (h : w_X5_rounded Q x1 x2 x3 x4 σ) : CtD l yX5_rounded cX5_rounded 18 (some .double) rmX5_rounded D cA shR [.ref 0, .int x1, .int x2, .int x3, .int x4] σ Q := by
  refine CtD.of (own := RX5) rfl (by decide +kernel) [(0, .ref 0), (1, .int x1), (2, .int x2), (3, .int x3), (4, .int x4)] rfl (Nat.le_of_ble_eq_true rfl) ?_
  intro p e s m args below meth c ad0 A X hr
  exact b_X5_rounded_0 X hr  h
def rmX5_endlessBy : Room := { frames := 0, cells := 0, slots := 0, locals := 0 }
def w_X5_endlessBy (Q : UInt64 → St → Prop) (x1 : Int32) (σ : St) : Prop := ((¬ x1 = (1 : Int32) → ((¬ x1 = (2 : Int32) → (Q FP.dconst0 σ)) ∧ (x1 = (2 : Int32) → (Q (18442240474082181120 : UInt64) σ)))) ∧ (x1 = (1 : Int32) → (Q (9218868437227405312 : UInt64) σ)))
set_option maxRecDepth 100000 in
set_option maxHeartbeats 4000000 in
theorem b_X5_endlessBy_0 {p : Program} {l : Launch} {e : Env} {s : State} {m : MethodId} {args : Array Value} {below : List Frame} {meth : Method} {c : Code} {D : va_G} {cA : Nat → ClassId} {A : Nat → Prop} {ad0 : Nat → Nat} {Q : UInt64 → St → Prop} {x1 : Int32} {σ : St} (X : Cx p rmX5_endlessBy s m args meth c cX5_endlessBy 2 RX5 D cA A) (hr : meth.sig.returnType = some .double) (h : w_X5_endlessBy Q x1 σ) : G p l e rmX5_endlessBy s m args below meth c 2 D cA A (MQ below (va_Qd Q (EndW D cA ad0 shR) A) args s 0 0 A) 0 0 (fun ad => ad = ad0) shR σ [(0, .ref 0), (1, .int x1)] 0 [] := by
  unfold w_X5_endlessBy at h
  refine g_iload_n X 1 dX5_endlessBy_0 rfl rfl ?_
  refine g_iconst X (1 : Int32) dX5_endlessBy_1 (by decide) ?_
  refine g_icmp_ne X 11 dX5_endlessBy_2 (by decide) (fun hc => ?_) (fun hc => ?_)
  · have h := h.1 hc
    refine g_iload_n X 1 dX5_endlessBy_11 rfl rfl ?_
    refine g_iconst X (2 : Int32) dX5_endlessBy_12 (by decide) ?_
    refine g_icmp_ne X 22 dX5_endlessBy_13 (by decide) (fun hc => ?_) (fun hc => ?_)
    · have h := h.1 hc
      refine g_dconst0 X dX5_endlessBy_22 ?_
      exact g_dret X hr dX5_endlessBy_23 h
    · have h := h.2 hc
      refine g_ldc2d X q718 dX5_endlessBy_16 ?_
      refine g_goto X 23 dX5_endlessBy_19 (by decide) ?_
      exact g_dret X hr dX5_endlessBy_23 h
  · have h := h.2 hc
    refine g_ldc2d X q717 dX5_endlessBy_5 ?_
    refine g_goto X 23 dX5_endlessBy_8 (by decide) ?_
    exact g_dret X hr dX5_endlessBy_23 h
theorem c_X5_endlessBy (l : Launch) (D : va_G) (cA : Nat → ClassId) {x1 : Int32} {σ : St} {Q : UInt64 → St → Prop} (h : w_X5_endlessBy Q x1 σ) : CtD l yX5_endlessBy cX5_endlessBy 2 (some .double) rmX5_endlessBy D cA shR [.ref 0, .int x1] σ Q := by
  refine CtD.of (own := RX5) rfl (by decide +kernel) [(0, .ref 0), (1, .int x1)] rfl (Nat.le_of_ble_eq_true rfl) ?_
  intro p e s m args below meth c ad0 A X hr
  exact b_X5_endlessBy_0 X hr  h
def rmX5_tell : Room := { frames := 3, cells := 0, slots := 0, locals := 79 }
def w_X5_tell (Q : UInt64 → St → Prop) (x1 : Int32) (x2 : Int32) (x3 : Int32) (σ : St) : Prop := ∀ σ1 : St, σ1 = uI σ 0 0 (0 : Int32) → w_X5_isKeeper (fun r3 σ2 => ((r3 = 0 → (Q FP.dconst0 σ2)) ∧ (¬ r3 = 0 → w_X5_in (fun r5 σ4 => ((r5 = 0 → (Q FP.dconst0 σ4)) ∧ (¬ r5 = 0 → vp_in x1 7 ∧ ((¬ (gI σ4 6 (ix x1)) = (-1 : Int32) → w_X5_sortOf_ (fun r8 σ7 => ((r8 = 0 → w_X5_take (fun σ9 => ((x3 = 0 → w_X5_rounded (fun r11 σ10 => (Q r11 σ10)) x2 (53 : Int32) (-1074 : Int32) (1024 : Int32) σ9) ∧ (¬ x3 = 0 → w_X5_rounded (fun r13 σ12 => (Q r13 σ12)) x2 (24 : Int32) (-149 : Int32) (128 : Int32) σ9))) x1 σ7) ∧ (¬ r8 = 0 → w_X5_endlessBy (fun r15 σ14 => (Q r15 σ14)) r8 σ7))) x1 σ4) ∧ ((gI σ4 6 (ix x1)) = (-1 : Int32) → (Q FP.dconst0 σ4)))))) (x2.toInt64) (0 : Int64) (3 : Int64) σ2))) x1 σ1
set_option maxRecDepth 100000 in
set_option maxHeartbeats 4000000 in
theorem b_X5_tell_0 {p : Program} {l : Launch} {e : Env} {s : State} {m : MethodId} {args : Array Value} {below : List Frame} {meth : Method} {c : Code} {D : va_G} {cA : Nat → ClassId} {A : Nat → Prop} {ad0 : Nat → Nat} {Q : UInt64 → St → Prop} {x1 : Int32} {x2 : Int32} {x3 : Int32} {σ : St} (X : Cx p rmX5_tell s m args meth c cX5_tell 5 RX5 D cA A) (hr : meth.sig.returnType = some .double) (h : w_X5_tell Q x1 x2 x3 σ) : G p l e rmX5_tell s m args below meth c 5 D cA A (MQ below (va_Qd Q (EndW D cA ad0 shR) A) args s 0 0 A) 0 0 (fun ad => ad = ad0) shR σ [(0, .ref 0), (1, .int x1), (2, .int x2), (3, .int x3)] 0 [] := by
  unfold w_X5_tell at h
  refine g_aload_n X 0 dX5_tell_0 rfl rfl ?_
  refine g_iconst X (0 : Int32) dX5_tell_1 (by decide) ?_
  refine g_putI X (C := RX5) (T := TX5) (N := 23) (ty0 := tyX5) 0 dX5_tell_2 (Nat.le_of_ble_eq_true rfl) rfl rfl rfl inG5 tyX5_ok nmX5 (Nat.le_of_ble_eq_true rfl) rfl rfl q569 rfl rfl ?_
  refine g_nameS (fun σ1 eσ1 => ?_)
  have h := h σ1 eσ1
  refine g_iload_n X 1 dX5_tell_5 rfl rfl ?_
  refine g_callSI X (n := 1) [.int x1] [] dX5_tell_6 (c_X5_isKeeper l D cA shR h) q731 q732 q57 q733 ⟨by decide, by decide, by decide +kernel⟩ rfl rfl (Nat.le_of_ble_eq_true rfl) rfl rfl ⟨(Nat.le_of_ble_eq_true rfl), (Nat.le_of_ble_eq_true rfl)⟩ (Nat.le_of_ble_eq_true rfl) (Nat.le_of_ble_eq_true rfl) (fun r3 σ2 h => ?_)
  refine g_if_eq X 34 dX5_tell_9 (by decide) (fun hc => ?_) (fun hc => ?_)
  · have h := h.1 hc
    refine g_dconst0 X dX5_tell_34 ?_
    exact g_dret X hr dX5_tell_35 h
  · have h := h.2 hc
    refine g_iload_n X 2 dX5_tell_12 rfl rfl ?_
    refine g_i2l X dX5_tell_13 ?_
    refine g_lconst X (0 : Int64) dX5_tell_14 (by decide) ?_
    refine g_ldc2 X q704 dX5_tell_15 ?_
    refine g_callSI X (n := 3) [.long (x2.toInt64), .long (0 : Int64), .long (3 : Int64)] [] dX5_tell_18 (c_X5_in l D cA shR h) q648 q649 q57 q650 ⟨by decide, by decide, by decide +kernel⟩ rfl rfl (Nat.le_of_ble_eq_true rfl) rfl rfl ⟨(Nat.le_of_ble_eq_true rfl), (Nat.le_of_ble_eq_true rfl)⟩ (Nat.le_of_ble_eq_true rfl) (Nat.le_of_ble_eq_true rfl) (fun r5 σ4 h => ?_)
    refine g_if_eq X 34 dX5_tell_21 (by decide) (fun hc => ?_) (fun hc => ?_)
    · have h := h.1 hc
      refine g_dconst0 X dX5_tell_34 ?_
      exact g_dret X hr dX5_tell_35 h
    · have h := h.2 hc
      refine g_aload_n X 0 dX5_tell_24 rfl rfl ?_
      refine g_getR X (C := RX5) (T := TX5) (N := 23) 6 dX5_tell_25 (Nat.le_of_ble_eq_true rfl) rfl rfl rfl inG5 (Nat.le_of_ble_eq_true rfl) rfl rfl q575 ?_
      refine g_iload_n X 1 dX5_tell_28 rfl rfl ?_
      obtain ⟨hi6, h⟩ := h
      refine g_iald X dX5_tell_29 (Nat.le_of_ble_eq_true rfl) rfl hi6 ?_
      refine g_iconst X (-1 : Int32) dX5_tell_30 (by decide) ?_
      refine g_icmp_ne X 36 dX5_tell_31 (by decide) (fun hc => ?_) (fun hc => ?_)
      · have h := h.1 hc
        refine g_aload_n X 0 dX5_tell_36 rfl rfl ?_
        refine g_iload_n X 1 dX5_tell_37 rfl rfl ?_
        refine g_callVI X (C := RX5) (T := TX5) (N := 23) (n := 1) [.int x1] [] dX5_tell_38 (c_X5_sortOf_ l D cA h) q832 q834 q38 q57 q835 (Nat.le_of_ble_eq_true rfl) rfl rfl ⟨rfl, by decide, by decide, by decide +kernel⟩ rfl rfl (Nat.le_of_ble_eq_true rfl) rfl rfl ⟨(Nat.le_of_ble_eq_true rfl), (Nat.le_of_ble_eq_true rfl)⟩ (Nat.le_of_ble_eq_true rfl) (Nat.le_of_ble_eq_true rfl) (fun r8 σ7 h => ?_)
        refine g_istore X [(4, .int r8), (0, .ref 0), (1, .int x1), (2, .int x2), (3, .int x3)] dX5_tell_41 (Nat.le_of_ble_eq_true rfl) rfl ?_
        refine g_iload X 0 dX5_tell_43 rfl ?_
        refine g_if_eq X 55 dX5_tell_45 (by decide) (fun hc => ?_) (fun hc => ?_)
        · have h := h.1 hc
          refine g_aload_n X 1 dX5_tell_55 rfl rfl ?_
          refine g_iload_n X 2 dX5_tell_56 rfl rfl ?_
          refine g_callVV X (C := RX5) (T := TX5) (N := 23) (n := 1) [.int x1] [] dX5_tell_57 (c_X5_take l D cA h) q848 q850 q40 q57 q851 (Nat.le_of_ble_eq_true rfl) rfl rfl ⟨rfl, by decide, by decide, by decide +kernel⟩ rfl rfl (Nat.le_of_ble_eq_true rfl) rfl rfl ⟨(Nat.le_of_ble_eq_true rfl), (Nat.le_of_ble_eq_true rfl)⟩ (Nat.le_of_ble_eq_true rfl) (Nat.le_of_ble_eq_true rfl) (fun σ9 h => ?_)
          refine g_iload_n X 4 dX5_tell_60 rfl rfl ?_
          refine g_if_eq X 80 dX5_tell_61 (by decide) (fun hc => ?_) (fun hc => ?_)
          · have h := h.1 hc
            refine g_aload_n X 1 dX5_tell_80 rfl rfl ?_
            refine g_iload_n X 3 dX5_tell_81 rfl rfl ?_
            refine g_bipush X (53 : Int32) dX5_tell_82 (by decide) ?_
            refine g_sipush X (-1074 : Int32) dX5_tell_84 (by decide) ?_
            refine g_sipush X (1024 : Int32) dX5_tell_87 (by decide) ?_
            refine g_callVD X (C := RX5) (T := TX5) (N := 23) (n := 4) [.int x2, .int (53 : Int32), .int (-1074 : Int32), .int (1024 : Int32)] [] dX5_tell_90 (c_X5_rounded l D cA h) q852 q854 q41 q57 q855 (Nat.le_of_ble_eq_true rfl) rfl rfl ⟨rfl, by decide, by decide, by decide +kernel⟩ rfl rfl (Nat.le_of_ble_eq_true rfl) rfl rfl ⟨(Nat.le_of_ble_eq_true rfl), (Nat.le_of_ble_eq_true rfl)⟩ (Nat.le_of_ble_eq_true rfl) (Nat.le_of_ble_eq_true rfl) (fun r11 σ10 h => ?_)
            exact g_dret X hr dX5_tell_93 h
          · have h := h.2 hc
            refine g_aload_n X 1 dX5_tell_64 rfl rfl ?_
            refine g_iload_n X 3 dX5_tell_65 rfl rfl ?_
            refine g_bipush X (24 : Int32) dX5_tell_66 (by decide) ?_
            refine g_sipush X (-149 : Int32) dX5_tell_68 (by decide) ?_
            refine g_sipush X (128 : Int32) dX5_tell_71 (by decide) ?_
            refine g_callVD X (C := RX5) (T := TX5) (N := 23) (n := 4) [.int x2, .int (24 : Int32), .int (-149 : Int32), .int (128 : Int32)] [] dX5_tell_74 (c_X5_rounded l D cA h) q852 q854 q41 q57 q855 (Nat.le_of_ble_eq_true rfl) rfl rfl ⟨rfl, by decide, by decide, by decide +kernel⟩ rfl rfl (Nat.le_of_ble_eq_true rfl) rfl rfl ⟨(Nat.le_of_ble_eq_true rfl), (Nat.le_of_ble_eq_true rfl)⟩ (Nat.le_of_ble_eq_true rfl) (Nat.le_of_ble_eq_true rfl) (fun r13 σ12 h => ?_)
            refine g_goto X 93 dX5_tell_77 (by decide) ?_
            exact g_dret X hr dX5_tell_93 h
        · have h := h.2 hc
          refine g_aload_n X 1 dX5_tell_48 rfl rfl ?_
          refine g_iload X 0 dX5_tell_49 rfl ?_
          refine g_callVD X (C := RX5) (T := TX5) (N := 23) (n := 1) [.int r8] [] dX5_tell_51 (c_X5_endlessBy l D cA h) q844 q846 q39 q57 q847 (Nat.le_of_ble_eq_true rfl) rfl rfl ⟨rfl, by decide, by decide, by decide +kernel⟩ rfl rfl (Nat.le_of_ble_eq_true rfl) rfl rfl ⟨(Nat.le_of_ble_eq_true rfl), (Nat.le_of_ble_eq_true rfl)⟩ (Nat.le_of_ble_eq_true rfl) (Nat.le_of_ble_eq_true rfl) (fun r15 σ14 h => ?_)
          exact g_dret X hr dX5_tell_54 h
      · have h := h.2 hc
        refine g_dconst0 X dX5_tell_34 ?_
        exact g_dret X hr dX5_tell_35 h
theorem c_X5_tell (l : Launch) (D : va_G) (cA : Nat → ClassId) {x1 : Int32} {x2 : Int32} {x3 : Int32} {σ : St} {Q : UInt64 → St → Prop} (h : w_X5_tell Q x1 x2 x3 σ) : CtD l yX5_tell cX5_tell 5 (some .double) rmX5_tell D cA shR [.ref 0, .int x1, .int x2, .int x3] σ Q := by
  refine CtD.of (own := RX5) rfl (by decide +kernel) [(0, .ref 0), (1, .int x1), (2, .int x2), (3, .int x3)] rfl (Nat.le_of_ble_eq_true rfl) ?_
  intro p e s m args below meth c ad0 A X hr
  exact b_X5_tell_0 X hr  h
def rmX5_mean : Room := { frames := 3, cells := 0, slots := 0, locals := 79 }
def w_X5_mean_144 (Q : UInt64 → St → Prop) (x3 : Int32) (s0 : Int32) (σ : St) : Prop := bz s0 ∧ ∀ σ12 : St, σ12 = uI σ 0 21 s0 → w_X5_rounded (fun r14 σ13 => (Q r14 σ13)) x3 (53 : Int32) (-1074 : Int32) (1024 : Int32) σ12
set_option maxRecDepth 100000 in
set_option maxHeartbeats 4000000 in
theorem b_X5_mean_144 {p : Program} {l : Launch} {e : Env} {s : State} {m : MethodId} {args : Array Value} {below : List Frame} {meth : Method} {c : Code} {D : va_G} {cA : Nat → ClassId} {A : Nat → Prop} {ad0 : Nat → Nat} {Q : UInt64 → St → Prop} {x3 : Int32} {s0 : Int32} {σ : St} (X : Cx p rmX5_mean s m args meth c cX5_mean 10 RX5 D cA A) (hr : meth.sig.returnType = some .double) (h : w_X5_mean_144 Q x3 s0 σ) : G p l e rmX5_mean s m args below meth c 10 D cA A (MQ below (va_Qd Q (EndW D cA ad0 shR) A) args s 0 0 A) 0 0 (fun ad => ad = ad0) shR σ [(0, .ref 0), (3, .int x3)] 144 [.int s0, .ref 0] := by
  unfold w_X5_mean_144 at h
  obtain ⟨hc, h⟩ := h
  refine g_putI X (C := RX5) (T := TX5) (N := 23) (ty0 := tyX5) 21 dX5_mean_144 (Nat.le_of_ble_eq_true rfl) rfl rfl rfl inG5 tyX5_ok nmX5 (Nat.le_of_ble_eq_true rfl) rfl rfl q590 (bz_narrow hc) (bz_fits hc) ?_
  refine g_nameS (fun σ12 eσ12 => ?_)
  have h := h σ12 eσ12
  refine g_aload_n X 0 dX5_mean_147 rfl rfl ?_
  refine g_iload_n X 1 dX5_mean_148 rfl rfl ?_
  refine g_bipush X (53 : Int32) dX5_mean_149 (by decide) ?_
  refine g_sipush X (-1074 : Int32) dX5_mean_151 (by decide) ?_
  refine g_sipush X (1024 : Int32) dX5_mean_154 (by decide) ?_
  refine g_callVD X (C := RX5) (T := TX5) (N := 23) (n := 4) [.int x3, .int (53 : Int32), .int (-1074 : Int32), .int (1024 : Int32)] [] dX5_mean_157 (c_X5_rounded l D cA h) q852 q854 q41 q57 q855 (Nat.le_of_ble_eq_true rfl) rfl rfl ⟨rfl, by decide, by decide, by decide +kernel⟩ rfl rfl (Nat.le_of_ble_eq_true rfl) rfl rfl ⟨(Nat.le_of_ble_eq_true rfl), (Nat.le_of_ble_eq_true rfl)⟩ (Nat.le_of_ble_eq_true rfl) (Nat.le_of_ble_eq_true rfl) (fun r14 σ13 h => ?_)
  exact g_dret X hr dX5_mean_160 h
def w_X5_mean_80 (Q : UInt64 → St → Prop) : Nat → Int32 → Int32 → Int64 → Int32 → St → Prop
  | 0, _, _, _, _, _ => False
  | n + 1, x2, x3, x5, x7, σ => ((x7 < 0 → ((x5 = (0 : Int64) → (w_X5_mean_144 Q x3 (0 : Int32) σ)) ∧ (¬ x5 = (0 : Int64) → (w_X5_mean_144 Q x3 (1 : Int32) σ)))) ∧ (¬ x7 < 0 → vp_in x7 152 ∧ ∀ y16 : Int64, y16 = ((lshlF x5 (32 : Int32)) ||| (((gI σ 13 (ix x7)).toInt64) &&& (4294967295 : Int64))) → ¬ (x2.toInt64) = 0 ∧ vp_in x7 152 ∧ ∀ σ18 : St, σ18 = uI σ 13 (ix x7) ((y16 / (x2.toInt64)).toInt32) → ¬ (x2.toInt64) = 0 ∧ ∀ y19 : Int64, y19 = (y16 - y16 / (x2.toInt64) * (x2.toInt64)) → ∀ y20 : Int32, y20 = x7 + (-1 : Int32) → (w_X5_mean_80 Q n x2 x3 y19 y20 σ18)))
set_option maxRecDepth 100000 in
set_option maxHeartbeats 4000000 in
theorem b_X5_mean_80 {p : Program} {l : Launch} {e : Env} {s : State} {m : MethodId} {args : Array Value} {below : List Frame} {meth : Method} {c : Code} {D : va_G} {cA : Nat → ClassId} {A : Nat → Prop} {ad0 : Nat → Nat} {Q : UInt64 → St → Prop} (X : Cx p rmX5_mean s m args meth c cX5_mean 10 RX5 D cA A) (hr : meth.sig.returnType = some .double) : ∀ (n : Nat) (x2 : Int32) (x3 : Int32) (x5 : Int64) (x7 : Int32) (σ : St), w_X5_mean_80 Q n x2 x3 x5 x7 σ → G p l e rmX5_mean s m args below meth c 10 D cA A (MQ below (va_Qd Q (EndW D cA ad0 shR) A) args s 0 0 A) 0 0 (fun ad => ad = ad0) shR σ [(0, .ref 0), (2, .int x2), (3, .int x3), (5, .long x5), (7, .int x7)] 80 [] := by
  intro n
  induction n with
  | zero => intro x2 x3 x5 x7 σ h; exact h.elim
  | succ n ih =>
    intro x2 x3 x5 x7 σ h
    rw [w_X5_mean_80] at h
    refine g_iload X 4 dX5_mean_80 rfl ?_
    refine g_if_lt X 131 dX5_mean_82 (by decide) (fun hc => ?_) (fun hc => ?_)
    · have h := h.1 hc
      refine g_aload_n X 0 dX5_mean_131 rfl rfl ?_
      refine g_lload X 3 dX5_mean_132 rfl ?_
      refine g_lconst X (0 : Int64) dX5_mean_134 (by decide) ?_
      refine g_lcmp X dX5_mean_135 ?_
      refine g_if_eq X 143 dX5_mean_136 (by decide) (fun hc => ?_) (fun hc => ?_)
      · have h := h.1 (lgc_eq.mp hc)
        refine g_iconst X (0 : Int32) dX5_mean_143 (by decide) ?_
        refine g_weak [0, 2] rfl ?_
        exact b_X5_mean_144 X hr h
      · have h := h.2 (fun z => hc (lgc_eq.mpr z))
        refine g_iconst X (1 : Int32) dX5_mean_139 (by decide) ?_
        refine g_goto X 144 dX5_mean_140 (by decide) ?_
        refine g_weak [0, 2] rfl ?_
        exact b_X5_mean_144 X hr h
    · have h := h.2 hc
      refine g_lload X 3 dX5_mean_85 rfl ?_
      refine g_bipush X (32 : Int32) dX5_mean_87 (by decide) ?_
      refine g_lshl X dX5_mean_89 ?_
      refine g_aload_n X 0 dX5_mean_90 rfl rfl ?_
      refine g_getR X (C := RX5) (T := TX5) (N := 23) 19 dX5_mean_91 (Nat.le_of_ble_eq_true rfl) rfl rfl rfl inG5 (Nat.le_of_ble_eq_true rfl) rfl rfl q588 ?_
      refine g_iload X 4 dX5_mean_94 rfl ?_
      obtain ⟨hi15, h⟩ := h
      refine g_iald X dX5_mean_96 (Nat.le_of_ble_eq_true rfl) rfl hi15 ?_
      refine g_i2l X dX5_mean_97 ?_
      refine g_ldc2 X q795 dX5_mean_98 ?_
      refine g_land X dX5_mean_101 ?_
      refine g_lor X dX5_mean_102 ?_
      refine g_nameJ (fun y16 ey16 => ?_)
      have h := h y16 ey16
      refine g_lstore X [(8, .long y16), (0, .ref 0), (2, .int x2), (3, .int x3), (5, .long x5), (7, .int x7)] dX5_mean_103 (Nat.le_of_ble_eq_true rfl) rfl ?_
      refine g_aload_n X 1 dX5_mean_105 rfl rfl ?_
      refine g_getR X (C := RX5) (T := TX5) (N := 23) 19 dX5_mean_106 (Nat.le_of_ble_eq_true rfl) rfl rfl rfl inG5 (Nat.le_of_ble_eq_true rfl) rfl rfl q588 ?_
      refine g_iload X 5 dX5_mean_109 rfl ?_
      refine g_lload X 0 dX5_mean_111 rfl ?_
      refine g_iload_n X 2 dX5_mean_113 rfl rfl ?_
      refine g_i2l X dX5_mean_114 ?_
      obtain ⟨hc, h⟩ := h
      refine g_ldiv X dX5_mean_115 hc ?_
      refine g_l2i X dX5_mean_116 ?_
      obtain ⟨hi17, h⟩ := h
      refine g_iast X dX5_mean_117 (Nat.le_of_ble_eq_true rfl) rfl hi17 ?_
      refine g_nameS (fun σ18 eσ18 => ?_)
      have h := h σ18 eσ18
      refine g_lload X 0 dX5_mean_118 rfl ?_
      refine g_iload_n X 2 dX5_mean_120 rfl rfl ?_
      refine g_i2l X dX5_mean_121 ?_
      obtain ⟨hc, h⟩ := h
      refine g_lrem X dX5_mean_122 hc ?_
      refine g_nameJ (fun y19 ey19 => ?_)
      have h := h y19 ey19
      refine g_lstore X [(5, .long y19), (8, .long y16), (0, .ref 0), (2, .int x2), (3, .int x3), (7, .int x7)] dX5_mean_123 (Nat.le_of_ble_eq_true rfl) rfl ?_
      obtain ⟨y20, ey20⟩ : ∃ y : Int32, y = x7 + (-1 : Int32) := ⟨_, rfl⟩
      have h := h y20 ey20
      refine g_iinc X 5 (-1 : Int32) [(7, .int y20), (5, .long y19), (8, .long y16), (0, .ref 0), (2, .int x2), (3, .int x3)] dX5_mean_125 rfl (by decide) (Nat.le_of_ble_eq_true rfl) (by rw [ey20]; rfl) ?_
      refine g_goto X 80 dX5_mean_128 (by decide) ?_
      refine g_weak [3, 4, 5, 1, 0] rfl ?_
      exact ih _ _ _ _ _ h
def w_X5_mean (Q : UInt64 → St → Prop) (x1 : Int32) (x2 : Int32) (x3 : Int32) (σ : St) : Prop := ∀ σ1 : St, σ1 = uI σ 0 0 (0 : Int32) → w_X5_isKeeper (fun r3 σ2 => ((r3 = 0 → (Q FP.dconst0 σ2)) ∧ (¬ r3 = 0 → w_X5_in (fun r5 σ4 => ((r5 = 0 → (Q FP.dconst0 σ4)) ∧ (¬ r5 = 0 → vp_in x1 7 ∧ (((gI σ4 6 (ix x1)) = (-1 : Int32) → (Q FP.dconst0 σ4)) ∧ (¬ (gI σ4 6 (ix x1)) = (-1 : Int32) → w_X5_in (fun r8 σ7 => ((¬ r8 = 0 → w_X5_sortOf_ (fun r10 σ9 => ((r10 = 0 → w_X5_take (fun σ11 => (∃ fu21 : Nat, w_X5_mean_80 Q fu21 x2 x3 (0 : Int64) (151 : Int32) σ11)) x1 σ9) ∧ (¬ r10 = 0 → w_X5_endlessBy (fun r23 σ22 => (Q r23 σ22)) r10 σ9))) x1 σ7) ∧ (r8 = 0 → (Q FP.dconst0 σ7)))) (x2.toInt64) (1 : Int64) (1000000 : Int64) σ4))))) (x3.toInt64) (0 : Int64) (3 : Int64) σ2))) x1 σ1
set_option maxRecDepth 100000 in
set_option maxHeartbeats 4000000 in
theorem b_X5_mean_0 {p : Program} {l : Launch} {e : Env} {s : State} {m : MethodId} {args : Array Value} {below : List Frame} {meth : Method} {c : Code} {D : va_G} {cA : Nat → ClassId} {A : Nat → Prop} {ad0 : Nat → Nat} {Q : UInt64 → St → Prop} {x1 : Int32} {x2 : Int32} {x3 : Int32} {σ : St} (X : Cx p rmX5_mean s m args meth c cX5_mean 10 RX5 D cA A) (hr : meth.sig.returnType = some .double) (h : w_X5_mean Q x1 x2 x3 σ) : G p l e rmX5_mean s m args below meth c 10 D cA A (MQ below (va_Qd Q (EndW D cA ad0 shR) A) args s 0 0 A) 0 0 (fun ad => ad = ad0) shR σ [(0, .ref 0), (1, .int x1), (2, .int x2), (3, .int x3)] 0 [] := by
  unfold w_X5_mean at h
  refine g_aload_n X 0 dX5_mean_0 rfl rfl ?_
  refine g_iconst X (0 : Int32) dX5_mean_1 (by decide) ?_
  refine g_putI X (C := RX5) (T := TX5) (N := 23) (ty0 := tyX5) 0 dX5_mean_2 (Nat.le_of_ble_eq_true rfl) rfl rfl rfl inG5 tyX5_ok nmX5 (Nat.le_of_ble_eq_true rfl) rfl rfl q569 rfl rfl ?_
  refine g_nameS (fun σ1 eσ1 => ?_)
  have h := h σ1 eσ1
  refine g_iload_n X 1 dX5_mean_5 rfl rfl ?_
  refine g_callSI X (n := 1) [.int x1] [] dX5_mean_6 (c_X5_isKeeper l D cA shR h) q731 q732 q57 q733 ⟨by decide, by decide, by decide +kernel⟩ rfl rfl (Nat.le_of_ble_eq_true rfl) rfl rfl ⟨(Nat.le_of_ble_eq_true rfl), (Nat.le_of_ble_eq_true rfl)⟩ (Nat.le_of_ble_eq_true rfl) (Nat.le_of_ble_eq_true rfl) (fun r3 σ2 h => ?_)
  refine g_if_eq X 46 dX5_mean_9 (by decide) (fun hc => ?_) (fun hc => ?_)
  · have h := h.1 hc
    refine g_dconst0 X dX5_mean_46 ?_
    exact g_dret X hr dX5_mean_47 h
  · have h := h.2 hc
    refine g_iload_n X 3 dX5_mean_12 rfl rfl ?_
    refine g_i2l X dX5_mean_13 ?_
    refine g_lconst X (0 : Int64) dX5_mean_14 (by decide) ?_
    refine g_ldc2 X q704 dX5_mean_15 ?_
    refine g_callSI X (n := 3) [.long (x3.toInt64), .long (0 : Int64), .long (3 : Int64)] [] dX5_mean_18 (c_X5_in l D cA shR h) q648 q649 q57 q650 ⟨by decide, by decide, by decide +kernel⟩ rfl rfl (Nat.le_of_ble_eq_true rfl) rfl rfl ⟨(Nat.le_of_ble_eq_true rfl), (Nat.le_of_ble_eq_true rfl)⟩ (Nat.le_of_ble_eq_true rfl) (Nat.le_of_ble_eq_true rfl) (fun r5 σ4 h => ?_)
    refine g_if_eq X 46 dX5_mean_21 (by decide) (fun hc => ?_) (fun hc => ?_)
    · have h := h.1 hc
      refine g_dconst0 X dX5_mean_46 ?_
      exact g_dret X hr dX5_mean_47 h
    · have h := h.2 hc
      refine g_aload_n X 0 dX5_mean_24 rfl rfl ?_
      refine g_getR X (C := RX5) (T := TX5) (N := 23) 6 dX5_mean_25 (Nat.le_of_ble_eq_true rfl) rfl rfl rfl inG5 (Nat.le_of_ble_eq_true rfl) rfl rfl q575 ?_
      refine g_iload_n X 1 dX5_mean_28 rfl rfl ?_
      obtain ⟨hi6, h⟩ := h
      refine g_iald X dX5_mean_29 (Nat.le_of_ble_eq_true rfl) rfl hi6 ?_
      refine g_iconst X (-1 : Int32) dX5_mean_30 (by decide) ?_
      refine g_icmp_eq X 46 dX5_mean_31 (by decide) (fun hc => ?_) (fun hc => ?_)
      · have h := h.1 hc
        refine g_dconst0 X dX5_mean_46 ?_
        exact g_dret X hr dX5_mean_47 h
      · have h := h.2 hc
        refine g_iload_n X 2 dX5_mean_34 rfl rfl ?_
        refine g_i2l X dX5_mean_35 ?_
        refine g_lconst X (1 : Int64) dX5_mean_36 (by decide) ?_
        refine g_ldc2 X q868 dX5_mean_37 ?_
        refine g_callSI X (n := 3) [.long (x2.toInt64), .long (1 : Int64), .long (1000000 : Int64)] [] dX5_mean_40 (c_X5_in l D cA shR h) q648 q649 q57 q650 ⟨by decide, by decide, by decide +kernel⟩ rfl rfl (Nat.le_of_ble_eq_true rfl) rfl rfl ⟨(Nat.le_of_ble_eq_true rfl), (Nat.le_of_ble_eq_true rfl)⟩ (Nat.le_of_ble_eq_true rfl) (Nat.le_of_ble_eq_true rfl) (fun r8 σ7 h => ?_)
        refine g_if_ne X 48 dX5_mean_43 (by decide) (fun hc => ?_) (fun hc => ?_)
        · have h := h.1 hc
          refine g_aload_n X 0 dX5_mean_48 rfl rfl ?_
          refine g_iload_n X 1 dX5_mean_49 rfl rfl ?_
          refine g_callVI X (C := RX5) (T := TX5) (N := 23) (n := 1) [.int x1] [] dX5_mean_50 (c_X5_sortOf_ l D cA h) q832 q834 q38 q57 q835 (Nat.le_of_ble_eq_true rfl) rfl rfl ⟨rfl, by decide, by decide, by decide +kernel⟩ rfl rfl (Nat.le_of_ble_eq_true rfl) rfl rfl ⟨(Nat.le_of_ble_eq_true rfl), (Nat.le_of_ble_eq_true rfl)⟩ (Nat.le_of_ble_eq_true rfl) (Nat.le_of_ble_eq_true rfl) (fun r10 σ9 h => ?_)
          refine g_istore X [(4, .int r10), (0, .ref 0), (1, .int x1), (2, .int x2), (3, .int x3)] dX5_mean_53 (Nat.le_of_ble_eq_true rfl) rfl ?_
          refine g_iload X 0 dX5_mean_55 rfl ?_
          refine g_if_eq X 67 dX5_mean_57 (by decide) (fun hc => ?_) (fun hc => ?_)
          · have h := h.1 hc
            refine g_aload_n X 1 dX5_mean_67 rfl rfl ?_
            refine g_iload_n X 2 dX5_mean_68 rfl rfl ?_
            refine g_callVV X (C := RX5) (T := TX5) (N := 23) (n := 1) [.int x1] [] dX5_mean_69 (c_X5_take l D cA h) q848 q850 q40 q57 q851 (Nat.le_of_ble_eq_true rfl) rfl rfl ⟨rfl, by decide, by decide, by decide +kernel⟩ rfl rfl (Nat.le_of_ble_eq_true rfl) rfl rfl ⟨(Nat.le_of_ble_eq_true rfl), (Nat.le_of_ble_eq_true rfl)⟩ (Nat.le_of_ble_eq_true rfl) (Nat.le_of_ble_eq_true rfl) (fun σ11 h => ?_)
            refine g_lconst X (0 : Int64) dX5_mean_72 (by decide) ?_
            refine g_lstore X [(5, .long (0 : Int64)), (4, .int r10), (0, .ref 0), (1, .int x1), (2, .int x2), (3, .int x3)] dX5_mean_73 (Nat.le_of_ble_eq_true rfl) rfl ?_
            refine g_sipush X (151 : Int32) dX5_mean_75 (by decide) ?_
            refine g_istore X [(7, .int (151 : Int32)), (5, .long (0 : Int64)), (4, .int r10), (0, .ref 0), (1, .int x1), (2, .int x2), (3, .int x3)] dX5_mean_78 (Nat.le_of_ble_eq_true rfl) rfl ?_
            refine g_weak [3, 5, 6, 1, 0] rfl ?_
            obtain ⟨fu21, h⟩ := h
            exact b_X5_mean_80 X hr fu21 _ _ _ _ _ h
          · have h := h.2 hc
            refine g_aload_n X 1 dX5_mean_60 rfl rfl ?_
            refine g_iload X 0 dX5_mean_61 rfl ?_
            refine g_callVD X (C := RX5) (T := TX5) (N := 23) (n := 1) [.int r10] [] dX5_mean_63 (c_X5_endlessBy l D cA h) q844 q846 q39 q57 q847 (Nat.le_of_ble_eq_true rfl) rfl rfl ⟨rfl, by decide, by decide, by decide +kernel⟩ rfl rfl (Nat.le_of_ble_eq_true rfl) rfl rfl ⟨(Nat.le_of_ble_eq_true rfl), (Nat.le_of_ble_eq_true rfl)⟩ (Nat.le_of_ble_eq_true rfl) (Nat.le_of_ble_eq_true rfl) (fun r23 σ22 h => ?_)
            exact g_dret X hr dX5_mean_66 h
        · have h := h.2 hc
          refine g_dconst0 X dX5_mean_46 ?_
          exact g_dret X hr dX5_mean_47 h
theorem c_X5_mean (l : Launch) (D : va_G) (cA : Nat → ClassId) {x1 : Int32} {x2 : Int32} {x3 : Int32} {σ : St} {Q : UInt64 → St → Prop} (h : w_X5_mean Q x1 x2 x3 σ) : CtD l yX5_mean cX5_mean 10 (some .double) rmX5_mean D cA shR [.ref 0, .int x1, .int x2, .int x3] σ Q := by
  refine CtD.of (own := RX5) rfl (by decide +kernel) [(0, .ref 0), (1, .int x1), (2, .int x2), (3, .int x3)] rfl (Nat.le_of_ble_eq_true rfl) ?_
  intro p e s m args below meth c ad0 A X hr
  exact b_X5_mean_0 X hr  h
def rmX5_compareSquare : Room := { frames := 1, cells := 0, slots := 0, locals := 39 }
def w_X5_compareSquare_180 (Q : Int32 → St → Prop) : Nat → Int32 → St → Prop
  | 0, _, _ => False
  | n + 1, x11, σ => ((x11 < 0 → (Q (0 : Int32) σ)) ∧ (¬ x11 < 0 → vp_in x11 152 ∧ vp_in x11 152 ∧ (((gI σ 14 (ix x11)) = (gI σ 13 (ix x11)) → ∀ y9 : Int32, y9 = x11 + (-1 : Int32) → (w_X5_compareSquare_180 Q n y9 σ)) ∧ (¬ (gI σ 14 (ix x11)) = (gI σ 13 (ix x11)) → vp_in x11 152 ∧ vp_in x11 152 ∧ (((((gI σ 13 (ix x11)).toInt64) &&& (4294967295 : Int64)) ≤ (((gI σ 14 (ix x11)).toInt64) &&& (4294967295 : Int64)) → (Q (1 : Int32) σ)) ∧ (¬ (((gI σ 13 (ix x11)).toInt64) &&& (4294967295 : Int64)) ≤ (((gI σ 14 (ix x11)).toInt64) &&& (4294967295 : Int64)) → (Q (-1 : Int32) σ)))))))
set_option maxRecDepth 100000 in
set_option maxHeartbeats 4000000 in
theorem b_X5_compareSquare_180 {p : Program} {l : Launch} {e : Env} {s : State} {m : MethodId} {args : Array Value} {below : List Frame} {meth : Method} {c : Code} {D : va_G} {cA : Nat → ClassId} {A : Nat → Prop} {ad0 : Nat → Nat} {Q : Int32 → St → Prop} (X : Cx p rmX5_compareSquare s m args meth c cX5_compareSquare 17 RX5 D cA A) (hr : meth.sig.returnType = some .int) : ∀ (n : Nat) (x11 : Int32) (σ : St), w_X5_compareSquare_180 Q n x11 σ → G p l e rmX5_compareSquare s m args below meth c 17 D cA A (MQ below (va_Qi Q (EndW D cA ad0 shR) A) args s 0 0 A) 0 0 (fun ad => ad = ad0) shR σ [(0, .ref 0), (11, .int x11)] 180 [] := by
  intro n
  induction n with
  | zero => intro x11 σ h; exact h.elim
  | succ n ih =>
    intro x11 σ h
    rw [w_X5_compareSquare_180] at h
    refine g_iload X 1 dX5_compareSquare_180 rfl ?_
    refine g_if_lt X 242 dX5_compareSquare_182 (by decide) (fun hc => ?_) (fun hc => ?_)
    · have h := h.1 hc
      refine g_iconst X (0 : Int32) dX5_compareSquare_242 (by decide) ?_
      exact g_iret X hr dX5_compareSquare_243 rfl h
    · have h := h.2 hc
      refine g_aload_n X 0 dX5_compareSquare_185 rfl rfl ?_
      refine g_getR X (C := RX5) (T := TX5) (N := 23) 22 dX5_compareSquare_186 (Nat.le_of_ble_eq_true rfl) rfl rfl rfl inG5 (Nat.le_of_ble_eq_true rfl) rfl rfl q591 ?_
      refine g_iload X 1 dX5_compareSquare_189 rfl ?_
      obtain ⟨hi7, h⟩ := h
      refine g_iald X dX5_compareSquare_191 (Nat.le_of_ble_eq_true rfl) rfl hi7 ?_
      refine g_aload_n X 0 dX5_compareSquare_192 rfl rfl ?_
      refine g_getR X (C := RX5) (T := TX5) (N := 23) 19 dX5_compareSquare_193 (Nat.le_of_ble_eq_true rfl) rfl rfl rfl inG5 (Nat.le_of_ble_eq_true rfl) rfl rfl q588 ?_
      refine g_iload X 1 dX5_compareSquare_196 rfl ?_
      obtain ⟨hi8, h⟩ := h
      refine g_iald X dX5_compareSquare_198 (Nat.le_of_ble_eq_true rfl) rfl hi8 ?_
      refine g_icmp_eq X 236 dX5_compareSquare_199 (by decide) (fun hc => ?_) (fun hc => ?_)
      · have h := h.1 hc
        obtain ⟨y9, ey9⟩ : ∃ y : Int32, y = x11 + (-1 : Int32) := ⟨_, rfl⟩
        have h := h y9 ey9
        refine g_iinc X 1 (-1 : Int32) [(11, .int y9), (0, .ref 0)] dX5_compareSquare_236 rfl (by decide) (Nat.le_of_ble_eq_true rfl) (by rw [ey9]; rfl) ?_
        refine g_goto X 180 dX5_compareSquare_239 (by decide) ?_
        refine g_weak [1, 0] rfl ?_
        exact ih _ _ h
      · have h := h.2 hc
        refine g_aload_n X 0 dX5_compareSquare_202 rfl rfl ?_
        refine g_getR X (C := RX5) (T := TX5) (N := 23) 22 dX5_compareSquare_203 (Nat.le_of_ble_eq_true rfl) rfl rfl rfl inG5 (Nat.le_of_ble_eq_true rfl) rfl rfl q591 ?_
        refine g_iload X 1 dX5_compareSquare_206 rfl ?_
        obtain ⟨hi10, h⟩ := h
        refine g_iald X dX5_compareSquare_208 (Nat.le_of_ble_eq_true rfl) rfl hi10 ?_
        refine g_i2l X dX5_compareSquare_209 ?_
        refine g_ldc2 X q795 dX5_compareSquare_210 ?_
        refine g_land X dX5_compareSquare_213 ?_
        refine g_aload_n X 0 dX5_compareSquare_214 rfl rfl ?_
        refine g_getR X (C := RX5) (T := TX5) (N := 23) 19 dX5_compareSquare_215 (Nat.le_of_ble_eq_true rfl) rfl rfl rfl inG5 (Nat.le_of_ble_eq_true rfl) rfl rfl q588 ?_
        refine g_iload X 1 dX5_compareSquare_218 rfl ?_
        obtain ⟨hi11, h⟩ := h
        refine g_iald X dX5_compareSquare_220 (Nat.le_of_ble_eq_true rfl) rfl hi11 ?_
        refine g_i2l X dX5_compareSquare_221 ?_
        refine g_ldc2 X q795 dX5_compareSquare_222 ?_
        refine g_land X dX5_compareSquare_225 ?_
        refine g_lcmp X dX5_compareSquare_226 ?_
        refine g_if_ge X 234 dX5_compareSquare_227 (by decide) (fun hc => ?_) (fun hc => ?_)
        · have h := h.1 (lgc_ge.mp hc)
          refine g_iconst X (1 : Int32) dX5_compareSquare_234 (by decide) ?_
          exact g_iret X hr dX5_compareSquare_235 rfl h
        · have h := h.2 (fun z => hc (lgc_ge.mpr z))
          refine g_iconst X (-1 : Int32) dX5_compareSquare_230 (by decide) ?_
          refine g_goto X 235 dX5_compareSquare_231 (by decide) ?_
          exact g_iret X hr dX5_compareSquare_235 rfl h
def w_X5_compareSquare_142 (K81 : Int32 → Int64 → Int64 → Int32 → Int32 → Int32 → St → Prop) (Q : Int32 → St → Prop) (x6 : Int32) (x7 : Int64) (x9 : Int64) (x11 : Int32) (x12 : Int32) (x13 : Int32) (s0 : Int64) (σ : St) : Prop := ∀ y17 : Int32, y17 = ((x12 <<< ((1 : Int32) &&& 31)) ||| (s0.toInt32)) → ∀ y18 : Int32, y18 = x13 + (-1 : Int32) → (K81 x6 x7 x9 x11 y17 y18 σ)
set_option maxRecDepth 100000 in
set_option maxHeartbeats 4000000 in
theorem b_X5_compareSquare_142 {p : Program} {l : Launch} {e : Env} {s : State} {m : MethodId} {args : Array Value} {below : List Frame} {meth : Method} {c : Code} {D : va_G} {cA : Nat → ClassId} {A : Nat → Prop} {ad0 : Nat → Nat} {K81 : Int32 → Int64 → Int64 → Int32 → Int32 → Int32 → St → Prop} {Q : Int32 → St → Prop} {x6 : Int32} {x7 : Int64} {x9 : Int64} {x11 : Int32} {x12 : Int32} {x13 : Int32} {s0 : Int64} {σ : St} (X : Cx p rmX5_compareSquare s m args meth c cX5_compareSquare 17 RX5 D cA A) (hr : meth.sig.returnType = some .int) (hK81 : ∀ (x6 : Int32) (x7 : Int64) (x9 : Int64) (x11 : Int32) (x12 : Int32) (x13 : Int32) (σ : St), K81 x6 x7 x9 x11 x12 x13 σ → G p l e rmX5_compareSquare s m args below meth c 17 D cA A (MQ below (va_Qi Q (EndW D cA ad0 shR) A) args s 0 0 A) 0 0 (fun ad => ad = ad0) shR σ [(0, .ref 0), (6, .int x6), (7, .long x7), (9, .long x9), (11, .int x11), (12, .int x12), (13, .int x13)] 81 []) (h : w_X5_compareSquare_142 K81 Q x6 x7 x9 x11 x12 x13 s0 σ) : G p l e rmX5_compareSquare s m args below meth c 17 D cA A (MQ below (va_Qi Q (EndW D cA ad0 shR) A) args s 0 0 A) 0 0 (fun ad => ad = ad0) shR σ [(0, .ref 0), (6, .int x6), (7, .long x7), (9, .long x9), (11, .int x11), (12, .int x12), (13, .int x13)] 142 [.long s0] := by
  unfold w_X5_compareSquare_142 at h
  refine g_lstore X [(15, .long s0), (0, .ref 0), (6, .int x6), (7, .long x7), (9, .long x9), (11, .int x11), (12, .int x12), (13, .int x13)] dX5_compareSquare_142 (Nat.le_of_ble_eq_true rfl) rfl ?_
  refine g_iload X 6 dX5_compareSquare_144 rfl ?_
  refine g_iconst X (1 : Int32) dX5_compareSquare_146 (by decide) ?_
  refine g_ishl X dX5_compareSquare_147 ?_
  refine g_lload X 0 dX5_compareSquare_148 rfl ?_
  refine g_l2i X dX5_compareSquare_150 ?_
  refine g_ior X dX5_compareSquare_151 ?_
  refine g_nameI (fun y17 ey17 => ?_)
  have h := h y17 ey17
  refine g_istore X [(12, .int y17), (15, .long s0), (0, .ref 0), (6, .int x6), (7, .long x7), (9, .long x9), (11, .int x11), (13, .int x13)] dX5_compareSquare_152 (Nat.le_of_ble_eq_true rfl) rfl ?_
  obtain ⟨y18, ey18⟩ : ∃ y : Int32, y = x13 + (-1 : Int32) := ⟨_, rfl⟩
  have h := h y18 ey18
  refine g_iinc X 7 (-1 : Int32) [(13, .int y18), (12, .int y17), (15, .long s0), (0, .ref 0), (6, .int x6), (7, .long x7), (9, .long x9), (11, .int x11)] dX5_compareSquare_154 rfl (by decide) (Nat.le_of_ble_eq_true rfl) (by rw [ey18]; rfl) ?_
  refine g_goto X 81 dX5_compareSquare_157 (by decide) ?_
  refine g_weak [3, 4, 5, 6, 7, 1, 0] rfl ?_
  exact hK81 _ _ _ _ _ _ _ h
def w_X5_compareSquare_111 (K81 : Int32 → Int64 → Int64 → Int32 → Int32 → Int32 → St → Prop) (Q : Int32 → St → Prop) (x6 : Int32) (x7 : Int64) (x9 : Int64) (x11 : Int32) (x12 : Int32) (x13 : Int32) (σ : St) : Prop := (w_X5_compareSquare_142 (K81) Q x6 x7 x9 x11 x12 x13 (0 : Int64) σ)
set_option maxRecDepth 100000 in
set_option maxHeartbeats 4000000 in
theorem b_X5_compareSquare_111 {p : Program} {l : Launch} {e : Env} {s : State} {m : MethodId} {args : Array Value} {below : List Frame} {meth : Method} {c : Code} {D : va_G} {cA : Nat → ClassId} {A : Nat → Prop} {ad0 : Nat → Nat} {K81 : Int32 → Int64 → Int64 → Int32 → Int32 → Int32 → St → Prop} {Q : Int32 → St → Prop} {x6 : Int32} {x7 : Int64} {x9 : Int64} {x11 : Int32} {x12 : Int32} {x13 : Int32} {σ : St} (X : Cx p rmX5_compareSquare s m args meth c cX5_compareSquare 17 RX5 D cA A) (hr : meth.sig.returnType = some .int) (hK81 : ∀ (x6 : Int32) (x7 : Int64) (x9 : Int64) (x11 : Int32) (x12 : Int32) (x13 : Int32) (σ : St), K81 x6 x7 x9 x11 x12 x13 σ → G p l e rmX5_compareSquare s m args below meth c 17 D cA A (MQ below (va_Qi Q (EndW D cA ad0 shR) A) args s 0 0 A) 0 0 (fun ad => ad = ad0) shR σ [(0, .ref 0), (6, .int x6), (7, .long x7), (9, .long x9), (11, .int x11), (12, .int x12), (13, .int x13)] 81 []) (h : w_X5_compareSquare_111 K81 Q x6 x7 x9 x11 x12 x13 σ) : G p l e rmX5_compareSquare s m args below meth c 17 D cA A (MQ below (va_Qi Q (EndW D cA ad0 shR) A) args s 0 0 A) 0 0 (fun ad => ad = ad0) shR σ [(0, .ref 0), (6, .int x6), (7, .long x7), (9, .long x9), (11, .int x11), (12, .int x12), (13, .int x13)] 111 [] := by
  unfold w_X5_compareSquare_111 at h
  refine g_lconst X (0 : Int64) dX5_compareSquare_111 (by decide) ?_
  refine g_goto X 142 dX5_compareSquare_112 (by decide) ?_
  exact b_X5_compareSquare_142 X hr (hK81) h
def w_X5_compareSquare_81 (K69 : Int32 → Int64 → Int64 → Int32 → St → Prop) (Q : Int32 → St → Prop) : Nat → Int32 → Int64 → Int64 → Int32 → Int32 → Int32 → St → Prop
  | 0, _, _, _, _, _, _, _ => False
  | n + 1, x6, x7, x9, x11, x12, x13, σ => ((x13 < 0 → vp_in x11 152 ∧ ∀ σ14 : St, σ14 = uI σ 14 (ix x11) x12 → ∀ y15 : Int32, y15 = x11 + (-1 : Int32) → (K69 x6 x7 x9 y15 σ14)) ∧ (¬ x13 < 0 → ∀ y16 : Int32, y16 = ((((32 : Int32) * x11) + x13) - x6) → ((y16 < 0 → (w_X5_compareSquare_111 (fun x6 x7 x9 x11 x12 x13 σ => w_X5_compareSquare_81 K69 Q n x6 x7 x9 x11 x12 x13 σ) Q x6 x7 x9 x11 x12 x13 σ)) ∧ (¬ y16 < 0 → ((y16 ≤ (127 : Int32) → (((64 : Int32) ≤ y16 → (w_X5_compareSquare_142 (fun x6 x7 x9 x11 x12 x13 σ => w_X5_compareSquare_81 K69 Q n x6 x7 x9 x11 x12 x13 σ) Q x6 x7 x9 x11 x12 x13 ((lushrF x7 (y16 - (64 : Int32))) &&& (1 : Int64)) σ)) ∧ (¬ (64 : Int32) ≤ y16 → (w_X5_compareSquare_142 (fun x6 x7 x9 x11 x12 x13 σ => w_X5_compareSquare_81 K69 Q n x6 x7 x9 x11 x12 x13 σ) Q x6 x7 x9 x11 x12 x13 ((lushrF x9 y16) &&& (1 : Int64)) σ)))) ∧ (¬ y16 ≤ (127 : Int32) → (w_X5_compareSquare_111 (fun x6 x7 x9 x11 x12 x13 σ => w_X5_compareSquare_81 K69 Q n x6 x7 x9 x11 x12 x13 σ) Q x6 x7 x9 x11 x12 x13 σ)))))))
set_option maxRecDepth 100000 in
set_option maxHeartbeats 4000000 in
theorem b_X5_compareSquare_81 {p : Program} {l : Launch} {e : Env} {s : State} {m : MethodId} {args : Array Value} {below : List Frame} {meth : Method} {c : Code} {D : va_G} {cA : Nat → ClassId} {A : Nat → Prop} {ad0 : Nat → Nat} {K69 : Int32 → Int64 → Int64 → Int32 → St → Prop} {Q : Int32 → St → Prop} (X : Cx p rmX5_compareSquare s m args meth c cX5_compareSquare 17 RX5 D cA A) (hr : meth.sig.returnType = some .int) (hK69 : ∀ (x6 : Int32) (x7 : Int64) (x9 : Int64) (x11 : Int32) (σ : St), K69 x6 x7 x9 x11 σ → G p l e rmX5_compareSquare s m args below meth c 17 D cA A (MQ below (va_Qi Q (EndW D cA ad0 shR) A) args s 0 0 A) 0 0 (fun ad => ad = ad0) shR σ [(0, .ref 0), (6, .int x6), (7, .long x7), (9, .long x9), (11, .int x11)] 69 []) : ∀ (n : Nat) (x6 : Int32) (x7 : Int64) (x9 : Int64) (x11 : Int32) (x12 : Int32) (x13 : Int32) (σ : St), w_X5_compareSquare_81 K69 Q n x6 x7 x9 x11 x12 x13 σ → G p l e rmX5_compareSquare s m args below meth c 17 D cA A (MQ below (va_Qi Q (EndW D cA ad0 shR) A) args s 0 0 A) 0 0 (fun ad => ad = ad0) shR σ [(0, .ref 0), (6, .int x6), (7, .long x7), (9, .long x9), (11, .int x11), (12, .int x12), (13, .int x13)] 81 [] := by
  intro n
  induction n with
  | zero => intro x6 x7 x9 x11 x12 x13 σ h; exact h.elim
  | succ n ih =>
    intro x6 x7 x9 x11 x12 x13 σ h
    rw [w_X5_compareSquare_81] at h
    refine g_iload X 6 dX5_compareSquare_81 rfl ?_
    refine g_if_lt X 160 dX5_compareSquare_83 (by decide) (fun hc => ?_) (fun hc => ?_)
    · have h := h.1 hc
      refine g_aload_n X 0 dX5_compareSquare_160 rfl rfl ?_
      refine g_getR X (C := RX5) (T := TX5) (N := 23) 22 dX5_compareSquare_161 (Nat.le_of_ble_eq_true rfl) rfl rfl rfl inG5 (Nat.le_of_ble_eq_true rfl) rfl rfl q591 ?_
      refine g_iload X 4 dX5_compareSquare_164 rfl ?_
      refine g_iload X 5 dX5_compareSquare_166 rfl ?_
      obtain ⟨hi13, h⟩ := h
      refine g_iast X dX5_compareSquare_168 (Nat.le_of_ble_eq_true rfl) rfl hi13 ?_
      refine g_nameS (fun σ14 eσ14 => ?_)
      have h := h σ14 eσ14
      obtain ⟨y15, ey15⟩ : ∃ y : Int32, y = x11 + (-1 : Int32) := ⟨_, rfl⟩
      have h := h y15 ey15
      refine g_iinc X 4 (-1 : Int32) [(11, .int y15), (0, .ref 0), (6, .int x6), (7, .long x7), (9, .long x9), (12, .int x12), (13, .int x13)] dX5_compareSquare_169 rfl (by decide) (Nat.le_of_ble_eq_true rfl) (by rw [ey15]; rfl) ?_
      refine g_goto X 69 dX5_compareSquare_172 (by decide) ?_
      refine g_weak [1, 2, 3, 4, 0] rfl ?_
      exact hK69 _ _ _ _ _ h
    · have h := h.2 hc
      refine g_bipush X (32 : Int32) dX5_compareSquare_86 (by decide) ?_
      refine g_iload X 4 dX5_compareSquare_88 rfl ?_
      refine g_imul X dX5_compareSquare_90 ?_
      refine g_iload X 6 dX5_compareSquare_91 rfl ?_
      refine g_iadd X dX5_compareSquare_93 ?_
      refine g_iload X 1 dX5_compareSquare_94 rfl ?_
      refine g_isub X dX5_compareSquare_96 ?_
      refine g_nameI (fun y16 ey16 => ?_)
      have h := h y16 ey16
      refine g_istore X [(14, .int y16), (0, .ref 0), (6, .int x6), (7, .long x7), (9, .long x9), (11, .int x11), (12, .int x12), (13, .int x13)] dX5_compareSquare_97 (Nat.le_of_ble_eq_true rfl) rfl ?_
      refine g_iload X 0 dX5_compareSquare_99 rfl ?_
      refine g_if_lt X 111 dX5_compareSquare_101 (by decide) (fun hc => ?_) (fun hc => ?_)
      · have h := h.1 hc
        refine g_weak [1, 2, 3, 4, 5, 6, 7] rfl ?_
        exact b_X5_compareSquare_111 X hr (ih) h
      · have h := h.2 hc
        refine g_iload X 0 dX5_compareSquare_104 rfl ?_
        refine g_bipush X (127 : Int32) dX5_compareSquare_106 (by decide) ?_
        refine g_icmp_le X 115 dX5_compareSquare_108 (by decide) (fun hc => ?_) (fun hc => ?_)
        · have h := h.1 hc
          refine g_iload X 0 dX5_compareSquare_115 rfl ?_
          refine g_bipush X (64 : Int32) dX5_compareSquare_117 (by decide) ?_
          refine g_icmp_ge X 132 dX5_compareSquare_119 (by decide) (fun hc => ?_) (fun hc => ?_)
          · have h := h.1 hc
            refine g_lload X 3 dX5_compareSquare_132 rfl ?_
            refine g_iload X 0 dX5_compareSquare_134 rfl ?_
            refine g_bipush X (64 : Int32) dX5_compareSquare_136 (by decide) ?_
            refine g_isub X dX5_compareSquare_138 ?_
            refine g_lushr X dX5_compareSquare_139 ?_
            refine g_lconst X (1 : Int64) dX5_compareSquare_140 (by decide) ?_
            refine g_land X dX5_compareSquare_141 ?_
            refine g_weak [1, 2, 3, 4, 5, 6, 7] rfl ?_
            exact b_X5_compareSquare_142 X hr (ih) h
          · have h := h.2 hc
            refine g_lload X 4 dX5_compareSquare_122 rfl ?_
            refine g_iload X 0 dX5_compareSquare_124 rfl ?_
            refine g_lushr X dX5_compareSquare_126 ?_
            refine g_lconst X (1 : Int64) dX5_compareSquare_127 (by decide) ?_
            refine g_land X dX5_compareSquare_128 ?_
            refine g_goto X 142 dX5_compareSquare_129 (by decide) ?_
            refine g_weak [1, 2, 3, 4, 5, 6, 7] rfl ?_
            exact b_X5_compareSquare_142 X hr (ih) h
        · have h := h.2 hc
          refine g_weak [1, 2, 3, 4, 5, 6, 7] rfl ?_
          exact b_X5_compareSquare_111 X hr (ih) h
def w_X5_compareSquare_69 (Q : Int32 → St → Prop) : Nat → Int32 → Int64 → Int64 → Int32 → St → Prop
  | 0, _, _, _, _, _ => False
  | n + 1, x6, x7, x9, x11, σ => ((x11 < 0 → (∃ fu12 : Nat, w_X5_compareSquare_180 Q fu12 (151 : Int32) σ)) ∧ (¬ x11 < 0 → (∃ fu19 : Nat, w_X5_compareSquare_81 (fun x6 x7 x9 x11 σ => w_X5_compareSquare_69 Q n x6 x7 x9 x11 σ) Q fu19 x6 x7 x9 x11 (0 : Int32) (31 : Int32) σ)))
set_option maxRecDepth 100000 in
set_option maxHeartbeats 4000000 in
theorem b_X5_compareSquare_69 {p : Program} {l : Launch} {e : Env} {s : State} {m : MethodId} {args : Array Value} {below : List Frame} {meth : Method} {c : Code} {D : va_G} {cA : Nat → ClassId} {A : Nat → Prop} {ad0 : Nat → Nat} {Q : Int32 → St → Prop} (X : Cx p rmX5_compareSquare s m args meth c cX5_compareSquare 17 RX5 D cA A) (hr : meth.sig.returnType = some .int) : ∀ (n : Nat) (x6 : Int32) (x7 : Int64) (x9 : Int64) (x11 : Int32) (σ : St), w_X5_compareSquare_69 Q n x6 x7 x9 x11 σ → G p l e rmX5_compareSquare s m args below meth c 17 D cA A (MQ below (va_Qi Q (EndW D cA ad0 shR) A) args s 0 0 A) 0 0 (fun ad => ad = ad0) shR σ [(0, .ref 0), (6, .int x6), (7, .long x7), (9, .long x9), (11, .int x11)] 69 [] := by
  intro n
  induction n with
  | zero => intro x6 x7 x9 x11 σ h; exact h.elim
  | succ n ih =>
    intro x6 x7 x9 x11 σ h
    rw [w_X5_compareSquare_69] at h
    refine g_iload X 4 dX5_compareSquare_69 rfl ?_
    refine g_if_lt X 175 dX5_compareSquare_71 (by decide) (fun hc => ?_) (fun hc => ?_)
    · have h := h.1 hc
      refine g_sipush X (151 : Int32) dX5_compareSquare_175 (by decide) ?_
      refine g_istore X [(11, .int (151 : Int32)), (0, .ref 0), (6, .int x6), (7, .long x7), (9, .long x9)] dX5_compareSquare_178 (Nat.le_of_ble_eq_true rfl) rfl ?_
      refine g_weak [1, 0] rfl ?_
      obtain ⟨fu12, h⟩ := h
      exact b_X5_compareSquare_180 X hr fu12 _ _ h
    · have h := h.2 hc
      refine g_iconst X (0 : Int32) dX5_compareSquare_74 (by decide) ?_
      refine g_istore X [(12, .int (0 : Int32)), (0, .ref 0), (6, .int x6), (7, .long x7), (9, .long x9), (11, .int x11)] dX5_compareSquare_75 (Nat.le_of_ble_eq_true rfl) rfl ?_
      refine g_bipush X (31 : Int32) dX5_compareSquare_77 (by decide) ?_
      refine g_istore X [(13, .int (31 : Int32)), (12, .int (0 : Int32)), (0, .ref 0), (6, .int x6), (7, .long x7), (9, .long x9), (11, .int x11)] dX5_compareSquare_79 (Nat.le_of_ble_eq_true rfl) rfl ?_
      refine g_weak [2, 3, 4, 5, 6, 1, 0] rfl ?_
      obtain ⟨fu19, h⟩ := h
      exact b_X5_compareSquare_81 X hr (ih) fu19 _ _ _ _ _ _ _ h
def w_X5_compareSquare_41 (Q : Int32 → St → Prop) (x4 : Int64) (s0 : Int32) (s1 : Int32) (σ : St) : Prop := ∀ y3 : Int32, y3 = ((s1 * s0) + (2148 : Int32)) → w_J9_multiplyHigh_f86c9 (fun r5 σ4 => ∀ y6 : Int64, y6 = (x4 * x4) → (∃ fu20 : Nat, w_X5_compareSquare_69 Q fu20 y3 r5 y6 (151 : Int32) σ4)) x4 x4 σ
set_option maxRecDepth 100000 in
set_option maxHeartbeats 4000000 in
theorem b_X5_compareSquare_41 {p : Program} {l : Launch} {e : Env} {s : State} {m : MethodId} {args : Array Value} {below : List Frame} {meth : Method} {c : Code} {D : va_G} {cA : Nat → ClassId} {A : Nat → Prop} {ad0 : Nat → Nat} {Q : Int32 → St → Prop} {x4 : Int64} {s0 : Int32} {s1 : Int32} {σ : St} (X : Cx p rmX5_compareSquare s m args meth c cX5_compareSquare 17 RX5 D cA A) (hr : meth.sig.returnType = some .int) (h : w_X5_compareSquare_41 Q x4 s0 s1 σ) : G p l e rmX5_compareSquare s m args below meth c 17 D cA A (MQ below (va_Qi Q (EndW D cA ad0 shR) A) args s 0 0 A) 0 0 (fun ad => ad = ad0) shR σ [(0, .ref 0), (4, .long x4)] 41 [.int s0, .int s1] := by
  unfold w_X5_compareSquare_41 at h
  refine g_imul X dX5_compareSquare_41 ?_
  refine g_sipush X (2148 : Int32) dX5_compareSquare_42 (by decide) ?_
  refine g_iadd X dX5_compareSquare_45 ?_
  refine g_nameI (fun y3 ey3 => ?_)
  have h := h y3 ey3
  refine g_istore X [(6, .int y3), (0, .ref 0), (4, .long x4)] dX5_compareSquare_46 (Nat.le_of_ble_eq_true rfl) rfl ?_
  refine g_lload X 2 dX5_compareSquare_48 rfl ?_
  refine g_lload X 2 dX5_compareSquare_50 rfl ?_
  refine g_callSL X (n := 2) [.long x4, .long x4] [] dX5_compareSquare_52 (c_J9_multiplyHigh_f86c9 l D cA shR h) q786 q787 q53 q788 ⟨by decide, by decide, by decide +kernel⟩ rfl rfl (Nat.le_of_ble_eq_true rfl) rfl rfl ⟨(Nat.le_of_ble_eq_true rfl), (Nat.le_of_ble_eq_true rfl)⟩ (Nat.le_of_ble_eq_true rfl) (Nat.le_of_ble_eq_true rfl) (fun r5 σ4 h => ?_)
  refine g_lstore X [(7, .long r5), (6, .int y3), (0, .ref 0), (4, .long x4)] dX5_compareSquare_55 (Nat.le_of_ble_eq_true rfl) rfl ?_
  refine g_lload X 3 dX5_compareSquare_57 rfl ?_
  refine g_lload X 3 dX5_compareSquare_59 rfl ?_
  refine g_lmul X dX5_compareSquare_61 ?_
  refine g_nameJ (fun y6 ey6 => ?_)
  have h := h y6 ey6
  refine g_lstore X [(9, .long y6), (7, .long r5), (6, .int y3), (0, .ref 0), (4, .long x4)] dX5_compareSquare_62 (Nat.le_of_ble_eq_true rfl) rfl ?_
  refine g_sipush X (151 : Int32) dX5_compareSquare_64 (by decide) ?_
  refine g_istore X [(11, .int (151 : Int32)), (9, .long y6), (7, .long r5), (6, .int y3), (0, .ref 0), (4, .long x4)] dX5_compareSquare_67 (Nat.le_of_ble_eq_true rfl) rfl ?_
  refine g_weak [4, 3, 2, 1, 0] rfl ?_
  obtain ⟨fu20, h⟩ := h
  exact b_X5_compareSquare_69 X hr fu20 _ _ _ _ _ h
def w_X5_compareSquare_22 (Q : Int32 → St → Prop) (x3 : Int32) (s0 : Int64) (s1 : Int64) (σ : St) : Prop := ∀ y2 : Int64, y2 = (s1 ||| s0) → ((x3 ≤ 0 → (w_X5_compareSquare_41 Q y2 (-1074 : Int32) (2 : Int32) σ)) ∧ (¬ x3 ≤ 0 → (w_X5_compareSquare_41 Q y2 (x3 - (1075 : Int32)) (2 : Int32) σ)))
set_option maxRecDepth 100000 in
set_option maxHeartbeats 4000000 in
theorem b_X5_compareSquare_22 {p : Program} {l : Launch} {e : Env} {s : State} {m : MethodId} {args : Array Value} {below : List Frame} {meth : Method} {c : Code} {D : va_G} {cA : Nat → ClassId} {A : Nat → Prop} {ad0 : Nat → Nat} {Q : Int32 → St → Prop} {x3 : Int32} {s0 : Int64} {s1 : Int64} {σ : St} (X : Cx p rmX5_compareSquare s m args meth c cX5_compareSquare 17 RX5 D cA A) (hr : meth.sig.returnType = some .int) (h : w_X5_compareSquare_22 Q x3 s0 s1 σ) : G p l e rmX5_compareSquare s m args below meth c 17 D cA A (MQ below (va_Qi Q (EndW D cA ad0 shR) A) args s 0 0 A) 0 0 (fun ad => ad = ad0) shR σ [(0, .ref 0), (3, .int x3)] 22 [.long s0, .long s1] := by
  unfold w_X5_compareSquare_22 at h
  refine g_lor X dX5_compareSquare_22 ?_
  refine g_nameJ (fun y2 ey2 => ?_)
  have h := h y2 ey2
  refine g_lstore X [(4, .long y2), (0, .ref 0), (3, .int x3)] dX5_compareSquare_23 (Nat.le_of_ble_eq_true rfl) rfl ?_
  refine g_iconst X (2 : Int32) dX5_compareSquare_25 (by decide) ?_
  refine g_iload_n X 2 dX5_compareSquare_26 rfl rfl ?_
  refine g_if_le X 38 dX5_compareSquare_27 (by decide) (fun hc => ?_) (fun hc => ?_)
  · have h := h.1 hc
    refine g_sipush X (-1074 : Int32) dX5_compareSquare_38 (by decide) ?_
    refine g_weak [1, 0] rfl ?_
    exact b_X5_compareSquare_41 X hr h
  · have h := h.2 hc
    refine g_iload_n X 2 dX5_compareSquare_30 rfl rfl ?_
    refine g_sipush X (1075 : Int32) dX5_compareSquare_31 (by decide) ?_
    refine g_isub X dX5_compareSquare_34 ?_
    refine g_goto X 41 dX5_compareSquare_35 (by decide) ?_
    refine g_weak [1, 0] rfl ?_
    exact b_X5_compareSquare_41 X hr h
def w_X5_compareSquare (Q : Int32 → St → Prop) (x1 : Int64) (σ : St) : Prop := ∀ y1 : Int32, y1 = ((lshrF x1 (52 : Int32)).toInt32) → ((y1 ≤ 0 → (w_X5_compareSquare_22 Q y1 (0 : Int64) (x1 &&& (4503599627370495 : Int64)) σ)) ∧ (¬ y1 ≤ 0 → (w_X5_compareSquare_22 Q y1 (4503599627370496 : Int64) (x1 &&& (4503599627370495 : Int64)) σ)))
set_option maxRecDepth 100000 in
set_option maxHeartbeats 4000000 in
theorem b_X5_compareSquare_0 {p : Program} {l : Launch} {e : Env} {s : State} {m : MethodId} {args : Array Value} {below : List Frame} {meth : Method} {c : Code} {D : va_G} {cA : Nat → ClassId} {A : Nat → Prop} {ad0 : Nat → Nat} {Q : Int32 → St → Prop} {x1 : Int64} {σ : St} (X : Cx p rmX5_compareSquare s m args meth c cX5_compareSquare 17 RX5 D cA A) (hr : meth.sig.returnType = some .int) (h : w_X5_compareSquare Q x1 σ) : G p l e rmX5_compareSquare s m args below meth c 17 D cA A (MQ below (va_Qi Q (EndW D cA ad0 shR) A) args s 0 0 A) 0 0 (fun ad => ad = ad0) shR σ [(0, .ref 0), (1, .long x1)] 0 [] := by
  unfold w_X5_compareSquare at h
  refine g_lload_n X 1 dX5_compareSquare_0 rfl rfl ?_
  refine g_bipush X (52 : Int32) dX5_compareSquare_1 (by decide) ?_
  refine g_lshr X dX5_compareSquare_3 ?_
  refine g_l2i X dX5_compareSquare_4 ?_
  refine g_nameI (fun y1 ey1 => ?_)
  have h := h y1 ey1
  refine g_istore_n X [(3, .int y1), (0, .ref 0), (1, .long x1)] dX5_compareSquare_5 rfl (Nat.le_of_ble_eq_true rfl) rfl ?_
  refine g_lload_n X 2 dX5_compareSquare_6 rfl rfl ?_
  refine g_ldc2 X q878 dX5_compareSquare_7 ?_
  refine g_land X dX5_compareSquare_10 ?_
  refine g_iload_n X 0 dX5_compareSquare_11 rfl rfl ?_
  refine g_if_le X 21 dX5_compareSquare_12 (by decide) (fun hc => ?_) (fun hc => ?_)
  · have h := h.1 hc
    refine g_lconst X (0 : Int64) dX5_compareSquare_21 (by decide) ?_
    refine g_weak [1, 0] rfl ?_
    exact b_X5_compareSquare_22 X hr h
  · have h := h.2 hc
    refine g_ldc2 X q879 dX5_compareSquare_15 ?_
    refine g_goto X 22 dX5_compareSquare_18 (by decide) ?_
    refine g_weak [1, 0] rfl ?_
    exact b_X5_compareSquare_22 X hr h
theorem c_X5_compareSquare (l : Launch) (D : va_G) (cA : Nat → ClassId) {x1 : Int64} {σ : St} {Q : Int32 → St → Prop} (h : w_X5_compareSquare Q x1 σ) : CtI l yX5_compareSquare cX5_compareSquare 17 (some .int) rmX5_compareSquare D cA shR [.ref 0, .long x1] σ Q := by
  refine CtI.of (own := RX5) rfl (by decide +kernel) [(0, .ref 0), (1, .long x1)] rfl (Nat.le_of_ble_eq_true rfl) ?_
  intro p e s m args below meth c ad0 A X hr
  exact b_X5_compareSquare_0 X hr  h
def rmX5_doubleOf : Room := { frames := 1, cells := 0, slots := 0, locals := 25 }
def w_X5_doubleOf (Q : UInt64 → St → Prop) (x1 : Int64) (σ : St) : Prop := ∀ y1 : Int32, y1 = ((lshrF x1 (52 : Int32)).toInt32) → ∀ y2 : Int64, y2 = (x1 &&& (4503599627370495 : Int64)) → ((¬ y1 = 0 → w_X5_made (fun r4 σ3 => (Q r4 σ3)) (y2 + (4503599627370496 : Int64)) (y1 - (1075 : Int32)) σ) ∧ (y1 = 0 → w_X5_made (fun r6 σ5 => (Q r6 σ5)) y2 (-1074 : Int32) σ))
set_option maxRecDepth 100000 in
set_option maxHeartbeats 4000000 in
theorem b_X5_doubleOf_0 {p : Program} {l : Launch} {e : Env} {s : State} {m : MethodId} {args : Array Value} {below : List Frame} {meth : Method} {c : Code} {D : va_G} {cA : Nat → ClassId} {A : Nat → Prop} {ad0 : Nat → Nat} {Q : UInt64 → St → Prop} {x1 : Int64} {σ : St} (X : Cx p rmX5_doubleOf s m args meth c cX5_doubleOf 6 RX5 D cA A) (hr : meth.sig.returnType = some .double) (h : w_X5_doubleOf Q x1 σ) : G p l e rmX5_doubleOf s m args below meth c 6 D cA A (MQ below (va_Qd Q (EndW D cA ad0 shR) A) args s 0 0 A) 0 0 (fun ad => ad = ad0) shR σ [(0, .ref 0), (1, .long x1)] 0 [] := by
  unfold w_X5_doubleOf at h
  refine g_lload_n X 1 dX5_doubleOf_0 rfl rfl ?_
  refine g_bipush X (52 : Int32) dX5_doubleOf_1 (by decide) ?_
  refine g_lshr X dX5_doubleOf_3 ?_
  refine g_l2i X dX5_doubleOf_4 ?_
  refine g_nameI (fun y1 ey1 => ?_)
  have h := h y1 ey1
  refine g_istore_n X [(3, .int y1), (0, .ref 0), (1, .long x1)] dX5_doubleOf_5 rfl (Nat.le_of_ble_eq_true rfl) rfl ?_
  refine g_lload_n X 2 dX5_doubleOf_6 rfl rfl ?_
  refine g_ldc2 X q878 dX5_doubleOf_7 ?_
  refine g_land X dX5_doubleOf_10 ?_
  refine g_nameJ (fun y2 ey2 => ?_)
  have h := h y2 ey2
  refine g_lstore X [(4, .long y2), (3, .int y1), (0, .ref 0), (1, .long x1)] dX5_doubleOf_11 (Nat.le_of_ble_eq_true rfl) rfl ?_
  refine g_iload_n X 1 dX5_doubleOf_13 rfl rfl ?_
  refine g_if_ne X 28 dX5_doubleOf_14 (by decide) (fun hc => ?_) (fun hc => ?_)
  · have h := h.1 hc
    refine g_lload X 0 dX5_doubleOf_28 rfl ?_
    refine g_ldc2 X q879 dX5_doubleOf_30 ?_
    refine g_ladd X dX5_doubleOf_33 ?_
    refine g_iload_n X 1 dX5_doubleOf_34 rfl rfl ?_
    refine g_sipush X (1075 : Int32) dX5_doubleOf_35 (by decide) ?_
    refine g_isub X dX5_doubleOf_38 ?_
    refine g_callSD X (n := 2) [.long (y2 + (4503599627370496 : Int64)), .int (y1 - (1075 : Int32))] [] dX5_doubleOf_39 (c_X5_made l D cA shR h) q672 q673 q57 q674 ⟨by decide, by decide, by decide +kernel⟩ rfl rfl (Nat.le_of_ble_eq_true rfl) rfl rfl ⟨(Nat.le_of_ble_eq_true rfl), (Nat.le_of_ble_eq_true rfl)⟩ (Nat.le_of_ble_eq_true rfl) (Nat.le_of_ble_eq_true rfl) (fun r4 σ3 h => ?_)
    exact g_dret X hr dX5_doubleOf_42 h
  · have h := h.2 hc
    refine g_lload X 0 dX5_doubleOf_17 rfl ?_
    refine g_sipush X (-1074 : Int32) dX5_doubleOf_19 (by decide) ?_
    refine g_callSD X (n := 2) [.long y2, .int (-1074 : Int32)] [] dX5_doubleOf_22 (c_X5_made l D cA shR h) q672 q673 q57 q674 ⟨by decide, by decide, by decide +kernel⟩ rfl rfl (Nat.le_of_ble_eq_true rfl) rfl rfl ⟨(Nat.le_of_ble_eq_true rfl), (Nat.le_of_ble_eq_true rfl)⟩ (Nat.le_of_ble_eq_true rfl) (Nat.le_of_ble_eq_true rfl) (fun r6 σ5 h => ?_)
    refine g_goto X 42 dX5_doubleOf_25 (by decide) ?_
    exact g_dret X hr dX5_doubleOf_42 h
theorem c_X5_doubleOf (l : Launch) (D : va_G) (cA : Nat → ClassId) {x1 : Int64} {σ : St} {Q : UInt64 → St → Prop} (h : w_X5_doubleOf Q x1 σ) : CtD l yX5_doubleOf cX5_doubleOf 6 (some .double) rmX5_doubleOf D cA shR [.ref 0, .long x1] σ Q := by
  refine CtD.of (own := RX5) rfl (by decide +kernel) [(0, .ref 0), (1, .long x1)] rfl (Nat.le_of_ble_eq_true rfl) ?_
  intro p e s m args below meth c ad0 A X hr
  exact b_X5_doubleOf_0 X hr  h
def rmX5_length : Room := { frames := 2, cells := 0, slots := 0, locals := 75 }
def w_X5_length_144 (Q : UInt64 → St → Prop) (x6 : Int64) (σ : St) : Prop := w_X5_doubleOf (fun r10 σ9 => (Q r10 σ9)) x6 σ
set_option maxRecDepth 100000 in
set_option maxHeartbeats 4000000 in
theorem b_X5_length_144 {p : Program} {l : Launch} {e : Env} {s : State} {m : MethodId} {args : Array Value} {below : List Frame} {meth : Method} {c : Code} {D : va_G} {cA : Nat → ClassId} {A : Nat → Prop} {ad0 : Nat → Nat} {Q : UInt64 → St → Prop} {x6 : Int64} {σ : St} (X : Cx p rmX5_length s m args meth c cX5_length 12 RX5 D cA A) (hr : meth.sig.returnType = some .double) (h : w_X5_length_144 Q x6 σ) : G p l e rmX5_length s m args below meth c 12 D cA A (MQ below (va_Qd Q (EndW D cA ad0 shR) A) args s 0 0 A) 0 0 (fun ad => ad = ad0) shR σ [(0, .ref 0), (6, .long x6)] 144 [] := by
  unfold w_X5_length_144 at h
  refine g_aload_n X 0 dX5_length_144 rfl rfl ?_
  refine g_lload X 1 dX5_length_145 rfl ?_
  refine g_callVD X (C := RX5) (T := TX5) (N := 23) (n := 1) [.long x6] [] dX5_length_147 (c_X5_doubleOf l D cA h) q880 q882 q45 q57 q883 (Nat.le_of_ble_eq_true rfl) rfl rfl ⟨rfl, by decide, by decide, by decide +kernel⟩ rfl rfl (Nat.le_of_ble_eq_true rfl) rfl rfl ⟨(Nat.le_of_ble_eq_true rfl), (Nat.le_of_ble_eq_true rfl)⟩ (Nat.le_of_ble_eq_true rfl) (Nat.le_of_ble_eq_true rfl) (fun r10 σ9 h => ?_)
  exact g_dret X hr dX5_length_150 h
def w_X5_length_82 (Q : UInt64 → St → Prop) : Nat → Int32 → Int64 → Int64 → Int64 → St → Prop
  | 0, _, _, _, _, _ => False
  | n + 1, x2, x4, x6, x8, σ => ((x8 ≤ x6 → ((x2 = 0 → (w_X5_length_144 Q x6 σ)) ∧ (¬ x2 = 0 → w_X5_compareSquare (fun r12 σ11 => ((¬ r12 = 0 → ((¬ x6 = x4 → w_X5_doubleOf (fun r14 σ13 => (Q r14 σ13)) (x6 + (1 : Int64)) σ11) ∧ (x6 = x4 → (Q (9218868437227405312 : UInt64) σ11)))) ∧ (r12 = 0 → (w_X5_length_144 Q x6 σ11)))) x6 σ))) ∧ (¬ x8 ≤ x6 → ∀ y15 : Int64, y15 = (x6 + (((x8 - x6) + (1 : Int64)) / (2 : Int64))) → w_X5_compareSquare (fun r17 σ16 => ((0 < r17 → ∀ y18 : Int64, y18 = (y15 - (1 : Int64)) → (w_X5_length_82 Q n x2 x4 x6 y18 σ16)) ∧ (¬ 0 < r17 → (w_X5_length_82 Q n x2 x4 y15 x8 σ16)))) y15 σ))
set_option maxRecDepth 100000 in
set_option maxHeartbeats 4000000 in
theorem b_X5_length_82 {p : Program} {l : Launch} {e : Env} {s : State} {m : MethodId} {args : Array Value} {below : List Frame} {meth : Method} {c : Code} {D : va_G} {cA : Nat → ClassId} {A : Nat → Prop} {ad0 : Nat → Nat} {Q : UInt64 → St → Prop} (X : Cx p rmX5_length s m args meth c cX5_length 12 RX5 D cA A) (hr : meth.sig.returnType = some .double) : ∀ (n : Nat) (x2 : Int32) (x4 : Int64) (x6 : Int64) (x8 : Int64) (σ : St), w_X5_length_82 Q n x2 x4 x6 x8 σ → G p l e rmX5_length s m args below meth c 12 D cA A (MQ below (va_Qd Q (EndW D cA ad0 shR) A) args s 0 0 A) 0 0 (fun ad => ad = ad0) shR σ [(0, .ref 0), (2, .int x2), (4, .long x4), (6, .long x6), (8, .long x8)] 82 [] := by
  intro n
  induction n with
  | zero => intro x2 x4 x6 x8 σ h; exact h.elim
  | succ n ih =>
    intro x2 x4 x6 x8 σ h
    rw [w_X5_length_82] at h
    refine g_lload X 3 dX5_length_82 rfl ?_
    refine g_lload X 4 dX5_length_84 rfl ?_
    refine g_lcmp X dX5_length_86 ?_
    refine g_if_ge X 131 dX5_length_87 (by decide) (fun hc => ?_) (fun hc => ?_)
    · have h := h.1 (lgc_ge.mp hc)
      refine g_iload_n X 1 dX5_length_131 rfl rfl ?_
      refine g_if_eq X 144 dX5_length_132 (by decide) (fun hc => ?_) (fun hc => ?_)
      · have h := h.1 hc
        refine g_weak [0, 3] rfl ?_
        exact b_X5_length_144 X hr h
      · have h := h.2 hc
        refine g_aload_n X 0 dX5_length_135 rfl rfl ?_
        refine g_lload X 3 dX5_length_136 rfl ?_
        refine g_callVI X (C := RX5) (T := TX5) (N := 23) (n := 1) [.long x6] [] dX5_length_138 (c_X5_compareSquare l D cA h) q874 q876 q44 q57 q877 (Nat.le_of_ble_eq_true rfl) rfl rfl ⟨rfl, by decide, by decide, by decide +kernel⟩ rfl rfl (Nat.le_of_ble_eq_true rfl) rfl rfl ⟨(Nat.le_of_ble_eq_true rfl), (Nat.le_of_ble_eq_true rfl)⟩ (Nat.le_of_ble_eq_true rfl) (Nat.le_of_ble_eq_true rfl) (fun r12 σ11 h => ?_)
        refine g_if_ne X 151 dX5_length_141 (by decide) (fun hc => ?_) (fun hc => ?_)
        · have h := h.1 hc
          refine g_lload X 3 dX5_length_151 rfl ?_
          refine g_lload X 2 dX5_length_153 rfl ?_
          refine g_lcmp X dX5_length_155 ?_
          refine g_if_ne X 165 dX5_length_156 (by decide) (fun hc => ?_) (fun hc => ?_)
          · have h := h.1 (fun z => hc (lgc_eq.mpr z))
            refine g_aload_n X 0 dX5_length_165 rfl rfl ?_
            refine g_lload X 3 dX5_length_166 rfl ?_
            refine g_lconst X (1 : Int64) dX5_length_168 (by decide) ?_
            refine g_ladd X dX5_length_169 ?_
            refine g_callVD X (C := RX5) (T := TX5) (N := 23) (n := 1) [.long (x6 + (1 : Int64))] [] dX5_length_170 (c_X5_doubleOf l D cA h) q880 q882 q45 q57 q883 (Nat.le_of_ble_eq_true rfl) rfl rfl ⟨rfl, by decide, by decide, by decide +kernel⟩ rfl rfl (Nat.le_of_ble_eq_true rfl) rfl rfl ⟨(Nat.le_of_ble_eq_true rfl), (Nat.le_of_ble_eq_true rfl)⟩ (Nat.le_of_ble_eq_true rfl) (Nat.le_of_ble_eq_true rfl) (fun r14 σ13 h => ?_)
            exact g_dret X hr dX5_length_173 h
          · have h := h.2 (lgc_eq.mp hc)
            refine g_ldc2d X q717 dX5_length_159 ?_
            refine g_goto X 173 dX5_length_162 (by decide) ?_
            exact g_dret X hr dX5_length_173 h
        · have h := h.2 hc
          refine g_weak [0, 3] rfl ?_
          exact b_X5_length_144 X hr h
    · have h := h.2 (fun z => hc (lgc_ge.mpr z))
      refine g_lload X 3 dX5_length_90 rfl ?_
      refine g_lload X 4 dX5_length_92 rfl ?_
      refine g_lload X 3 dX5_length_94 rfl ?_
      refine g_lsub X dX5_length_96 ?_
      refine g_lconst X (1 : Int64) dX5_length_97 (by decide) ?_
      refine g_ladd X dX5_length_98 ?_
      refine g_ldc2 X q734 dX5_length_99 ?_
      refine g_ldiv X dX5_length_102 (by decide) ?_
      refine g_ladd X dX5_length_103 ?_
      refine g_nameJ (fun y15 ey15 => ?_)
      have h := h y15 ey15
      refine g_lstore X [(10, .long y15), (0, .ref 0), (2, .int x2), (4, .long x4), (6, .long x6), (8, .long x8)] dX5_length_104 (Nat.le_of_ble_eq_true rfl) rfl ?_
      refine g_aload_n X 1 dX5_length_106 rfl rfl ?_
      refine g_lload X 0 dX5_length_107 rfl ?_
      refine g_callVI X (C := RX5) (T := TX5) (N := 23) (n := 1) [.long y15] [] dX5_length_109 (c_X5_compareSquare l D cA h) q874 q876 q44 q57 q877 (Nat.le_of_ble_eq_true rfl) rfl rfl ⟨rfl, by decide, by decide, by decide +kernel⟩ rfl rfl (Nat.le_of_ble_eq_true rfl) rfl rfl ⟨(Nat.le_of_ble_eq_true rfl), (Nat.le_of_ble_eq_true rfl)⟩ (Nat.le_of_ble_eq_true rfl) (Nat.le_of_ble_eq_true rfl) (fun r17 σ16 h => ?_)
      refine g_if_gt X 122 dX5_length_112 (by decide) (fun hc => ?_) (fun hc => ?_)
      · have h := h.1 hc
        refine g_lload X 0 dX5_length_122 rfl ?_
        refine g_lconst X (1 : Int64) dX5_length_124 (by decide) ?_
        refine g_lsub X dX5_length_125 ?_
        refine g_nameJ (fun y18 ey18 => ?_)
        have h := h y18 ey18
        refine g_lstore X [(8, .long y18), (10, .long y15), (0, .ref 0), (2, .int x2), (4, .long x4), (6, .long x6)] dX5_length_126 (Nat.le_of_ble_eq_true rfl) rfl ?_
        refine g_goto X 82 dX5_length_128 (by decide) ?_
        refine g_weak [2, 3, 4, 5, 0] rfl ?_
        exact ih _ _ _ _ _ h
      · have h := h.2 hc
        refine g_lload X 0 dX5_length_115 rfl ?_
        refine g_lstore X [(6, .long y15), (10, .long y15), (0, .ref 0), (2, .int x2), (4, .long x4), (8, .long x8)] dX5_length_117 (Nat.le_of_ble_eq_true rfl) rfl ?_
        refine g_goto X 128 dX5_length_119 (by decide) ?_
        refine g_goto X 82 dX5_length_128 (by decide) ?_
        refine g_weak [2, 3, 4, 0, 5] rfl ?_
        exact ih _ _ _ _ _ h
def w_X5_length (Q : UInt64 → St → Prop) (x1 : Int32) (x2 : Int32) (σ : St) : Prop := ∀ σ1 : St, σ1 = uI σ 0 0 (0 : Int32) → w_X5_isKeeper (fun r3 σ2 => ((r3 = 0 → (Q FP.dconst0 σ2)) ∧ (¬ r3 = 0 → vp_in x1 7 ∧ (((gI σ2 6 (ix x1)) = (-1 : Int32) → (Q FP.dconst0 σ2)) ∧ (¬ (gI σ2 6 (ix x1)) = (-1 : Int32) → vp_in x1 7 ∧ ((¬ (gI σ2 6 (ix x1)) = 0 → w_X5_sortOf_ (fun r7 σ6 => ((r7 = 0 → w_X5_take (fun σ8 => (((gI σ8 0 20) = 0 → (∃ fu19 : Nat, w_X5_length_82 Q fu19 x2 (9218868437227405311 : Int64) (0 : Int64) (9218868437227405311 : Int64) σ8)) ∧ (¬ (gI σ8 0 20) = 0 → (Q FP.dconst0 σ8)))) x1 σ6) ∧ (¬ r7 = 0 → ((¬ r7 = (1 : Int32) → (Q FP.dconst0 σ6)) ∧ (r7 = (1 : Int32) → (Q (9218868437227405312 : UInt64) σ6)))))) x1 σ2) ∧ ((gI σ2 6 (ix x1)) = 0 → (Q FP.dconst0 σ2)))))))) x1 σ1
set_option maxRecDepth 100000 in
set_option maxHeartbeats 4000000 in
theorem b_X5_length_0 {p : Program} {l : Launch} {e : Env} {s : State} {m : MethodId} {args : Array Value} {below : List Frame} {meth : Method} {c : Code} {D : va_G} {cA : Nat → ClassId} {A : Nat → Prop} {ad0 : Nat → Nat} {Q : UInt64 → St → Prop} {x1 : Int32} {x2 : Int32} {σ : St} (X : Cx p rmX5_length s m args meth c cX5_length 12 RX5 D cA A) (hr : meth.sig.returnType = some .double) (h : w_X5_length Q x1 x2 σ) : G p l e rmX5_length s m args below meth c 12 D cA A (MQ below (va_Qd Q (EndW D cA ad0 shR) A) args s 0 0 A) 0 0 (fun ad => ad = ad0) shR σ [(0, .ref 0), (1, .int x1), (2, .int x2)] 0 [] := by
  unfold w_X5_length at h
  refine g_aload_n X 0 dX5_length_0 rfl rfl ?_
  refine g_iconst X (0 : Int32) dX5_length_1 (by decide) ?_
  refine g_putI X (C := RX5) (T := TX5) (N := 23) (ty0 := tyX5) 0 dX5_length_2 (Nat.le_of_ble_eq_true rfl) rfl rfl rfl inG5 tyX5_ok nmX5 (Nat.le_of_ble_eq_true rfl) rfl rfl q569 rfl rfl ?_
  refine g_nameS (fun σ1 eσ1 => ?_)
  have h := h σ1 eσ1
  refine g_iload_n X 1 dX5_length_5 rfl rfl ?_
  refine g_callSI X (n := 1) [.int x1] [] dX5_length_6 (c_X5_isKeeper l D cA shR h) q731 q732 q57 q733 ⟨by decide, by decide, by decide +kernel⟩ rfl rfl (Nat.le_of_ble_eq_true rfl) rfl rfl ⟨(Nat.le_of_ble_eq_true rfl), (Nat.le_of_ble_eq_true rfl)⟩ (Nat.le_of_ble_eq_true rfl) (Nat.le_of_ble_eq_true rfl) (fun r3 σ2 h => ?_)
  refine g_if_eq X 31 dX5_length_9 (by decide) (fun hc => ?_) (fun hc => ?_)
  · have h := h.1 hc
    refine g_dconst0 X dX5_length_31 ?_
    exact g_dret X hr dX5_length_32 h
  · have h := h.2 hc
    refine g_aload_n X 0 dX5_length_12 rfl rfl ?_
    refine g_getR X (C := RX5) (T := TX5) (N := 23) 6 dX5_length_13 (Nat.le_of_ble_eq_true rfl) rfl rfl rfl inG5 (Nat.le_of_ble_eq_true rfl) rfl rfl q575 ?_
    refine g_iload_n X 1 dX5_length_16 rfl rfl ?_
    obtain ⟨hi4, h⟩ := h
    refine g_iald X dX5_length_17 (Nat.le_of_ble_eq_true rfl) rfl hi4 ?_
    refine g_iconst X (-1 : Int32) dX5_length_18 (by decide) ?_
    refine g_icmp_eq X 31 dX5_length_19 (by decide) (fun hc => ?_) (fun hc => ?_)
    · have h := h.1 hc
      refine g_dconst0 X dX5_length_31 ?_
      exact g_dret X hr dX5_length_32 h
    · have h := h.2 hc
      refine g_aload_n X 0 dX5_length_22 rfl rfl ?_
      refine g_getR X (C := RX5) (T := TX5) (N := 23) 6 dX5_length_23 (Nat.le_of_ble_eq_true rfl) rfl rfl rfl inG5 (Nat.le_of_ble_eq_true rfl) rfl rfl q575 ?_
      refine g_iload_n X 1 dX5_length_26 rfl rfl ?_
      obtain ⟨hi5, h⟩ := h
      refine g_iald X dX5_length_27 (Nat.le_of_ble_eq_true rfl) rfl hi5 ?_
      refine g_if_ne X 33 dX5_length_28 (by decide) (fun hc => ?_) (fun hc => ?_)
      · have h := h.1 hc
        refine g_aload_n X 0 dX5_length_33 rfl rfl ?_
        refine g_iload_n X 1 dX5_length_34 rfl rfl ?_
        refine g_callVI X (C := RX5) (T := TX5) (N := 23) (n := 1) [.int x1] [] dX5_length_35 (c_X5_sortOf_ l D cA h) q832 q834 q38 q57 q835 (Nat.le_of_ble_eq_true rfl) rfl rfl ⟨rfl, by decide, by decide, by decide +kernel⟩ rfl rfl (Nat.le_of_ble_eq_true rfl) rfl rfl ⟨(Nat.le_of_ble_eq_true rfl), (Nat.le_of_ble_eq_true rfl)⟩ (Nat.le_of_ble_eq_true rfl) (Nat.le_of_ble_eq_true rfl) (fun r7 σ6 h => ?_)
        refine g_istore_n X [(3, .int r7), (0, .ref 0), (1, .int x1), (2, .int x2)] dX5_length_38 rfl (Nat.le_of_ble_eq_true rfl) rfl ?_
        refine g_iload_n X 0 dX5_length_39 rfl rfl ?_
        refine g_if_eq X 56 dX5_length_40 (by decide) (fun hc => ?_) (fun hc => ?_)
        · have h := h.1 hc
          refine g_aload_n X 1 dX5_length_56 rfl rfl ?_
          refine g_iload_n X 2 dX5_length_57 rfl rfl ?_
          refine g_callVV X (C := RX5) (T := TX5) (N := 23) (n := 1) [.int x1] [] dX5_length_58 (c_X5_take l D cA h) q848 q850 q40 q57 q851 (Nat.le_of_ble_eq_true rfl) rfl rfl ⟨rfl, by decide, by decide, by decide +kernel⟩ rfl rfl (Nat.le_of_ble_eq_true rfl) rfl rfl ⟨(Nat.le_of_ble_eq_true rfl), (Nat.le_of_ble_eq_true rfl)⟩ (Nat.le_of_ble_eq_true rfl) (Nat.le_of_ble_eq_true rfl) (fun σ8 h => ?_)
          refine g_aload_n X 1 dX5_length_61 rfl rfl ?_
          refine g_getI X (C := RX5) (T := TX5) (N := 23) 20 dX5_length_62 (Nat.le_of_ble_eq_true rfl) rfl rfl rfl inG5 (Nat.le_of_ble_eq_true rfl) rfl q589 ?_
          refine g_if_eq X 70 dX5_length_65 (by decide) (fun hc => ?_) (fun hc => ?_)
          · have h := h.1 hc
            refine g_ldc2 X q873 dX5_length_70 ?_
            refine g_lstore X [(4, .long (9218868437227405311 : Int64)), (3, .int r7), (0, .ref 0), (1, .int x1), (2, .int x2)] dX5_length_73 (Nat.le_of_ble_eq_true rfl) rfl ?_
            refine g_lconst X (0 : Int64) dX5_length_75 (by decide) ?_
            refine g_lstore X [(6, .long (0 : Int64)), (4, .long (9218868437227405311 : Int64)), (3, .int r7), (0, .ref 0), (1, .int x1), (2, .int x2)] dX5_length_76 (Nat.le_of_ble_eq_true rfl) rfl ?_
            refine g_lload X 1 dX5_length_78 rfl ?_
            refine g_lstore X [(8, .long (9218868437227405311 : Int64)), (6, .long (0 : Int64)), (4, .long (9218868437227405311 : Int64)), (3, .int r7), (0, .ref 0), (1, .int x1), (2, .int x2)] dX5_length_80 (Nat.le_of_ble_eq_true rfl) rfl ?_
            refine g_weak [4, 6, 2, 1, 0] rfl ?_
            obtain ⟨fu19, h⟩ := h
            exact b_X5_length_82 X hr fu19 _ _ _ _ _ h
          · have h := h.2 hc
            refine g_dconst0 X dX5_length_68 ?_
            exact g_dret X hr dX5_length_69 h
        · have h := h.2 hc
          refine g_iload_n X 0 dX5_length_43 rfl rfl ?_
          refine g_iconst X (1 : Int32) dX5_length_44 (by decide) ?_
          refine g_icmp_ne X 54 dX5_length_45 (by decide) (fun hc => ?_) (fun hc => ?_)
          · have h := h.1 hc
            refine g_dconst0 X dX5_length_54 ?_
            exact g_dret X hr dX5_length_55 h
          · have h := h.2 hc
            refine g_ldc2d X q717 dX5_length_48 ?_
            refine g_goto X 55 dX5_length_51 (by decide) ?_
            exact g_dret X hr dX5_length_55 h
      · have h := h.2 hc
        refine g_dconst0 X dX5_length_31 ?_
        exact g_dret X hr dX5_length_32 h
theorem c_X5_length (l : Launch) (D : va_G) (cA : Nat → ClassId) {x1 : Int32} {x2 : Int32} {σ : St} {Q : UInt64 → St → Prop} (h : w_X5_length Q x1 x2 σ) : CtD l yX5_length cX5_length 12 (some .double) rmX5_length D cA shR [.ref 0, .int x1, .int x2] σ Q := by
  refine CtD.of (own := RX5) rfl (by decide +kernel) [(0, .ref 0), (1, .int x1), (2, .int x2)] rfl (Nat.le_of_ble_eq_true rfl) ?_
  intro p e s m args below meth c ad0 A X hr
  exact b_X5_length_0 X hr  h
def rmX5_sign : Room := { frames := 2, cells := 0, slots := 0, locals := 45 }
def w_X5_sign (Q : Int32 → St → Prop) (x1 : Int32) (σ : St) : Prop := ∀ σ1 : St, σ1 = uI σ 0 0 (0 : Int32) → w_X5_isKeeper (fun r3 σ2 => ((¬ r3 = 0 → vp_in x1 7 ∧ ((¬ (gI σ2 6 (ix x1)) = (-1 : Int32) → w_X5_take (fun σ5 => w_X5_highest (fun r7 σ6 => ((¬ r7 = (-1 : Int32) → (((gI σ6 0 20) = 0 → (Q (1 : Int32) σ6)) ∧ (¬ (gI σ6 0 20) = 0 → (Q (2 : Int32) σ6)))) ∧ (r7 = (-1 : Int32) → (Q (0 : Int32) σ6)))) σ5) x1 σ2) ∧ ((gI σ2 6 (ix x1)) = (-1 : Int32) → (Q (-11 : Int32) σ2)))) ∧ (r3 = 0 → (Q (-3 : Int32) σ2)))) x1 σ1
set_option maxRecDepth 100000 in
set_option maxHeartbeats 4000000 in
theorem b_X5_sign_0 {p : Program} {l : Launch} {e : Env} {s : State} {m : MethodId} {args : Array Value} {below : List Frame} {meth : Method} {c : Code} {D : va_G} {cA : Nat → ClassId} {A : Nat → Prop} {ad0 : Nat → Nat} {Q : Int32 → St → Prop} {x1 : Int32} {σ : St} (X : Cx p rmX5_sign s m args meth c cX5_sign 2 RX5 D cA A) (hr : meth.sig.returnType = some .int) (h : w_X5_sign Q x1 σ) : G p l e rmX5_sign s m args below meth c 2 D cA A (MQ below (va_Qi Q (EndW D cA ad0 shR) A) args s 0 0 A) 0 0 (fun ad => ad = ad0) shR σ [(0, .ref 0), (1, .int x1)] 0 [] := by
  unfold w_X5_sign at h
  refine g_aload_n X 0 dX5_sign_0 rfl rfl ?_
  refine g_iconst X (0 : Int32) dX5_sign_1 (by decide) ?_
  refine g_putI X (C := RX5) (T := TX5) (N := 23) (ty0 := tyX5) 0 dX5_sign_2 (Nat.le_of_ble_eq_true rfl) rfl rfl rfl inG5 tyX5_ok nmX5 (Nat.le_of_ble_eq_true rfl) rfl rfl q569 rfl rfl ?_
  refine g_nameS (fun σ1 eσ1 => ?_)
  have h := h σ1 eσ1
  refine g_iload_n X 1 dX5_sign_5 rfl rfl ?_
  refine g_callSI X (n := 1) [.int x1] [] dX5_sign_6 (c_X5_isKeeper l D cA shR h) q731 q732 q57 q733 ⟨by decide, by decide, by decide +kernel⟩ rfl rfl (Nat.le_of_ble_eq_true rfl) rfl rfl ⟨(Nat.le_of_ble_eq_true rfl), (Nat.le_of_ble_eq_true rfl)⟩ (Nat.le_of_ble_eq_true rfl) (Nat.le_of_ble_eq_true rfl) (fun r3 σ2 h => ?_)
  refine g_if_ne X 15 dX5_sign_9 (by decide) (fun hc => ?_) (fun hc => ?_)
  · have h := h.1 hc
    refine g_aload_n X 0 dX5_sign_15 rfl rfl ?_
    refine g_getR X (C := RX5) (T := TX5) (N := 23) 6 dX5_sign_16 (Nat.le_of_ble_eq_true rfl) rfl rfl rfl inG5 (Nat.le_of_ble_eq_true rfl) rfl rfl q575 ?_
    refine g_iload_n X 1 dX5_sign_19 rfl rfl ?_
    obtain ⟨hi4, h⟩ := h
    refine g_iald X dX5_sign_20 (Nat.le_of_ble_eq_true rfl) rfl hi4 ?_
    refine g_iconst X (-1 : Int32) dX5_sign_21 (by decide) ?_
    refine g_icmp_ne X 28 dX5_sign_22 (by decide) (fun hc => ?_) (fun hc => ?_)
    · have h := h.1 hc
      refine g_aload_n X 0 dX5_sign_28 rfl rfl ?_
      refine g_iload_n X 1 dX5_sign_29 rfl rfl ?_
      refine g_callVV X (C := RX5) (T := TX5) (N := 23) (n := 1) [.int x1] [] dX5_sign_30 (c_X5_take l D cA h) q848 q850 q40 q57 q851 (Nat.le_of_ble_eq_true rfl) rfl rfl ⟨rfl, by decide, by decide, by decide +kernel⟩ rfl rfl (Nat.le_of_ble_eq_true rfl) rfl rfl ⟨(Nat.le_of_ble_eq_true rfl), (Nat.le_of_ble_eq_true rfl)⟩ (Nat.le_of_ble_eq_true rfl) (Nat.le_of_ble_eq_true rfl) (fun σ5 h => ?_)
      refine g_aload_n X 0 dX5_sign_33 rfl rfl ?_
      refine g_callVI X (C := RX5) (T := TX5) (N := 23) (n := 0) [] [] dX5_sign_34 (c_X5_highest l D cA h) q856 q858 q42 q57 q859 (Nat.le_of_ble_eq_true rfl) rfl rfl ⟨rfl, by decide, by decide, by decide +kernel⟩ rfl rfl (Nat.le_of_ble_eq_true rfl) rfl rfl ⟨(Nat.le_of_ble_eq_true rfl), (Nat.le_of_ble_eq_true rfl)⟩ (Nat.le_of_ble_eq_true rfl) (Nat.le_of_ble_eq_true rfl) (fun r7 σ6 h => ?_)
      refine g_iconst X (-1 : Int32) dX5_sign_37 (by decide) ?_
      refine g_icmp_ne X 45 dX5_sign_38 (by decide) (fun hc => ?_) (fun hc => ?_)
      · have h := h.1 hc
        refine g_aload_n X 0 dX5_sign_45 rfl rfl ?_
        refine g_getI X (C := RX5) (T := TX5) (N := 23) 20 dX5_sign_46 (Nat.le_of_ble_eq_true rfl) rfl rfl rfl inG5 (Nat.le_of_ble_eq_true rfl) rfl q589 ?_
        refine g_if_eq X 56 dX5_sign_49 (by decide) (fun hc => ?_) (fun hc => ?_)
        · have h := h.1 hc
          refine g_iconst X (1 : Int32) dX5_sign_56 (by decide) ?_
          exact g_iret X hr dX5_sign_57 rfl h
        · have h := h.2 hc
          refine g_iconst X (2 : Int32) dX5_sign_52 (by decide) ?_
          refine g_goto X 57 dX5_sign_53 (by decide) ?_
          exact g_iret X hr dX5_sign_57 rfl h
      · have h := h.2 hc
        refine g_iconst X (0 : Int32) dX5_sign_41 (by decide) ?_
        refine g_goto X 57 dX5_sign_42 (by decide) ?_
        exact g_iret X hr dX5_sign_57 rfl h
    · have h := h.2 hc
      refine g_bipush X (-11 : Int32) dX5_sign_25 (by decide) ?_
      exact g_iret X hr dX5_sign_27 rfl h
  · have h := h.2 hc
    refine g_bipush X (-3 : Int32) dX5_sign_12 (by decide) ?_
    exact g_iret X hr dX5_sign_14 rfl h
theorem c_X5_sign (l : Launch) (D : va_G) (cA : Nat → ClassId) {x1 : Int32} {σ : St} {Q : Int32 → St → Prop} (h : w_X5_sign Q x1 σ) : CtI l yX5_sign cX5_sign 2 (some .int) rmX5_sign D cA shR [.ref 0, .int x1] σ Q := by
  refine CtI.of (own := RX5) rfl (by decide +kernel) [(0, .ref 0), (1, .int x1)] rfl (Nat.le_of_ble_eq_true rfl) ?_
  intro p e s m args below meth c ad0 A X hr
  exact b_X5_sign_0 X hr  h
def rmX5_high : Room := { frames := 2, cells := 0, slots := 0, locals := 45 }
def w_X5_high (Q : Int32 → St → Prop) (x1 : Int32) (σ : St) : Prop := ∀ σ1 : St, σ1 = uI σ 0 0 (0 : Int32) → w_X5_isKeeper (fun r3 σ2 => ((¬ r3 = 0 → vp_in x1 7 ∧ ((¬ (gI σ2 6 (ix x1)) = (-1 : Int32) → w_X5_take (fun σ5 => w_X5_highest (fun r7 σ6 => ((¬ r7 = (-1 : Int32) → (Q (r7 - (2148 : Int32)) σ6)) ∧ (r7 = (-1 : Int32) → (Q (-10000 : Int32) σ6)))) σ5) x1 σ2) ∧ ((gI σ2 6 (ix x1)) = (-1 : Int32) → (Q (-10010 : Int32) σ2)))) ∧ (r3 = 0 → (Q (-10002 : Int32) σ2)))) x1 σ1
set_option maxRecDepth 100000 in
set_option maxHeartbeats 4000000 in
theorem b_X5_high_0 {p : Program} {l : Launch} {e : Env} {s : State} {m : MethodId} {args : Array Value} {below : List Frame} {meth : Method} {c : Code} {D : va_G} {cA : Nat → ClassId} {A : Nat → Prop} {ad0 : Nat → Nat} {Q : Int32 → St → Prop} {x1 : Int32} {σ : St} (X : Cx p rmX5_high s m args meth c cX5_high 3 RX5 D cA A) (hr : meth.sig.returnType = some .int) (h : w_X5_high Q x1 σ) : G p l e rmX5_high s m args below meth c 3 D cA A (MQ below (va_Qi Q (EndW D cA ad0 shR) A) args s 0 0 A) 0 0 (fun ad => ad = ad0) shR σ [(0, .ref 0), (1, .int x1)] 0 [] := by
  unfold w_X5_high at h
  refine g_aload_n X 0 dX5_high_0 rfl rfl ?_
  refine g_iconst X (0 : Int32) dX5_high_1 (by decide) ?_
  refine g_putI X (C := RX5) (T := TX5) (N := 23) (ty0 := tyX5) 0 dX5_high_2 (Nat.le_of_ble_eq_true rfl) rfl rfl rfl inG5 tyX5_ok nmX5 (Nat.le_of_ble_eq_true rfl) rfl rfl q569 rfl rfl ?_
  refine g_nameS (fun σ1 eσ1 => ?_)
  have h := h σ1 eσ1
  refine g_iload_n X 1 dX5_high_5 rfl rfl ?_
  refine g_callSI X (n := 1) [.int x1] [] dX5_high_6 (c_X5_isKeeper l D cA shR h) q731 q732 q57 q733 ⟨by decide, by decide, by decide +kernel⟩ rfl rfl (Nat.le_of_ble_eq_true rfl) rfl rfl ⟨(Nat.le_of_ble_eq_true rfl), (Nat.le_of_ble_eq_true rfl)⟩ (Nat.le_of_ble_eq_true rfl) (Nat.le_of_ble_eq_true rfl) (fun r3 σ2 h => ?_)
  refine g_if_ne X 16 dX5_high_9 (by decide) (fun hc => ?_) (fun hc => ?_)
  · have h := h.1 hc
    refine g_aload_n X 0 dX5_high_16 rfl rfl ?_
    refine g_getR X (C := RX5) (T := TX5) (N := 23) 6 dX5_high_17 (Nat.le_of_ble_eq_true rfl) rfl rfl rfl inG5 (Nat.le_of_ble_eq_true rfl) rfl rfl q575 ?_
    refine g_iload_n X 1 dX5_high_20 rfl rfl ?_
    obtain ⟨hi4, h⟩ := h
    refine g_iald X dX5_high_21 (Nat.le_of_ble_eq_true rfl) rfl hi4 ?_
    refine g_iconst X (-1 : Int32) dX5_high_22 (by decide) ?_
    refine g_icmp_ne X 30 dX5_high_23 (by decide) (fun hc => ?_) (fun hc => ?_)
    · have h := h.1 hc
      refine g_aload_n X 0 dX5_high_30 rfl rfl ?_
      refine g_iload_n X 1 dX5_high_31 rfl rfl ?_
      refine g_callVV X (C := RX5) (T := TX5) (N := 23) (n := 1) [.int x1] [] dX5_high_32 (c_X5_take l D cA h) q848 q850 q40 q57 q851 (Nat.le_of_ble_eq_true rfl) rfl rfl ⟨rfl, by decide, by decide, by decide +kernel⟩ rfl rfl (Nat.le_of_ble_eq_true rfl) rfl rfl ⟨(Nat.le_of_ble_eq_true rfl), (Nat.le_of_ble_eq_true rfl)⟩ (Nat.le_of_ble_eq_true rfl) (Nat.le_of_ble_eq_true rfl) (fun σ5 h => ?_)
      refine g_aload_n X 0 dX5_high_35 rfl rfl ?_
      refine g_callVI X (C := RX5) (T := TX5) (N := 23) (n := 0) [] [] dX5_high_36 (c_X5_highest l D cA h) q856 q858 q42 q57 q859 (Nat.le_of_ble_eq_true rfl) rfl rfl ⟨rfl, by decide, by decide, by decide +kernel⟩ rfl rfl (Nat.le_of_ble_eq_true rfl) rfl rfl ⟨(Nat.le_of_ble_eq_true rfl), (Nat.le_of_ble_eq_true rfl)⟩ (Nat.le_of_ble_eq_true rfl) (Nat.le_of_ble_eq_true rfl) (fun r7 σ6 h => ?_)
      refine g_istore_n X [(2, .int r7), (0, .ref 0), (1, .int x1)] dX5_high_39 rfl (Nat.le_of_ble_eq_true rfl) rfl ?_
      refine g_iload_n X 0 dX5_high_40 rfl rfl ?_
      refine g_iconst X (-1 : Int32) dX5_high_41 (by decide) ?_
      refine g_icmp_ne X 51 dX5_high_42 (by decide) (fun hc => ?_) (fun hc => ?_)
      · have h := h.1 hc
        refine g_iload_n X 0 dX5_high_51 rfl rfl ?_
        refine g_sipush X (2148 : Int32) dX5_high_52 (by decide) ?_
        refine g_isub X dX5_high_55 ?_
        exact g_iret X hr dX5_high_56 rfl h
      · have h := h.2 hc
        refine g_sipush X (-10000 : Int32) dX5_high_45 (by decide) ?_
        refine g_goto X 56 dX5_high_48 (by decide) ?_
        exact g_iret X hr dX5_high_56 rfl h
    · have h := h.2 hc
      refine g_sipush X (-10010 : Int32) dX5_high_26 (by decide) ?_
      exact g_iret X hr dX5_high_29 rfl h
  · have h := h.2 hc
    refine g_sipush X (-10002 : Int32) dX5_high_12 (by decide) ?_
    exact g_iret X hr dX5_high_15 rfl h
theorem c_X5_high (l : Launch) (D : va_G) (cA : Nat → ClassId) {x1 : Int32} {σ : St} {Q : Int32 → St → Prop} (h : w_X5_high Q x1 σ) : CtI l yX5_high cX5_high 3 (some .int) rmX5_high D cA shR [.ref 0, .int x1] σ Q := by
  refine CtI.of (own := RX5) rfl (by decide +kernel) [(0, .ref 0), (1, .int x1)] rfl (Nat.le_of_ble_eq_true rfl) ?_
  intro p e s m args below meth c ad0 A X hr
  exact b_X5_high_0 X hr  h
def rmX5_bit : Room := { frames := 2, cells := 0, slots := 0, locals := 45 }
def w_X5_bit (Q : Int32 → St → Prop) (x1 : Int32) (x2 : Int32) (σ : St) : Prop := ∀ σ1 : St, σ1 = uI σ 0 0 (0 : Int32) → w_X5_isKeeper (fun r3 σ2 => ((r3 = 0 → (Q (-3 : Int32) σ2)) ∧ (¬ r3 = 0 → w_X5_in (fun r5 σ4 => ((¬ r5 = 0 → vp_in x1 7 ∧ ((¬ (gI σ4 6 (ix x1)) = (-1 : Int32) → w_X5_take (fun σ7 => w_X5_bitAt (fun r9 σ8 => (Q r9 σ8)) (x2 + (2148 : Int32)) σ7) x1 σ4) ∧ ((gI σ4 6 (ix x1)) = (-1 : Int32) → (Q (-11 : Int32) σ4)))) ∧ (r5 = 0 → (Q (-3 : Int32) σ4)))) (x2.toInt64) (-2148 : Int64) (2200 : Int64) σ2))) x1 σ1
set_option maxRecDepth 100000 in
set_option maxHeartbeats 4000000 in
theorem b_X5_bit_0 {p : Program} {l : Launch} {e : Env} {s : State} {m : MethodId} {args : Array Value} {below : List Frame} {meth : Method} {c : Code} {D : va_G} {cA : Nat → ClassId} {A : Nat → Prop} {ad0 : Nat → Nat} {Q : Int32 → St → Prop} {x1 : Int32} {x2 : Int32} {σ : St} (X : Cx p rmX5_bit s m args meth c cX5_bit 3 RX5 D cA A) (hr : meth.sig.returnType = some .int) (h : w_X5_bit Q x1 x2 σ) : G p l e rmX5_bit s m args below meth c 3 D cA A (MQ below (va_Qi Q (EndW D cA ad0 shR) A) args s 0 0 A) 0 0 (fun ad => ad = ad0) shR σ [(0, .ref 0), (1, .int x1), (2, .int x2)] 0 [] := by
  unfold w_X5_bit at h
  refine g_aload_n X 0 dX5_bit_0 rfl rfl ?_
  refine g_iconst X (0 : Int32) dX5_bit_1 (by decide) ?_
  refine g_putI X (C := RX5) (T := TX5) (N := 23) (ty0 := tyX5) 0 dX5_bit_2 (Nat.le_of_ble_eq_true rfl) rfl rfl rfl inG5 tyX5_ok nmX5 (Nat.le_of_ble_eq_true rfl) rfl rfl q569 rfl rfl ?_
  refine g_nameS (fun σ1 eσ1 => ?_)
  have h := h σ1 eσ1
  refine g_iload_n X 1 dX5_bit_5 rfl rfl ?_
  refine g_callSI X (n := 1) [.int x1] [] dX5_bit_6 (c_X5_isKeeper l D cA shR h) q731 q732 q57 q733 ⟨by decide, by decide, by decide +kernel⟩ rfl rfl (Nat.le_of_ble_eq_true rfl) rfl rfl ⟨(Nat.le_of_ble_eq_true rfl), (Nat.le_of_ble_eq_true rfl)⟩ (Nat.le_of_ble_eq_true rfl) (Nat.le_of_ble_eq_true rfl) (fun r3 σ2 h => ?_)
  refine g_if_eq X 26 dX5_bit_9 (by decide) (fun hc => ?_) (fun hc => ?_)
  · have h := h.1 hc
    refine g_bipush X (-3 : Int32) dX5_bit_26 (by decide) ?_
    exact g_iret X hr dX5_bit_28 rfl h
  · have h := h.2 hc
    refine g_iload_n X 2 dX5_bit_12 rfl rfl ?_
    refine g_i2l X dX5_bit_13 ?_
    refine g_ldc2 X q896 dX5_bit_14 ?_
    refine g_ldc2 X q897 dX5_bit_17 ?_
    refine g_callSI X (n := 3) [.long (x2.toInt64), .long (-2148 : Int64), .long (2200 : Int64)] [] dX5_bit_20 (c_X5_in l D cA shR h) q648 q649 q57 q650 ⟨by decide, by decide, by decide +kernel⟩ rfl rfl (Nat.le_of_ble_eq_true rfl) rfl rfl ⟨(Nat.le_of_ble_eq_true rfl), (Nat.le_of_ble_eq_true rfl)⟩ (Nat.le_of_ble_eq_true rfl) (Nat.le_of_ble_eq_true rfl) (fun r5 σ4 h => ?_)
    refine g_if_ne X 29 dX5_bit_23 (by decide) (fun hc => ?_) (fun hc => ?_)
    · have h := h.1 hc
      refine g_aload_n X 0 dX5_bit_29 rfl rfl ?_
      refine g_getR X (C := RX5) (T := TX5) (N := 23) 6 dX5_bit_30 (Nat.le_of_ble_eq_true rfl) rfl rfl rfl inG5 (Nat.le_of_ble_eq_true rfl) rfl rfl q575 ?_
      refine g_iload_n X 1 dX5_bit_33 rfl rfl ?_
      obtain ⟨hi6, h⟩ := h
      refine g_iald X dX5_bit_34 (Nat.le_of_ble_eq_true rfl) rfl hi6 ?_
      refine g_iconst X (-1 : Int32) dX5_bit_35 (by decide) ?_
      refine g_icmp_ne X 42 dX5_bit_36 (by decide) (fun hc => ?_) (fun hc => ?_)
      · have h := h.1 hc
        refine g_aload_n X 0 dX5_bit_42 rfl rfl ?_
        refine g_iload_n X 1 dX5_bit_43 rfl rfl ?_
        refine g_callVV X (C := RX5) (T := TX5) (N := 23) (n := 1) [.int x1] [] dX5_bit_44 (c_X5_take l D cA h) q848 q850 q40 q57 q851 (Nat.le_of_ble_eq_true rfl) rfl rfl ⟨rfl, by decide, by decide, by decide +kernel⟩ rfl rfl (Nat.le_of_ble_eq_true rfl) rfl rfl ⟨(Nat.le_of_ble_eq_true rfl), (Nat.le_of_ble_eq_true rfl)⟩ (Nat.le_of_ble_eq_true rfl) (Nat.le_of_ble_eq_true rfl) (fun σ7 h => ?_)
        refine g_aload_n X 0 dX5_bit_47 rfl rfl ?_
        refine g_iload_n X 2 dX5_bit_48 rfl rfl ?_
        refine g_sipush X (2148 : Int32) dX5_bit_49 (by decide) ?_
        refine g_iadd X dX5_bit_52 ?_
        refine g_callVI X (C := RX5) (T := TX5) (N := 23) (n := 1) [.int (x2 + (2148 : Int32))] [] dX5_bit_53 (c_X5_bitAt l D cA h) q860 q862 q43 q57 q863 (Nat.le_of_ble_eq_true rfl) rfl rfl ⟨rfl, by decide, by decide, by decide +kernel⟩ rfl rfl (Nat.le_of_ble_eq_true rfl) rfl rfl ⟨(Nat.le_of_ble_eq_true rfl), (Nat.le_of_ble_eq_true rfl)⟩ (Nat.le_of_ble_eq_true rfl) (Nat.le_of_ble_eq_true rfl) (fun r9 σ8 h => ?_)
        exact g_iret X hr dX5_bit_56 rfl h
      · have h := h.2 hc
        refine g_bipush X (-11 : Int32) dX5_bit_39 (by decide) ?_
        exact g_iret X hr dX5_bit_41 rfl h
    · have h := h.2 hc
      refine g_bipush X (-3 : Int32) dX5_bit_26 (by decide) ?_
      exact g_iret X hr dX5_bit_28 rfl h
theorem c_X5_bit (l : Launch) (D : va_G) (cA : Nat → ClassId) {x1 : Int32} {x2 : Int32} {σ : St} {Q : Int32 → St → Prop} (h : w_X5_bit Q x1 x2 σ) : CtI l yX5_bit cX5_bit 3 (some .int) rmX5_bit D cA shR [.ref 0, .int x1, .int x2] σ Q := by
  refine CtI.of (own := RX5) rfl (by decide +kernel) [(0, .ref 0), (1, .int x1), (2, .int x2)] rfl (Nat.le_of_ble_eq_true rfl) ?_
  intro p e s m args below meth c ad0 A X hr
  exact b_X5_bit_0 X hr  h
def rmX5_order : Room := { frames := 2, cells := 0, slots := 0, locals := 45 }
def w_X5_order_111 (Q : Int32 → St → Prop) : Nat → Int32 → Int32 → Int32 → St → Prop
  | 0, _, _, _, _ => False
  | n + 1, x3, x4, x5, σ => (((152 : Int32) ≤ x5 → (Q (1 : Int32) σ)) ∧ (¬ (152 : Int32) ≤ x5 → vp_in (x3 - x5) 1064 ∧ vp_in (x4 - x5) 1064 ∧ (((gI σ 7 (ix (x3 - x5))) = (gI σ 7 (ix (x4 - x5))) → ∀ y14 : Int32, y14 = x5 + (1 : Int32) → (w_X5_order_111 Q n x3 x4 y14 σ)) ∧ (¬ (gI σ 7 (ix (x3 - x5))) = (gI σ 7 (ix (x4 - x5))) → vp_in (x3 - x5) 1064 ∧ vp_in (x4 - x5) 1064 ∧ (((((gI σ 7 (ix (x4 - x5))).toInt64) &&& (4294967295 : Int64)) ≤ (((gI σ 7 (ix (x3 - x5))).toInt64) &&& (4294967295 : Int64)) → (Q (3 : Int32) σ)) ∧ (¬ (((gI σ 7 (ix (x4 - x5))).toInt64) &&& (4294967295 : Int64)) ≤ (((gI σ 7 (ix (x3 - x5))).toInt64) &&& (4294967295 : Int64)) → (Q (2 : Int32) σ)))))))
set_option maxRecDepth 100000 in
set_option maxHeartbeats 4000000 in
theorem b_X5_order_111 {p : Program} {l : Launch} {e : Env} {s : State} {m : MethodId} {args : Array Value} {below : List Frame} {meth : Method} {c : Code} {D : va_G} {cA : Nat → ClassId} {A : Nat → Prop} {ad0 : Nat → Nat} {Q : Int32 → St → Prop} (X : Cx p rmX5_order s m args meth c cX5_order 6 RX5 D cA A) (hr : meth.sig.returnType = some .int) : ∀ (n : Nat) (x3 : Int32) (x4 : Int32) (x5 : Int32) (σ : St), w_X5_order_111 Q n x3 x4 x5 σ → G p l e rmX5_order s m args below meth c 6 D cA A (MQ below (va_Qi Q (EndW D cA ad0 shR) A) args s 0 0 A) 0 0 (fun ad => ad = ad0) shR σ [(0, .ref 0), (3, .int x3), (4, .int x4), (5, .int x5)] 111 [] := by
  intro n
  induction n with
  | zero => intro x3 x4 x5 σ h; exact h.elim
  | succ n ih =>
    intro x3 x4 x5 σ h
    rw [w_X5_order_111] at h
    refine g_iload X 3 dX5_order_111 rfl ?_
    refine g_sipush X (152 : Int32) dX5_order_113 (by decide) ?_
    refine g_icmp_ge X 186 dX5_order_116 (by decide) (fun hc => ?_) (fun hc => ?_)
    · have h := h.1 hc
      refine g_iconst X (1 : Int32) dX5_order_186 (by decide) ?_
      exact g_iret X hr dX5_order_187 rfl h
    · have h := h.2 hc
      refine g_aload_n X 0 dX5_order_119 rfl rfl ?_
      refine g_getR X (C := RX5) (T := TX5) (N := 23) 7 dX5_order_120 (Nat.le_of_ble_eq_true rfl) rfl rfl rfl inG5 (Nat.le_of_ble_eq_true rfl) rfl rfl q576 ?_
      refine g_iload_n X 1 dX5_order_123 rfl rfl ?_
      refine g_iload X 3 dX5_order_124 rfl ?_
      refine g_isub X dX5_order_126 ?_
      obtain ⟨hi12, h⟩ := h
      refine g_iald X dX5_order_127 (Nat.le_of_ble_eq_true rfl) rfl hi12 ?_
      refine g_aload_n X 0 dX5_order_128 rfl rfl ?_
      refine g_getR X (C := RX5) (T := TX5) (N := 23) 7 dX5_order_129 (Nat.le_of_ble_eq_true rfl) rfl rfl rfl inG5 (Nat.le_of_ble_eq_true rfl) rfl rfl q576 ?_
      refine g_iload X 2 dX5_order_132 rfl ?_
      refine g_iload X 3 dX5_order_134 rfl ?_
      refine g_isub X dX5_order_136 ?_
      obtain ⟨hi13, h⟩ := h
      refine g_iald X dX5_order_137 (Nat.le_of_ble_eq_true rfl) rfl hi13 ?_
      refine g_icmp_eq X 180 dX5_order_138 (by decide) (fun hc => ?_) (fun hc => ?_)
      · have h := h.1 hc
        obtain ⟨y14, ey14⟩ : ∃ y : Int32, y = x5 + (1 : Int32) := ⟨_, rfl⟩
        have h := h y14 ey14
        refine g_iinc X 3 (1 : Int32) [(5, .int y14), (0, .ref 0), (3, .int x3), (4, .int x4)] dX5_order_180 rfl (by decide) (Nat.le_of_ble_eq_true rfl) (by rw [ey14]; rfl) ?_
        refine g_goto X 111 dX5_order_183 (by decide) ?_
        refine g_weak [1, 2, 3, 0] rfl ?_
        exact ih _ _ _ _ h
      · have h := h.2 hc
        refine g_aload_n X 0 dX5_order_141 rfl rfl ?_
        refine g_getR X (C := RX5) (T := TX5) (N := 23) 7 dX5_order_142 (Nat.le_of_ble_eq_true rfl) rfl rfl rfl inG5 (Nat.le_of_ble_eq_true rfl) rfl rfl q576 ?_
        refine g_iload_n X 1 dX5_order_145 rfl rfl ?_
        refine g_iload X 3 dX5_order_146 rfl ?_
        refine g_isub X dX5_order_148 ?_
        obtain ⟨hi15, h⟩ := h
        refine g_iald X dX5_order_149 (Nat.le_of_ble_eq_true rfl) rfl hi15 ?_
        refine g_i2l X dX5_order_150 ?_
        refine g_ldc2 X q795 dX5_order_151 ?_
        refine g_land X dX5_order_154 ?_
        refine g_aload_n X 0 dX5_order_155 rfl rfl ?_
        refine g_getR X (C := RX5) (T := TX5) (N := 23) 7 dX5_order_156 (Nat.le_of_ble_eq_true rfl) rfl rfl rfl inG5 (Nat.le_of_ble_eq_true rfl) rfl rfl q576 ?_
        refine g_iload X 2 dX5_order_159 rfl ?_
        refine g_iload X 3 dX5_order_161 rfl ?_
        refine g_isub X dX5_order_163 ?_
        obtain ⟨hi16, h⟩ := h
        refine g_iald X dX5_order_164 (Nat.le_of_ble_eq_true rfl) rfl hi16 ?_
        refine g_i2l X dX5_order_165 ?_
        refine g_ldc2 X q795 dX5_order_166 ?_
        refine g_land X dX5_order_169 ?_
        refine g_lcmp X dX5_order_170 ?_
        refine g_if_ge X 178 dX5_order_171 (by decide) (fun hc => ?_) (fun hc => ?_)
        · have h := h.1 (lgc_ge.mp hc)
          refine g_iconst X (3 : Int32) dX5_order_178 (by decide) ?_
          exact g_iret X hr dX5_order_179 rfl h
        · have h := h.2 (fun z => hc (lgc_ge.mpr z))
          refine g_iconst X (2 : Int32) dX5_order_174 (by decide) ?_
          refine g_goto X 179 dX5_order_175 (by decide) ?_
          exact g_iret X hr dX5_order_179 rfl h
def w_X5_order (Q : Int32 → St → Prop) (x1 : Int32) (x2 : Int32) (σ : St) : Prop := ∀ σ1 : St, σ1 = uI σ 0 0 (0 : Int32) → w_X5_isKeeper (fun r3 σ2 => ((r3 = 0 → (Q (-3 : Int32) σ2)) ∧ (¬ r3 = 0 → w_X5_isKeeper (fun r5 σ4 => ((¬ r5 = 0 → vp_in x1 7 ∧ (((gI σ4 6 (ix x1)) = (-1 : Int32) → (Q (-11 : Int32) σ4)) ∧ (¬ (gI σ4 6 (ix x1)) = (-1 : Int32) → vp_in x2 7 ∧ ((¬ (gI σ4 6 (ix x2)) = (-1 : Int32) → ∀ y8 : Int32, y8 = ((((152 : Int32) * x1) + (152 : Int32)) - (1 : Int32)) → ∀ y9 : Int32, y9 = ((((152 : Int32) * x2) + (152 : Int32)) - (1 : Int32)) → vp_in y8 1064 ∧ vp_in y9 1064 ∧ (((gI σ4 7 (ix y8)) = (gI σ4 7 (ix y9)) → (∃ fu17 : Nat, w_X5_order_111 Q fu17 y8 y9 (1 : Int32) σ4)) ∧ (¬ (gI σ4 7 (ix y8)) = (gI σ4 7 (ix y9)) → vp_in y8 1064 ∧ vp_in y9 1064 ∧ (((gI σ4 7 (ix y9)) ≤ (gI σ4 7 (ix y8)) → (Q (3 : Int32) σ4)) ∧ (¬ (gI σ4 7 (ix y9)) ≤ (gI σ4 7 (ix y8)) → (Q (2 : Int32) σ4)))))) ∧ ((gI σ4 6 (ix x2)) = (-1 : Int32) → (Q (-11 : Int32) σ4)))))) ∧ (r5 = 0 → (Q (-3 : Int32) σ4)))) x2 σ2))) x1 σ1
set_option maxRecDepth 100000 in
set_option maxHeartbeats 4000000 in
theorem b_X5_order_0 {p : Program} {l : Launch} {e : Env} {s : State} {m : MethodId} {args : Array Value} {below : List Frame} {meth : Method} {c : Code} {D : va_G} {cA : Nat → ClassId} {A : Nat → Prop} {ad0 : Nat → Nat} {Q : Int32 → St → Prop} {x1 : Int32} {x2 : Int32} {σ : St} (X : Cx p rmX5_order s m args meth c cX5_order 6 RX5 D cA A) (hr : meth.sig.returnType = some .int) (h : w_X5_order Q x1 x2 σ) : G p l e rmX5_order s m args below meth c 6 D cA A (MQ below (va_Qi Q (EndW D cA ad0 shR) A) args s 0 0 A) 0 0 (fun ad => ad = ad0) shR σ [(0, .ref 0), (1, .int x1), (2, .int x2)] 0 [] := by
  unfold w_X5_order at h
  refine g_aload_n X 0 dX5_order_0 rfl rfl ?_
  refine g_iconst X (0 : Int32) dX5_order_1 (by decide) ?_
  refine g_putI X (C := RX5) (T := TX5) (N := 23) (ty0 := tyX5) 0 dX5_order_2 (Nat.le_of_ble_eq_true rfl) rfl rfl rfl inG5 tyX5_ok nmX5 (Nat.le_of_ble_eq_true rfl) rfl rfl q569 rfl rfl ?_
  refine g_nameS (fun σ1 eσ1 => ?_)
  have h := h σ1 eσ1
  refine g_iload_n X 1 dX5_order_5 rfl rfl ?_
  refine g_callSI X (n := 1) [.int x1] [] dX5_order_6 (c_X5_isKeeper l D cA shR h) q731 q732 q57 q733 ⟨by decide, by decide, by decide +kernel⟩ rfl rfl (Nat.le_of_ble_eq_true rfl) rfl rfl ⟨(Nat.le_of_ble_eq_true rfl), (Nat.le_of_ble_eq_true rfl)⟩ (Nat.le_of_ble_eq_true rfl) (Nat.le_of_ble_eq_true rfl) (fun r3 σ2 h => ?_)
  refine g_if_eq X 19 dX5_order_9 (by decide) (fun hc => ?_) (fun hc => ?_)
  · have h := h.1 hc
    refine g_bipush X (-3 : Int32) dX5_order_19 (by decide) ?_
    exact g_iret X hr dX5_order_21 rfl h
  · have h := h.2 hc
    refine g_iload_n X 2 dX5_order_12 rfl rfl ?_
    refine g_callSI X (n := 1) [.int x2] [] dX5_order_13 (c_X5_isKeeper l D cA shR h) q731 q732 q57 q733 ⟨by decide, by decide, by decide +kernel⟩ rfl rfl (Nat.le_of_ble_eq_true rfl) rfl rfl ⟨(Nat.le_of_ble_eq_true rfl), (Nat.le_of_ble_eq_true rfl)⟩ (Nat.le_of_ble_eq_true rfl) (Nat.le_of_ble_eq_true rfl) (fun r5 σ4 h => ?_)
    refine g_if_ne X 22 dX5_order_16 (by decide) (fun hc => ?_) (fun hc => ?_)
    · have h := h.1 hc
      refine g_aload_n X 0 dX5_order_22 rfl rfl ?_
      refine g_getR X (C := RX5) (T := TX5) (N := 23) 6 dX5_order_23 (Nat.le_of_ble_eq_true rfl) rfl rfl rfl inG5 (Nat.le_of_ble_eq_true rfl) rfl rfl q575 ?_
      refine g_iload_n X 1 dX5_order_26 rfl rfl ?_
      obtain ⟨hi6, h⟩ := h
      refine g_iald X dX5_order_27 (Nat.le_of_ble_eq_true rfl) rfl hi6 ?_
      refine g_iconst X (-1 : Int32) dX5_order_28 (by decide) ?_
      refine g_icmp_eq X 42 dX5_order_29 (by decide) (fun hc => ?_) (fun hc => ?_)
      · have h := h.1 hc
        refine g_bipush X (-11 : Int32) dX5_order_42 (by decide) ?_
        exact g_iret X hr dX5_order_44 rfl h
      · have h := h.2 hc
        refine g_aload_n X 0 dX5_order_32 rfl rfl ?_
        refine g_getR X (C := RX5) (T := TX5) (N := 23) 6 dX5_order_33 (Nat.le_of_ble_eq_true rfl) rfl rfl rfl inG5 (Nat.le_of_ble_eq_true rfl) rfl rfl q575 ?_
        refine g_iload_n X 2 dX5_order_36 rfl rfl ?_
        obtain ⟨hi7, h⟩ := h
        refine g_iald X dX5_order_37 (Nat.le_of_ble_eq_true rfl) rfl hi7 ?_
        refine g_iconst X (-1 : Int32) dX5_order_38 (by decide) ?_
        refine g_icmp_ne X 45 dX5_order_39 (by decide) (fun hc => ?_) (fun hc => ?_)
        · have h := h.1 hc
          refine g_sipush X (152 : Int32) dX5_order_45 (by decide) ?_
          refine g_iload_n X 1 dX5_order_48 rfl rfl ?_
          refine g_imul X dX5_order_49 ?_
          refine g_sipush X (152 : Int32) dX5_order_50 (by decide) ?_
          refine g_iadd X dX5_order_53 ?_
          refine g_iconst X (1 : Int32) dX5_order_54 (by decide) ?_
          refine g_isub X dX5_order_55 ?_
          refine g_nameI (fun y8 ey8 => ?_)
          have h := h y8 ey8
          refine g_istore_n X [(3, .int y8), (0, .ref 0), (1, .int x1), (2, .int x2)] dX5_order_56 rfl (Nat.le_of_ble_eq_true rfl) rfl ?_
          refine g_sipush X (152 : Int32) dX5_order_57 (by decide) ?_
          refine g_iload_n X 3 dX5_order_60 rfl rfl ?_
          refine g_imul X dX5_order_61 ?_
          refine g_sipush X (152 : Int32) dX5_order_62 (by decide) ?_
          refine g_iadd X dX5_order_65 ?_
          refine g_iconst X (1 : Int32) dX5_order_66 (by decide) ?_
          refine g_isub X dX5_order_67 ?_
          refine g_nameI (fun y9 ey9 => ?_)
          have h := h y9 ey9
          refine g_istore X [(4, .int y9), (3, .int y8), (0, .ref 0), (1, .int x1), (2, .int x2)] dX5_order_68 (Nat.le_of_ble_eq_true rfl) rfl ?_
          refine g_aload_n X 2 dX5_order_70 rfl rfl ?_
          refine g_getR X (C := RX5) (T := TX5) (N := 23) 7 dX5_order_71 (Nat.le_of_ble_eq_true rfl) rfl rfl rfl inG5 (Nat.le_of_ble_eq_true rfl) rfl rfl q576 ?_
          refine g_iload_n X 1 dX5_order_74 rfl rfl ?_
          obtain ⟨hi10, h⟩ := h
          refine g_iald X dX5_order_75 (Nat.le_of_ble_eq_true rfl) rfl hi10 ?_
          refine g_aload_n X 2 dX5_order_76 rfl rfl ?_
          refine g_getR X (C := RX5) (T := TX5) (N := 23) 7 dX5_order_77 (Nat.le_of_ble_eq_true rfl) rfl rfl rfl inG5 (Nat.le_of_ble_eq_true rfl) rfl rfl q576 ?_
          refine g_iload X 0 dX5_order_80 rfl ?_
          obtain ⟨hi11, h⟩ := h
          refine g_iald X dX5_order_82 (Nat.le_of_ble_eq_true rfl) rfl hi11 ?_
          refine g_icmp_eq X 108 dX5_order_83 (by decide) (fun hc => ?_) (fun hc => ?_)
          · have h := h.1 hc
            refine g_iconst X (1 : Int32) dX5_order_108 (by decide) ?_
            refine g_istore X [(5, .int (1 : Int32)), (4, .int y9), (3, .int y8), (0, .ref 0), (1, .int x1), (2, .int x2)] dX5_order_109 (Nat.le_of_ble_eq_true rfl) rfl ?_
            refine g_weak [3, 2, 1, 0] rfl ?_
            obtain ⟨fu17, h⟩ := h
            exact b_X5_order_111 X hr fu17 _ _ _ _ h
          · have h := h.2 hc
            refine g_aload_n X 2 dX5_order_86 rfl rfl ?_
            refine g_getR X (C := RX5) (T := TX5) (N := 23) 7 dX5_order_87 (Nat.le_of_ble_eq_true rfl) rfl rfl rfl inG5 (Nat.le_of_ble_eq_true rfl) rfl rfl q576 ?_
            refine g_iload_n X 1 dX5_order_90 rfl rfl ?_
            obtain ⟨hi18, h⟩ := h
            refine g_iald X dX5_order_91 (Nat.le_of_ble_eq_true rfl) rfl hi18 ?_
            refine g_aload_n X 2 dX5_order_92 rfl rfl ?_
            refine g_getR X (C := RX5) (T := TX5) (N := 23) 7 dX5_order_93 (Nat.le_of_ble_eq_true rfl) rfl rfl rfl inG5 (Nat.le_of_ble_eq_true rfl) rfl rfl q576 ?_
            refine g_iload X 0 dX5_order_96 rfl ?_
            obtain ⟨hi19, h⟩ := h
            refine g_iald X dX5_order_98 (Nat.le_of_ble_eq_true rfl) rfl hi19 ?_
            refine g_icmp_ge X 106 dX5_order_99 (by decide) (fun hc => ?_) (fun hc => ?_)
            · have h := h.1 hc
              refine g_iconst X (3 : Int32) dX5_order_106 (by decide) ?_
              exact g_iret X hr dX5_order_107 rfl h
            · have h := h.2 hc
              refine g_iconst X (2 : Int32) dX5_order_102 (by decide) ?_
              refine g_goto X 107 dX5_order_103 (by decide) ?_
              exact g_iret X hr dX5_order_107 rfl h
        · have h := h.2 hc
          refine g_bipush X (-11 : Int32) dX5_order_42 (by decide) ?_
          exact g_iret X hr dX5_order_44 rfl h
    · have h := h.2 hc
      refine g_bipush X (-3 : Int32) dX5_order_19 (by decide) ?_
      exact g_iret X hr dX5_order_21 rfl h
theorem c_X5_order (l : Launch) (D : va_G) (cA : Nat → ClassId) {x1 : Int32} {x2 : Int32} {σ : St} {Q : Int32 → St → Prop} (h : w_X5_order Q x1 x2 σ) : CtI l yX5_order cX5_order 6 (some .int) rmX5_order D cA shR [.ref 0, .int x1, .int x2] σ Q := by
  refine CtI.of (own := RX5) rfl (by decide +kernel) [(0, .ref 0), (1, .int x1), (2, .int x2)] rfl (Nat.le_of_ble_eq_true rfl) ?_
  intro p e s m args below meth c ad0 A X hr
  exact b_X5_order_0 X hr  h
def rmX5_count : Room := { frames := 1, cells := 0, slots := 0, locals := 23 }
def w_X5_count_50 (Q : Int32 → St → Prop) : Nat → Int32 → Int32 → St → Prop
  | 0, _, _, _ => False
  | n + 1, x2, x3, σ => (((12 : Int32) ≤ x3 → (Q x2 σ)) ∧ (¬ (12 : Int32) ≤ x3 → w_X5_isThere (fun r3 σ2 => ((r3 = 0 → ∀ y4 : Int32, y4 = (x2 + (0 : Int32)) → ∀ y5 : Int32, y5 = x3 + (1 : Int32) → (w_X5_count_50 Q n y4 y5 σ2)) ∧ (¬ r3 = 0 → ∀ y6 : Int32, y6 = (x2 + (1 : Int32)) → ∀ y7 : Int32, y7 = x3 + (1 : Int32) → (w_X5_count_50 Q n y6 y7 σ2)))) x3 σ))
set_option maxRecDepth 100000 in
set_option maxHeartbeats 4000000 in
theorem b_X5_count_50 {p : Program} {l : Launch} {e : Env} {s : State} {m : MethodId} {args : Array Value} {below : List Frame} {meth : Method} {c : Code} {D : va_G} {cA : Nat → ClassId} {A : Nat → Prop} {ad0 : Nat → Nat} {Q : Int32 → St → Prop} (X : Cx p rmX5_count s m args meth c cX5_count 4 RX5 D cA A) (hr : meth.sig.returnType = some .int) : ∀ (n : Nat) (x2 : Int32) (x3 : Int32) (σ : St), w_X5_count_50 Q n x2 x3 σ → G p l e rmX5_count s m args below meth c 4 D cA A (MQ below (va_Qi Q (EndW D cA ad0 shR) A) args s 0 0 A) 0 0 (fun ad => ad = ad0) shR σ [(0, .ref 0), (2, .int x2), (3, .int x3)] 50 [] := by
  intro n
  induction n with
  | zero => intro x2 x3 σ h; exact h.elim
  | succ n ih =>
    intro x2 x3 σ h
    rw [w_X5_count_50] at h
    refine g_iload_n X 2 dX5_count_50 rfl rfl ?_
    refine g_bipush X (12 : Int32) dX5_count_51 (by decide) ?_
    refine g_icmp_ge X 78 dX5_count_53 (by decide) (fun hc => ?_) (fun hc => ?_)
    · have h := h.1 hc
      refine g_iload_n X 1 dX5_count_78 rfl rfl ?_
      exact g_iret X hr dX5_count_79 rfl h
    · have h := h.2 hc
      refine g_iload_n X 1 dX5_count_56 rfl rfl ?_
      refine g_aload_n X 0 dX5_count_57 rfl rfl ?_
      refine g_iload_n X 2 dX5_count_58 rfl rfl ?_
      refine g_callVI X (C := RX5) (T := TX5) (N := 23) (n := 1) [.int x3] [.int x2] dX5_count_59 (c_X5_isThere l D cA h) q656 q658 q18 q57 q659 (Nat.le_of_ble_eq_true rfl) rfl rfl ⟨rfl, by decide, by decide, by decide +kernel⟩ rfl rfl (Nat.le_of_ble_eq_true rfl) rfl rfl ⟨(Nat.le_of_ble_eq_true rfl), (Nat.le_of_ble_eq_true rfl)⟩ (Nat.le_of_ble_eq_true rfl) (Nat.le_of_ble_eq_true rfl) (fun r3 σ2 h => ?_)
      refine g_if_eq X 69 dX5_count_62 (by decide) (fun hc => ?_) (fun hc => ?_)
      · have h := h.1 hc
        refine g_iconst X (0 : Int32) dX5_count_69 (by decide) ?_
        refine g_iadd X dX5_count_70 ?_
        refine g_nameI (fun y4 ey4 => ?_)
        have h := h y4 ey4
        refine g_istore_n X [(2, .int y4), (0, .ref 0), (3, .int x3)] dX5_count_71 rfl (Nat.le_of_ble_eq_true rfl) rfl ?_
        obtain ⟨y5, ey5⟩ : ∃ y : Int32, y = x3 + (1 : Int32) := ⟨_, rfl⟩
        have h := h y5 ey5
        refine g_iinc X 2 (1 : Int32) [(3, .int y5), (2, .int y4), (0, .ref 0)] dX5_count_72 rfl (by decide) (Nat.le_of_ble_eq_true rfl) (by rw [ey5]; rfl) ?_
        refine g_goto X 50 dX5_count_75 (by decide) ?_
        refine g_weak [2, 1, 0] rfl ?_
        exact ih _ _ _ h
      · have h := h.2 hc
        refine g_iconst X (1 : Int32) dX5_count_65 (by decide) ?_
        refine g_goto X 70 dX5_count_66 (by decide) ?_
        refine g_iadd X dX5_count_70 ?_
        refine g_nameI (fun y6 ey6 => ?_)
        have h := h y6 ey6
        refine g_istore_n X [(2, .int y6), (0, .ref 0), (3, .int x3)] dX5_count_71 rfl (Nat.le_of_ble_eq_true rfl) rfl ?_
        obtain ⟨y7, ey7⟩ : ∃ y : Int32, y = x3 + (1 : Int32) := ⟨_, rfl⟩
        have h := h y7 ey7
        refine g_iinc X 2 (1 : Int32) [(3, .int y7), (2, .int y6), (0, .ref 0)] dX5_count_72 rfl (by decide) (Nat.le_of_ble_eq_true rfl) (by rw [ey7]; rfl) ?_
        refine g_goto X 50 dX5_count_75 (by decide) ?_
        refine g_weak [2, 1, 0] rfl ?_
        exact ih _ _ _ h
def w_X5_count_82 (Q : Int32 → St → Prop) : Nat → Int32 → Int32 → St → Prop
  | 0, _, _, _ => False
  | n + 1, x2, x3, σ => (((6 : Int32) ≤ x3 → (Q x2 σ)) ∧ (¬ (6 : Int32) ≤ x3 → vp_in x3 7 ∧ (((gI σ 6 (ix x3)) = (-1 : Int32) → ∀ y10 : Int32, y10 = (x2 + (0 : Int32)) → ∀ y11 : Int32, y11 = x3 + (1 : Int32) → (w_X5_count_82 Q n y10 y11 σ)) ∧ (¬ (gI σ 6 (ix x3)) = (-1 : Int32) → ∀ y12 : Int32, y12 = (x2 + (1 : Int32)) → ∀ y13 : Int32, y13 = x3 + (1 : Int32) → (w_X5_count_82 Q n y12 y13 σ)))))
set_option maxRecDepth 100000 in
set_option maxHeartbeats 4000000 in
theorem b_X5_count_82 {p : Program} {l : Launch} {e : Env} {s : State} {m : MethodId} {args : Array Value} {below : List Frame} {meth : Method} {c : Code} {D : va_G} {cA : Nat → ClassId} {A : Nat → Prop} {ad0 : Nat → Nat} {Q : Int32 → St → Prop} (X : Cx p rmX5_count s m args meth c cX5_count 4 RX5 D cA A) (hr : meth.sig.returnType = some .int) : ∀ (n : Nat) (x2 : Int32) (x3 : Int32) (σ : St), w_X5_count_82 Q n x2 x3 σ → G p l e rmX5_count s m args below meth c 4 D cA A (MQ below (va_Qi Q (EndW D cA ad0 shR) A) args s 0 0 A) 0 0 (fun ad => ad = ad0) shR σ [(0, .ref 0), (2, .int x2), (3, .int x3)] 82 [] := by
  intro n
  induction n with
  | zero => intro x2 x3 σ h; exact h.elim
  | succ n ih =>
    intro x2 x3 σ h
    rw [w_X5_count_82] at h
    refine g_iload_n X 2 dX5_count_82 rfl rfl ?_
    refine g_bipush X (6 : Int32) dX5_count_83 (by decide) ?_
    refine g_icmp_ge X 112 dX5_count_85 (by decide) (fun hc => ?_) (fun hc => ?_)
    · have h := h.1 hc
      refine g_iload_n X 1 dX5_count_112 rfl rfl ?_
      exact g_iret X hr dX5_count_113 rfl h
    · have h := h.2 hc
      refine g_iload_n X 1 dX5_count_88 rfl rfl ?_
      refine g_aload_n X 0 dX5_count_89 rfl rfl ?_
      refine g_getR X (C := RX5) (T := TX5) (N := 23) 6 dX5_count_90 (Nat.le_of_ble_eq_true rfl) rfl rfl rfl inG5 (Nat.le_of_ble_eq_true rfl) rfl rfl q575 ?_
      refine g_iload_n X 2 dX5_count_93 rfl rfl ?_
      obtain ⟨hi9, h⟩ := h
      refine g_iald X dX5_count_94 (Nat.le_of_ble_eq_true rfl) rfl hi9 ?_
      refine g_iconst X (-1 : Int32) dX5_count_95 (by decide) ?_
      refine g_icmp_eq X 103 dX5_count_96 (by decide) (fun hc => ?_) (fun hc => ?_)
      · have h := h.1 hc
        refine g_iconst X (0 : Int32) dX5_count_103 (by decide) ?_
        refine g_iadd X dX5_count_104 ?_
        refine g_nameI (fun y10 ey10 => ?_)
        have h := h y10 ey10
        refine g_istore_n X [(2, .int y10), (0, .ref 0), (3, .int x3)] dX5_count_105 rfl (Nat.le_of_ble_eq_true rfl) rfl ?_
        obtain ⟨y11, ey11⟩ : ∃ y : Int32, y = x3 + (1 : Int32) := ⟨_, rfl⟩
        have h := h y11 ey11
        refine g_iinc X 2 (1 : Int32) [(3, .int y11), (2, .int y10), (0, .ref 0)] dX5_count_106 rfl (by decide) (Nat.le_of_ble_eq_true rfl) (by rw [ey11]; rfl) ?_
        refine g_goto X 82 dX5_count_109 (by decide) ?_
        refine g_weak [2, 1, 0] rfl ?_
        exact ih _ _ _ h
      · have h := h.2 hc
        refine g_iconst X (1 : Int32) dX5_count_99 (by decide) ?_
        refine g_goto X 104 dX5_count_100 (by decide) ?_
        refine g_iadd X dX5_count_104 ?_
        refine g_nameI (fun y12 ey12 => ?_)
        have h := h y12 ey12
        refine g_istore_n X [(2, .int y12), (0, .ref 0), (3, .int x3)] dX5_count_105 rfl (Nat.le_of_ble_eq_true rfl) rfl ?_
        obtain ⟨y13, ey13⟩ : ∃ y : Int32, y = x3 + (1 : Int32) := ⟨_, rfl⟩
        have h := h y13 ey13
        refine g_iinc X 2 (1 : Int32) [(3, .int y13), (2, .int y12), (0, .ref 0)] dX5_count_106 rfl (by decide) (Nat.le_of_ble_eq_true rfl) (by rw [ey13]; rfl) ?_
        refine g_goto X 82 dX5_count_109 (by decide) ?_
        refine g_weak [2, 1, 0] rfl ?_
        exact ih _ _ _ h
def w_X5_count_121 (Q : Int32 → St → Prop) : Nat → Int32 → Int32 → St → Prop
  | 0, _, _, _ => False
  | n + 1, x2, x3, σ => (((12 : Int32) ≤ x3 → (Q x2 σ)) ∧ (¬ (12 : Int32) ≤ x3 → w_X5_isThere (fun r16 σ15 => ((r16 = 0 → ∀ y17 : Int32, y17 = (x2 + (0 : Int32)) → ∀ y18 : Int32, y18 = x3 + (1 : Int32) → (w_X5_count_121 Q n y17 y18 σ15)) ∧ (¬ r16 = 0 → vp_in x3 12 ∧ ∀ y20 : Int32, y20 = (x2 + (gI σ15 2 (ix x3))) → ∀ y21 : Int32, y21 = x3 + (1 : Int32) → (w_X5_count_121 Q n y20 y21 σ15)))) x3 σ))
set_option maxRecDepth 100000 in
set_option maxHeartbeats 4000000 in
theorem b_X5_count_121 {p : Program} {l : Launch} {e : Env} {s : State} {m : MethodId} {args : Array Value} {below : List Frame} {meth : Method} {c : Code} {D : va_G} {cA : Nat → ClassId} {A : Nat → Prop} {ad0 : Nat → Nat} {Q : Int32 → St → Prop} (X : Cx p rmX5_count s m args meth c cX5_count 4 RX5 D cA A) (hr : meth.sig.returnType = some .int) : ∀ (n : Nat) (x2 : Int32) (x3 : Int32) (σ : St), w_X5_count_121 Q n x2 x3 σ → G p l e rmX5_count s m args below meth c 4 D cA A (MQ below (va_Qi Q (EndW D cA ad0 shR) A) args s 0 0 A) 0 0 (fun ad => ad = ad0) shR σ [(0, .ref 0), (2, .int x2), (3, .int x3)] 121 [] := by
  intro n
  induction n with
  | zero => intro x2 x3 σ h; exact h.elim
  | succ n ih =>
    intro x2 x3 σ h
    rw [w_X5_count_121] at h
    refine g_iload_n X 2 dX5_count_121 rfl rfl ?_
    refine g_bipush X (12 : Int32) dX5_count_122 (by decide) ?_
    refine g_icmp_ge X 154 dX5_count_124 (by decide) (fun hc => ?_) (fun hc => ?_)
    · have h := h.1 hc
      refine g_iload_n X 1 dX5_count_154 rfl rfl ?_
      exact g_iret X hr dX5_count_155 rfl h
    · have h := h.2 hc
      refine g_iload_n X 1 dX5_count_127 rfl rfl ?_
      refine g_aload_n X 0 dX5_count_128 rfl rfl ?_
      refine g_iload_n X 2 dX5_count_129 rfl rfl ?_
      refine g_callVI X (C := RX5) (T := TX5) (N := 23) (n := 1) [.int x3] [.int x2] dX5_count_130 (c_X5_isThere l D cA h) q656 q658 q18 q57 q659 (Nat.le_of_ble_eq_true rfl) rfl rfl ⟨rfl, by decide, by decide, by decide +kernel⟩ rfl rfl (Nat.le_of_ble_eq_true rfl) rfl rfl ⟨(Nat.le_of_ble_eq_true rfl), (Nat.le_of_ble_eq_true rfl)⟩ (Nat.le_of_ble_eq_true rfl) (Nat.le_of_ble_eq_true rfl) (fun r16 σ15 h => ?_)
      refine g_if_eq X 145 dX5_count_133 (by decide) (fun hc => ?_) (fun hc => ?_)
      · have h := h.1 hc
        refine g_iconst X (0 : Int32) dX5_count_145 (by decide) ?_
        refine g_iadd X dX5_count_146 ?_
        refine g_nameI (fun y17 ey17 => ?_)
        have h := h y17 ey17
        refine g_istore_n X [(2, .int y17), (0, .ref 0), (3, .int x3)] dX5_count_147 rfl (Nat.le_of_ble_eq_true rfl) rfl ?_
        obtain ⟨y18, ey18⟩ : ∃ y : Int32, y = x3 + (1 : Int32) := ⟨_, rfl⟩
        have h := h y18 ey18
        refine g_iinc X 2 (1 : Int32) [(3, .int y18), (2, .int y17), (0, .ref 0)] dX5_count_148 rfl (by decide) (Nat.le_of_ble_eq_true rfl) (by rw [ey18]; rfl) ?_
        refine g_goto X 121 dX5_count_151 (by decide) ?_
        refine g_weak [2, 1, 0] rfl ?_
        exact ih _ _ _ h
      · have h := h.2 hc
        refine g_aload_n X 0 dX5_count_136 rfl rfl ?_
        refine g_getR X (C := RX5) (T := TX5) (N := 23) 2 dX5_count_137 (Nat.le_of_ble_eq_true rfl) rfl rfl rfl inG5 (Nat.le_of_ble_eq_true rfl) rfl rfl q571 ?_
        refine g_iload_n X 2 dX5_count_140 rfl rfl ?_
        obtain ⟨hi19, h⟩ := h
        refine g_iald X dX5_count_141 (Nat.le_of_ble_eq_true rfl) rfl hi19 ?_
        refine g_goto X 146 dX5_count_142 (by decide) ?_
        refine g_iadd X dX5_count_146 ?_
        refine g_nameI (fun y20 ey20 => ?_)
        have h := h y20 ey20
        refine g_istore_n X [(2, .int y20), (0, .ref 0), (3, .int x3)] dX5_count_147 rfl (Nat.le_of_ble_eq_true rfl) rfl ?_
        obtain ⟨y21, ey21⟩ : ∃ y : Int32, y = x3 + (1 : Int32) := ⟨_, rfl⟩
        have h := h y21 ey21
        refine g_iinc X 2 (1 : Int32) [(3, .int y21), (2, .int y20), (0, .ref 0)] dX5_count_148 rfl (by decide) (Nat.le_of_ble_eq_true rfl) (by rw [ey21]; rfl) ?_
        refine g_goto X 121 dX5_count_151 (by decide) ?_
        refine g_weak [2, 1, 0] rfl ?_
        exact ih _ _ _ h
def w_X5_count_163 (Q : Int32 → St → Prop) : Nat → Int32 → Int32 → St → Prop
  | 0, _, _, _ => False
  | n + 1, x2, x3, σ => (((6 : Int32) ≤ x3 → (Q x2 σ)) ∧ (¬ (6 : Int32) ≤ x3 → vp_in x3 7 ∧ (((gI σ 6 (ix x3)) = (-1 : Int32) → ∀ y24 : Int32, y24 = (x2 + (0 : Int32)) → ∀ y25 : Int32, y25 = x3 + (1 : Int32) → (w_X5_count_163 Q n y24 y25 σ)) ∧ (¬ (gI σ 6 (ix x3)) = (-1 : Int32) → w_X5_sortOf_ (fun r27 σ26 => ((¬ r27 = (3 : Int32) → ∀ y28 : Int32, y28 = (x2 + (0 : Int32)) → ∀ y29 : Int32, y29 = x3 + (1 : Int32) → (w_X5_count_163 Q n y28 y29 σ26)) ∧ (r27 = (3 : Int32) → ∀ y30 : Int32, y30 = (x2 + (1 : Int32)) → ∀ y31 : Int32, y31 = x3 + (1 : Int32) → (w_X5_count_163 Q n y30 y31 σ26)))) x3 σ))))
set_option maxRecDepth 100000 in
set_option maxHeartbeats 4000000 in
theorem b_X5_count_163 {p : Program} {l : Launch} {e : Env} {s : State} {m : MethodId} {args : Array Value} {below : List Frame} {meth : Method} {c : Code} {D : va_G} {cA : Nat → ClassId} {A : Nat → Prop} {ad0 : Nat → Nat} {Q : Int32 → St → Prop} (X : Cx p rmX5_count s m args meth c cX5_count 4 RX5 D cA A) (hr : meth.sig.returnType = some .int) : ∀ (n : Nat) (x2 : Int32) (x3 : Int32) (σ : St), w_X5_count_163 Q n x2 x3 σ → G p l e rmX5_count s m args below meth c 4 D cA A (MQ below (va_Qi Q (EndW D cA ad0 shR) A) args s 0 0 A) 0 0 (fun ad => ad = ad0) shR σ [(0, .ref 0), (2, .int x2), (3, .int x3)] 163 [] := by
  intro n
  induction n with
  | zero => intro x2 x3 σ h; exact h.elim
  | succ n ih =>
    intro x2 x3 σ h
    rw [w_X5_count_163] at h
    refine g_iload_n X 2 dX5_count_163 rfl rfl ?_
    refine g_bipush X (6 : Int32) dX5_count_164 (by decide) ?_
    refine g_icmp_ge X 202 dX5_count_166 (by decide) (fun hc => ?_) (fun hc => ?_)
    · have h := h.1 hc
      refine g_iload_n X 1 dX5_count_202 rfl rfl ?_
      exact g_iret X hr dX5_count_203 rfl h
    · have h := h.2 hc
      refine g_iload_n X 1 dX5_count_169 rfl rfl ?_
      refine g_aload_n X 0 dX5_count_170 rfl rfl ?_
      refine g_getR X (C := RX5) (T := TX5) (N := 23) 6 dX5_count_171 (Nat.le_of_ble_eq_true rfl) rfl rfl rfl inG5 (Nat.le_of_ble_eq_true rfl) rfl rfl q575 ?_
      refine g_iload_n X 2 dX5_count_174 rfl rfl ?_
      obtain ⟨hi23, h⟩ := h
      refine g_iald X dX5_count_175 (Nat.le_of_ble_eq_true rfl) rfl hi23 ?_
      refine g_iconst X (-1 : Int32) dX5_count_176 (by decide) ?_
      refine g_icmp_eq X 193 dX5_count_177 (by decide) (fun hc => ?_) (fun hc => ?_)
      · have h := h.1 hc
        refine g_iconst X (0 : Int32) dX5_count_193 (by decide) ?_
        refine g_iadd X dX5_count_194 ?_
        refine g_nameI (fun y24 ey24 => ?_)
        have h := h y24 ey24
        refine g_istore_n X [(2, .int y24), (0, .ref 0), (3, .int x3)] dX5_count_195 rfl (Nat.le_of_ble_eq_true rfl) rfl ?_
        obtain ⟨y25, ey25⟩ : ∃ y : Int32, y = x3 + (1 : Int32) := ⟨_, rfl⟩
        have h := h y25 ey25
        refine g_iinc X 2 (1 : Int32) [(3, .int y25), (2, .int y24), (0, .ref 0)] dX5_count_196 rfl (by decide) (Nat.le_of_ble_eq_true rfl) (by rw [ey25]; rfl) ?_
        refine g_goto X 163 dX5_count_199 (by decide) ?_
        refine g_weak [2, 1, 0] rfl ?_
        exact ih _ _ _ h
      · have h := h.2 hc
        refine g_aload_n X 0 dX5_count_180 rfl rfl ?_
        refine g_iload_n X 2 dX5_count_181 rfl rfl ?_
        refine g_callVI X (C := RX5) (T := TX5) (N := 23) (n := 1) [.int x3] [.int x2] dX5_count_182 (c_X5_sortOf_ l D cA h) q832 q834 q38 q57 q835 (Nat.le_of_ble_eq_true rfl) rfl rfl ⟨rfl, by decide, by decide, by decide +kernel⟩ rfl rfl (Nat.le_of_ble_eq_true rfl) rfl rfl ⟨(Nat.le_of_ble_eq_true rfl), (Nat.le_of_ble_eq_true rfl)⟩ (Nat.le_of_ble_eq_true rfl) (Nat.le_of_ble_eq_true rfl) (fun r27 σ26 h => ?_)
        refine g_iconst X (3 : Int32) dX5_count_185 (by decide) ?_
        refine g_icmp_ne X 193 dX5_count_186 (by decide) (fun hc => ?_) (fun hc => ?_)
        · have h := h.1 hc
          refine g_iconst X (0 : Int32) dX5_count_193 (by decide) ?_
          refine g_iadd X dX5_count_194 ?_
          refine g_nameI (fun y28 ey28 => ?_)
          have h := h y28 ey28
          refine g_istore_n X [(2, .int y28), (0, .ref 0), (3, .int x3)] dX5_count_195 rfl (Nat.le_of_ble_eq_true rfl) rfl ?_
          obtain ⟨y29, ey29⟩ : ∃ y : Int32, y = x3 + (1 : Int32) := ⟨_, rfl⟩
          have h := h y29 ey29
          refine g_iinc X 2 (1 : Int32) [(3, .int y29), (2, .int y28), (0, .ref 0)] dX5_count_196 rfl (by decide) (Nat.le_of_ble_eq_true rfl) (by rw [ey29]; rfl) ?_
          refine g_goto X 163 dX5_count_199 (by decide) ?_
          refine g_weak [2, 1, 0] rfl ?_
          exact ih _ _ _ h
        · have h := h.2 hc
          refine g_iconst X (1 : Int32) dX5_count_189 (by decide) ?_
          refine g_goto X 194 dX5_count_190 (by decide) ?_
          refine g_iadd X dX5_count_194 ?_
          refine g_nameI (fun y30 ey30 => ?_)
          have h := h y30 ey30
          refine g_istore_n X [(2, .int y30), (0, .ref 0), (3, .int x3)] dX5_count_195 rfl (Nat.le_of_ble_eq_true rfl) rfl ?_
          obtain ⟨y31, ey31⟩ : ∃ y : Int32, y = x3 + (1 : Int32) := ⟨_, rfl⟩
          have h := h y31 ey31
          refine g_iinc X 2 (1 : Int32) [(3, .int y31), (2, .int y30), (0, .ref 0)] dX5_count_196 rfl (by decide) (Nat.le_of_ble_eq_true rfl) (by rw [ey31]; rfl) ?_
          refine g_goto X 163 dX5_count_199 (by decide) ?_
          refine g_weak [2, 1, 0] rfl ?_
          exact ih _ _ _ h
def w_X5_count (Q : Int32 → St → Prop) (x1 : Int32) (σ : St) : Prop := ∀ σ1 : St, σ1 = uI σ 0 0 (0 : Int32) → ((x1 = 0 → (∃ fu8 : Nat, w_X5_count_50 Q fu8 (0 : Int32) (0 : Int32) σ1)) ∧ (x1 = 1 → (∃ fu14 : Nat, w_X5_count_82 Q fu14 (0 : Int32) (0 : Int32) σ1)) ∧ (x1 = 2 → (Q (gI σ1 0 15) σ1)) ∧ (x1 = 3 → (∃ fu22 : Nat, w_X5_count_121 Q fu22 (0 : Int32) (0 : Int32) σ1)) ∧ (x1 = 4 → (Q (gI σ1 0 9) σ1)) ∧ (x1 = 5 → (∃ fu32 : Nat, w_X5_count_163 Q fu32 (0 : Int32) (0 : Int32) σ1)) ∧ (¬ x1 = 0 → ¬ x1 = 1 → ¬ x1 = 2 → ¬ x1 = 3 → ¬ x1 = 4 → ¬ x1 = 5 → (Q (-3 : Int32) σ1)))
set_option maxRecDepth 100000 in
set_option maxHeartbeats 4000000 in
theorem b_X5_count_0 {p : Program} {l : Launch} {e : Env} {s : State} {m : MethodId} {args : Array Value} {below : List Frame} {meth : Method} {c : Code} {D : va_G} {cA : Nat → ClassId} {A : Nat → Prop} {ad0 : Nat → Nat} {Q : Int32 → St → Prop} {x1 : Int32} {σ : St} (X : Cx p rmX5_count s m args meth c cX5_count 4 RX5 D cA A) (hr : meth.sig.returnType = some .int) (h : w_X5_count Q x1 σ) : G p l e rmX5_count s m args below meth c 4 D cA A (MQ below (va_Qi Q (EndW D cA ad0 shR) A) args s 0 0 A) 0 0 (fun ad => ad = ad0) shR σ [(0, .ref 0), (1, .int x1)] 0 [] := by
  unfold w_X5_count at h
  refine g_aload_n X 0 dX5_count_0 rfl rfl ?_
  refine g_iconst X (0 : Int32) dX5_count_1 (by decide) ?_
  refine g_putI X (C := RX5) (T := TX5) (N := 23) (ty0 := tyX5) 0 dX5_count_2 (Nat.le_of_ble_eq_true rfl) rfl rfl rfl inG5 tyX5_ok nmX5 (Nat.le_of_ble_eq_true rfl) rfl rfl q569 rfl rfl ?_
  refine g_nameS (fun σ1 eσ1 => ?_)
  have h := h σ1 eσ1
  refine g_iconst X (0 : Int32) dX5_count_5 (by decide) ?_
  refine g_istore_n X [(2, .int (0 : Int32)), (0, .ref 0), (1, .int x1)] dX5_count_6 rfl (Nat.le_of_ble_eq_true rfl) rfl ?_
  refine g_iload_n X 2 dX5_count_7 rfl rfl ?_
  by_cases hc0 : x1 = 0
  · have h := h.1 hc0
    refine g_tabIn X 48 (40) dX5_count_8 (by rw [hc0]; decide) (by rw [hc0]; decide) (by rw [hc0]; rfl) (by decide) ?_
    refine g_iconst X (0 : Int32) dX5_count_48 (by decide) ?_
    refine g_istore_n X [(3, .int (0 : Int32)), (2, .int (0 : Int32)), (0, .ref 0), (1, .int x1)] dX5_count_49 rfl (Nat.le_of_ble_eq_true rfl) rfl ?_
    refine g_weak [2, 1, 0] rfl ?_
    obtain ⟨fu8, h⟩ := h
    exact b_X5_count_50 X hr fu8 _ _ _ h
  by_cases hc1 : x1 = 1
  · have h := h.2.1 hc1
    refine g_tabIn X 80 (72) dX5_count_8 (by rw [hc1]; decide) (by rw [hc1]; decide) (by rw [hc1]; rfl) (by decide) ?_
    refine g_iconst X (0 : Int32) dX5_count_80 (by decide) ?_
    refine g_istore_n X [(3, .int (0 : Int32)), (2, .int (0 : Int32)), (0, .ref 0), (1, .int x1)] dX5_count_81 rfl (Nat.le_of_ble_eq_true rfl) rfl ?_
    refine g_weak [2, 1, 0] rfl ?_
    obtain ⟨fu14, h⟩ := h
    exact b_X5_count_82 X hr fu14 _ _ _ h
  by_cases hc2 : x1 = 2
  · have h := h.2.2.1 hc2
    refine g_tabIn X 114 (106) dX5_count_8 (by rw [hc2]; decide) (by rw [hc2]; decide) (by rw [hc2]; rfl) (by decide) ?_
    refine g_aload_n X 1 dX5_count_114 rfl rfl ?_
    refine g_getI X (C := RX5) (T := TX5) (N := 23) 15 dX5_count_115 (Nat.le_of_ble_eq_true rfl) rfl rfl rfl inG5 (Nat.le_of_ble_eq_true rfl) rfl q584 ?_
    exact g_iret X hr dX5_count_118 rfl h
  by_cases hc3 : x1 = 3
  · have h := h.2.2.2.1 hc3
    refine g_tabIn X 119 (111) dX5_count_8 (by rw [hc3]; decide) (by rw [hc3]; decide) (by rw [hc3]; rfl) (by decide) ?_
    refine g_iconst X (0 : Int32) dX5_count_119 (by decide) ?_
    refine g_istore_n X [(3, .int (0 : Int32)), (2, .int (0 : Int32)), (0, .ref 0), (1, .int x1)] dX5_count_120 rfl (Nat.le_of_ble_eq_true rfl) rfl ?_
    refine g_weak [2, 1, 0] rfl ?_
    obtain ⟨fu22, h⟩ := h
    exact b_X5_count_121 X hr fu22 _ _ _ h
  by_cases hc4 : x1 = 4
  · have h := h.2.2.2.2.1 hc4
    refine g_tabIn X 156 (148) dX5_count_8 (by rw [hc4]; decide) (by rw [hc4]; decide) (by rw [hc4]; rfl) (by decide) ?_
    refine g_aload_n X 1 dX5_count_156 rfl rfl ?_
    refine g_getI X (C := RX5) (T := TX5) (N := 23) 9 dX5_count_157 (Nat.le_of_ble_eq_true rfl) rfl rfl rfl inG5 (Nat.le_of_ble_eq_true rfl) rfl q578 ?_
    exact g_iret X hr dX5_count_160 rfl h
  by_cases hc5 : x1 = 5
  · have h := h.2.2.2.2.2.1 hc5
    refine g_tabIn X 161 (153) dX5_count_8 (by rw [hc5]; decide) (by rw [hc5]; decide) (by rw [hc5]; rfl) (by decide) ?_
    refine g_iconst X (0 : Int32) dX5_count_161 (by decide) ?_
    refine g_istore_n X [(3, .int (0 : Int32)), (2, .int (0 : Int32)), (0, .ref 0), (1, .int x1)] dX5_count_162 rfl (Nat.le_of_ble_eq_true rfl) rfl ?_
    refine g_weak [2, 1, 0] rfl ?_
    obtain ⟨fu32, h⟩ := h
    exact b_X5_count_163 X hr fu32 _ _ _ h
  have h := h.2.2.2.2.2.2 hc0 hc1 hc2 hc3 hc4 hc5
  refine g_tabOut X 204 dX5_count_8 (by have e0 := lv_neT (a := 0) hc0 rfl; have e1 := lv_neT (a := 1) hc1 rfl; have e2 := lv_neT (a := 2) hc2 rfl; have e3 := lv_neT (a := 3) hc3 rfl; have e4 := lv_neT (a := 4) hc4 rfl; have e5 := lv_neT (a := 5) hc5 rfl; omega) (by decide) ?_
  refine g_bipush X (-3 : Int32) dX5_count_204 (by decide) ?_
  exact g_iret X hr dX5_count_206 rfl h
theorem c_X5_count (l : Launch) (D : va_G) (cA : Nat → ClassId) {x1 : Int32} {σ : St} {Q : Int32 → St → Prop} (h : w_X5_count Q x1 σ) : CtI l yX5_count cX5_count 4 (some .int) rmX5_count D cA shR [.ref 0, .int x1] σ Q := by
  refine CtI.of (own := RX5) rfl (by decide +kernel) [(0, .ref 0), (1, .int x1)] rfl (Nat.le_of_ble_eq_true rfl) ?_
  intro p e s m args below meth c ad0 A X hr
  exact b_X5_count_0 X hr  h
