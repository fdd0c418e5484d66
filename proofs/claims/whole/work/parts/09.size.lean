def rmX0_keep : Room := { frames := 2, cells := 0, slots := 0, locals := 61 }
def w_X0_keep (Q : St → Prop) (x1 : Int32) (k2 : Nat) (σ : St) : Prop := ∀ σ1 : St, σ1 = uI σ 3 3 (((gI σ 3 3) + (1 : Int32)) - ((gI σ 3 3) + (1 : Int32)) / (12 : Int32) * (12 : Int32)) → vp_in (gI σ1 3 3) 12 ∧ w_X1_become (befC (ix (gI σ1 3 3))) (fun σ3 => vp_in (gI σ3 3 3) 12 ∧ ∀ σ5 : St, σ5 = uI σ3 5 (ix (gI σ3 3 3)) x1 → ∀ y6 : Int32, y6 = (if (12 : Int32) < ((gI σ5 3 2) + (1 : Int32)) then (12 : Int32) else ((gI σ5 3 2) + (1 : Int32))) → ∀ σ7 : St, σ7 = uI σ5 3 2 y6 → (Q σ7)) k2 σ1
set_option maxRecDepth 100000 in
set_option maxHeartbeats 4000000 in
theorem b_X0_keep_0 {p : Program} {l : Launch} {e : Env} {s : State} {m : MethodId} {args : Array Value} {below : List Frame} {meth : Method} {c : Code} {D : va_G} {cA : Nat → ClassId} {A : Nat → Prop} {ad0 : Nat → Nat} {Q : St → Prop} {x1 : Int32} {k2 : Nat} {σ : St} (X : Cx p rmX0_keep s m args meth c cX0_keep 3 RX0 D cA A) (hr : meth.sig.returnType = none) (hk2 : keepSh shC k2) (h : w_X0_keep Q x1 k2 σ) : G p l e rmX0_keep s m args below meth c 3 D cA A (MQ below (va_Qv Q (EndW D cA ad0 shC) A) args s 0 0 A) 0 0 (fun ad => ad = ad0) shC σ [(0, .ref 3), (1, .int x1), (2, .ref k2)] 0 [] := by
  unfold w_X0_keep at h
  refine g_aload_n X 0 dX0_keep_0 rfl rfl ?_
  refine g_aload_n X 0 dX0_keep_1 rfl rfl ?_
  refine g_getI X (C := RX0) (T := TX0) (N := 4) 3 dX0_keep_2 (Nat.le_of_ble_eq_true rfl) rfl rfl rfl inG0 (Nat.le_of_ble_eq_true rfl) rfl q106 ?_
  refine g_iconst X (1 : Int32) dX0_keep_5 (by decide) ?_
  refine g_iadd X dX0_keep_6 ?_
  refine g_bipush X (12 : Int32) dX0_keep_7 (by decide) ?_
  refine g_irem X dX0_keep_9 (by decide) ?_
  refine g_putI X (C := RX0) (T := TX0) (N := 4) (ty0 := tyX0) 3 dX0_keep_10 (Nat.le_of_ble_eq_true rfl) rfl rfl rfl inG0 tyX0_ok nmX0 (Nat.le_of_ble_eq_true rfl) rfl rfl q106 rfl rfl ?_
  refine g_nameS (fun σ1 eσ1 => ?_)
  have h := h σ1 eσ1
  refine g_aload_n X 0 dX0_keep_13 rfl rfl ?_
  refine g_getR X (C := RX0) (T := TX0) (N := 4) 0 dX0_keep_14 (Nat.le_of_ble_eq_true rfl) rfl rfl rfl inG0 (Nat.le_of_ble_eq_true rfl) rfl rfl q102 ?_
  refine g_aload_n X 0 dX0_keep_17 rfl rfl ?_
  refine g_getI X (C := RX0) (T := TX0) (N := 4) 3 dX0_keep_18 (Nat.le_of_ble_eq_true rfl) rfl rfl rfl inG0 (Nat.le_of_ble_eq_true rfl) rfl q106 ?_
  obtain ⟨hi2, h⟩ := h
  refine g_aald X (C := RX1) (t := 1) dX0_keep_21 (Nat.le_of_ble_eq_true rfl) rfl rfl hi2 (befC_r (vp_in_lt hi2)) ?_
  refine g_aload_n X 2 dX0_keep_22 rfl rfl ?_
  refine g_callVV X (C := RX1) (T := TX1) (N := 4) (n := 1) [.ref k2] [] dX0_keep_23 (c_X1_become l D cA shC (befC_sh (vp_in_lt hi2)) hk2 h) q323 q324 q325 q49 q326 (keepSh.b0 (befC_sh (vp_in_lt hi2))) (keepSh.k0 (befC_sh (vp_in_lt hi2))) rfl ⟨rfl, by decide, by decide, by decide +kernel⟩ rfl rfl (Nat.le_of_ble_eq_true rfl) rfl rfl ⟨(Nat.le_of_ble_eq_true rfl), (Nat.le_of_ble_eq_true rfl)⟩ (Nat.le_of_ble_eq_true rfl) (Nat.le_of_ble_eq_true rfl) (fun σ3 h => ?_)
  refine g_aload_n X 0 dX0_keep_26 rfl rfl ?_
  refine g_getR X (C := RX0) (T := TX0) (N := 4) 1 dX0_keep_27 (Nat.le_of_ble_eq_true rfl) rfl rfl rfl inG0 (Nat.le_of_ble_eq_true rfl) rfl rfl q103 ?_
  refine g_aload_n X 0 dX0_keep_30 rfl rfl ?_
  refine g_getI X (C := RX0) (T := TX0) (N := 4) 3 dX0_keep_31 (Nat.le_of_ble_eq_true rfl) rfl rfl rfl inG0 (Nat.le_of_ble_eq_true rfl) rfl q106 ?_
  refine g_iload_n X 1 dX0_keep_34 rfl rfl ?_
  obtain ⟨hi4, h⟩ := h
  refine g_iast X dX0_keep_35 (Nat.le_of_ble_eq_true rfl) rfl hi4 ?_
  refine g_nameS (fun σ5 eσ5 => ?_)
  have h := h σ5 eσ5
  refine g_aload_n X 0 dX0_keep_36 rfl rfl ?_
  refine g_aload_n X 0 dX0_keep_37 rfl rfl ?_
  refine g_getI X (C := RX0) (T := TX0) (N := 4) 2 dX0_keep_38 (Nat.le_of_ble_eq_true rfl) rfl rfl rfl inG0 (Nat.le_of_ble_eq_true rfl) rfl q104 ?_
  refine g_iconst X (1 : Int32) dX0_keep_41 (by decide) ?_
  refine g_iadd X dX0_keep_42 ?_
  refine g_bipush X (12 : Int32) dX0_keep_43 (by decide) ?_
  refine g_mmin X dX0_keep_45 q328 q329 q53 q330 (Nat.le_of_ble_eq_true rfl) (Nat.le_of_ble_eq_true rfl) (Nat.le_of_ble_eq_true rfl) (Nat.le_of_ble_eq_true rfl) ?_
  refine g_nameI (fun y6 ey6 => ?_)
  have h := h y6 ey6
  refine g_putI X (C := RX0) (T := TX0) (N := 4) (ty0 := tyX0) 2 dX0_keep_48 (Nat.le_of_ble_eq_true rfl) rfl rfl rfl inG0 tyX0_ok nmX0 (Nat.le_of_ble_eq_true rfl) rfl rfl q104 rfl rfl ?_
  refine g_nameS (fun σ7 eσ7 => ?_)
  have h := h σ7 eσ7
  exact g_vret X hr dX0_keep_51 h
theorem c_X0_keep (l : Launch) (D : va_G) (cA : Nat → ClassId) {x1 : Int32} {k2 : Nat} {σ : St} {Q : St → Prop} (hk2 : keepSh shC k2) (h : w_X0_keep Q x1 k2 σ) : CtV l yX0_keep cX0_keep 3 (none) rmX0_keep D cA shC [.ref 3, .int x1, .ref k2] σ Q := by
  refine CtV.of (own := RX0) rfl (by decide +kernel) [(0, .ref 3), (1, .int x1), (2, .ref k2)] rfl (Nat.le_of_ble_eq_true rfl) ?_
  intro p e s m args below meth c ad0 A X hr
  exact b_X0_keep_0 X hr hk2 h
def rmX0_latestKeeper : Room := { frames := 0, cells := 0, slots := 0, locals := 0 }
def w_X0_latestKeeper (Q : Int32 → St → Prop) (σ : St) : Prop := vp_in (gI σ 3 3) 12 ∧ (Q (gI σ 5 (ix (gI σ 3 3))) σ)
set_option maxRecDepth 100000 in
set_option maxHeartbeats 4000000 in
theorem b_X0_latestKeeper_0 {p : Program} {l : Launch} {e : Env} {s : State} {m : MethodId} {args : Array Value} {below : List Frame} {meth : Method} {c : Code} {D : va_G} {cA : Nat → ClassId} {A : Nat → Prop} {ad0 : Nat → Nat} {Q : Int32 → St → Prop} {σ : St} (X : Cx p rmX0_latestKeeper s m args meth c cX0_latestKeeper 1 RX0 D cA A) (hr : meth.sig.returnType = some .int) (h : w_X0_latestKeeper Q  σ) : G p l e rmX0_latestKeeper s m args below meth c 1 D cA A (MQ below (va_Qi Q (EndW D cA ad0 shC) A) args s 0 0 A) 0 0 (fun ad => ad = ad0) shC σ [(0, .ref 3)] 0 [] := by
  unfold w_X0_latestKeeper at h
  refine g_aload_n X 0 dX0_latestKeeper_0 rfl rfl ?_
  refine g_getR X (C := RX0) (T := TX0) (N := 4) 1 dX0_latestKeeper_1 (Nat.le_of_ble_eq_true rfl) rfl rfl rfl inG0 (Nat.le_of_ble_eq_true rfl) rfl rfl q103 ?_
  refine g_aload_n X 0 dX0_latestKeeper_4 rfl rfl ?_
  refine g_getI X (C := RX0) (T := TX0) (N := 4) 3 dX0_latestKeeper_5 (Nat.le_of_ble_eq_true rfl) rfl rfl rfl inG0 (Nat.le_of_ble_eq_true rfl) rfl q106 ?_
  obtain ⟨hi1, h⟩ := h
  refine g_iald X dX0_latestKeeper_8 (Nat.le_of_ble_eq_true rfl) rfl hi1 ?_
  exact g_iret X hr dX0_latestKeeper_9 rfl h
theorem c_X0_latestKeeper (l : Launch) (D : va_G) (cA : Nat → ClassId) {σ : St} {Q : Int32 → St → Prop} (h : w_X0_latestKeeper Q  σ) : CtI l yX0_latestKeeper cX0_latestKeeper 1 (some .int) rmX0_latestKeeper D cA shC [.ref 3] σ Q := by
  refine CtI.of (own := RX0) rfl (by decide +kernel) [(0, .ref 3)] rfl (Nat.le_of_ble_eq_true rfl) ?_
  intro p e s m args below meth c ad0 A X hr
  exact b_X0_latestKeeper_0 X hr  h
def rmX0_takeBack : Room := { frames := 2, cells := 0, slots := 0, locals := 61 }
def w_X0_takeBack (Q : St → Prop) (k1 : Nat) (σ : St) : Prop := vp_in (gI σ 3 3) 12 ∧ w_X1_become k1 (fun σ2 => ∀ σ3 : St, σ3 = uI σ2 3 3 ((((gI σ2 3 3) + (12 : Int32)) - (1 : Int32)) - (((gI σ2 3 3) + (12 : Int32)) - (1 : Int32)) / (12 : Int32) * (12 : Int32)) → ∀ σ4 : St, σ4 = uI σ3 3 2 ((gI σ3 3 2) - (1 : Int32)) → (Q σ4)) (befC (ix (gI σ 3 3))) σ
set_option maxRecDepth 100000 in
set_option maxHeartbeats 4000000 in
theorem b_X0_takeBack_0 {p : Program} {l : Launch} {e : Env} {s : State} {m : MethodId} {args : Array Value} {below : List Frame} {meth : Method} {c : Code} {D : va_G} {cA : Nat → ClassId} {A : Nat → Prop} {ad0 : Nat → Nat} {Q : St → Prop} {k1 : Nat} {σ : St} (X : Cx p rmX0_takeBack s m args meth c cX0_takeBack 2 RX0 D cA A) (hr : meth.sig.returnType = none) (hk1 : keepSh shC k1) (h : w_X0_takeBack Q k1 σ) : G p l e rmX0_takeBack s m args below meth c 2 D cA A (MQ below (va_Qv Q (EndW D cA ad0 shC) A) args s 0 0 A) 0 0 (fun ad => ad = ad0) shC σ [(0, .ref 3), (1, .ref k1)] 0 [] := by
  unfold w_X0_takeBack at h
  refine g_aload_n X 1 dX0_takeBack_0 rfl rfl ?_
  refine g_aload_n X 0 dX0_takeBack_1 rfl rfl ?_
  refine g_getR X (C := RX0) (T := TX0) (N := 4) 0 dX0_takeBack_2 (Nat.le_of_ble_eq_true rfl) rfl rfl rfl inG0 (Nat.le_of_ble_eq_true rfl) rfl rfl q102 ?_
  refine g_aload_n X 0 dX0_takeBack_5 rfl rfl ?_
  refine g_getI X (C := RX0) (T := TX0) (N := 4) 3 dX0_takeBack_6 (Nat.le_of_ble_eq_true rfl) rfl rfl rfl inG0 (Nat.le_of_ble_eq_true rfl) rfl q106 ?_
  obtain ⟨hi1, h⟩ := h
  refine g_aald X (C := RX1) (t := 1) dX0_takeBack_9 (Nat.le_of_ble_eq_true rfl) rfl rfl hi1 (befC_r (vp_in_lt hi1)) ?_
  refine g_callVV X (C := RX1) (T := TX1) (N := 4) (n := 1) [.ref (befC (ix (gI σ 3 3)))] [] dX0_takeBack_10 (c_X1_become l D cA shC hk1 (befC_sh (vp_in_lt hi1)) h) q323 q324 q325 q49 q326 (keepSh.b0 hk1) (keepSh.k0 hk1) rfl ⟨rfl, by decide, by decide, by decide +kernel⟩ rfl rfl (Nat.le_of_ble_eq_true rfl) rfl rfl ⟨(Nat.le_of_ble_eq_true rfl), (Nat.le_of_ble_eq_true rfl)⟩ (Nat.le_of_ble_eq_true rfl) (Nat.le_of_ble_eq_true rfl) (fun σ2 h => ?_)
  refine g_aload_n X 0 dX0_takeBack_13 rfl rfl ?_
  refine g_aload_n X 0 dX0_takeBack_14 rfl rfl ?_
  refine g_getI X (C := RX0) (T := TX0) (N := 4) 3 dX0_takeBack_15 (Nat.le_of_ble_eq_true rfl) rfl rfl rfl inG0 (Nat.le_of_ble_eq_true rfl) rfl q106 ?_
  refine g_bipush X (12 : Int32) dX0_takeBack_18 (by decide) ?_
  refine g_iadd X dX0_takeBack_20 ?_
  refine g_iconst X (1 : Int32) dX0_takeBack_21 (by decide) ?_
  refine g_isub X dX0_takeBack_22 ?_
  refine g_bipush X (12 : Int32) dX0_takeBack_23 (by decide) ?_
  refine g_irem X dX0_takeBack_25 (by decide) ?_
  refine g_putI X (C := RX0) (T := TX0) (N := 4) (ty0 := tyX0) 3 dX0_takeBack_26 (Nat.le_of_ble_eq_true rfl) rfl rfl rfl inG0 tyX0_ok nmX0 (Nat.le_of_ble_eq_true rfl) rfl rfl q106 rfl rfl ?_
  refine g_nameS (fun σ3 eσ3 => ?_)
  have h := h σ3 eσ3
  refine g_aload_n X 0 dX0_takeBack_29 rfl rfl ?_
  refine g_dup X dX0_takeBack_30 rfl ?_
  refine g_getI X (C := RX0) (T := TX0) (N := 4) 2 dX0_takeBack_31 (Nat.le_of_ble_eq_true rfl) rfl rfl rfl inG0 (Nat.le_of_ble_eq_true rfl) rfl q104 ?_
  refine g_iconst X (1 : Int32) dX0_takeBack_34 (by decide) ?_
  refine g_isub X dX0_takeBack_35 ?_
  refine g_putI X (C := RX0) (T := TX0) (N := 4) (ty0 := tyX0) 2 dX0_takeBack_36 (Nat.le_of_ble_eq_true rfl) rfl rfl rfl inG0 tyX0_ok nmX0 (Nat.le_of_ble_eq_true rfl) rfl rfl q104 rfl rfl ?_
  refine g_nameS (fun σ4 eσ4 => ?_)
  have h := h σ4 eσ4
  exact g_vret X hr dX0_takeBack_39 h
theorem c_X0_takeBack (l : Launch) (D : va_G) (cA : Nat → ClassId) {k1 : Nat} {σ : St} {Q : St → Prop} (hk1 : keepSh shC k1) (h : w_X0_takeBack Q k1 σ) : CtV l yX0_takeBack cX0_takeBack 2 (none) rmX0_takeBack D cA shC [.ref 3, .ref k1] σ Q := by
  refine CtV.of (own := RX0) rfl (by decide +kernel) [(0, .ref 3), (1, .ref k1)] rfl (Nat.le_of_ble_eq_true rfl) ?_
  intro p e s m args below meth c ad0 A X hr
  exact b_X0_takeBack_0 X hr hk1 h
def rmX3_load : Room := { frames := 1, cells := 0, slots := 0, locals := 20 }
def w_X3_load_40 (K10 : Nat → Int32 → Int64 → Int32 → St → Prop) (Q : St → Prop) (k1 : Nat) (x2 : Int32) (x3 : Int64) (x5 : Int32) (s0 : Int64) (σ : St) : Prop := ∀ y4 : Int64, y4 = (s0 + x3) → vp_in x5 150 ∧ ∀ σ6 : St, σ6 = uJ σ 43 (ix x5) (y4 &&& (4294967295 : Int64)) → ∀ y7 : Int64, y7 = (lshrF y4 (32 : Int32)) → ∀ y8 : Int32, y8 = x5 + (1 : Int32) → (K10 k1 x2 y7 y8 σ6)
set_option maxRecDepth 100000 in
set_option maxHeartbeats 4000000 in
theorem b_X3_load_40 {p : Program} {l : Launch} {e : Env} {s : State} {m : MethodId} {args : Array Value} {below : List Frame} {meth : Method} {c : Code} {D : va_G} {cA : Nat → ClassId} {A : Nat → Prop} {ad0 : Nat → Nat} {K10 : Nat → Int32 → Int64 → Int32 → St → Prop} {Q : St → Prop} {k1 : Nat} {x2 : Int32} {x3 : Int64} {x5 : Int32} {s0 : Int64} {σ : St} (X : Cx p rmX3_load s m args meth c cX3_load 8 RX3 D cA A) (hr : meth.sig.returnType = none) (hK10 : ∀ (k1 : Nat) (x2 : Int32) (x3 : Int64) (x5 : Int32) (σ : St), keepSh shC k1 → K10 k1 x2 x3 x5 σ → G p l e rmX3_load s m args below meth c 8 D cA A (MQ below (va_Qv Q (EndW D cA ad0 shC) A) args s 0 0 A) 0 0 (fun ad => ad = ad0) shC σ [(0, .ref 42), (1, .ref k1), (2, .int x2), (3, .long x3), (5, .int x5)] 10 []) (hk1 : keepSh shC k1) (h : w_X3_load_40 K10 Q k1 x2 x3 x5 s0 σ) : G p l e rmX3_load s m args below meth c 8 D cA A (MQ below (va_Qv Q (EndW D cA ad0 shC) A) args s 0 0 A) 0 0 (fun ad => ad = ad0) shC σ [(0, .ref 42), (1, .ref k1), (2, .int x2), (3, .long x3), (5, .int x5)] 40 [.long s0] := by
  unfold w_X3_load_40 at h
  refine g_lload_n X 3 dX3_load_40 rfl rfl ?_
  refine g_ladd X dX3_load_41 ?_
  refine g_nameJ (fun y4 ey4 => ?_)
  have h := h y4 ey4
  refine g_lstore X [(6, .long y4), (0, .ref 42), (1, .ref k1), (2, .int x2), (3, .long x3), (5, .int x5)] dX3_load_42 (Nat.le_of_ble_eq_true rfl) rfl ?_
  refine g_aload_n X 1 dX3_load_44 rfl rfl ?_
  refine g_getR X (C := RX3) (T := TX3) (N := 1) 0 dX3_load_45 (Nat.le_of_ble_eq_true rfl) rfl rfl rfl inG3 (Nat.le_of_ble_eq_true rfl) rfl rfl q122 ?_
  refine g_iload X 5 dX3_load_48 rfl ?_
  refine g_lload X 0 dX3_load_50 rfl ?_
  refine g_ldc2 X q457 dX3_load_52 ?_
  refine g_land X dX3_load_55 ?_
  obtain ⟨hi5, h⟩ := h
  refine g_last X dX3_load_56 (Nat.le_of_ble_eq_true rfl) rfl hi5 ?_
  refine g_nameS (fun σ6 eσ6 => ?_)
  have h := h σ6 eσ6
  refine g_lload X 0 dX3_load_57 rfl ?_
  refine g_bipush X (32 : Int32) dX3_load_59 (by decide) ?_
  refine g_lshr X dX3_load_61 ?_
  refine g_nameJ (fun y7 ey7 => ?_)
  have h := h y7 ey7
  refine g_lstore_n X [(3, .long y7), (6, .long y4), (0, .ref 42), (1, .ref k1), (2, .int x2), (5, .int x5)] dX3_load_62 rfl (Nat.le_of_ble_eq_true rfl) rfl ?_
  obtain ⟨y8, ey8⟩ : ∃ y : Int32, y = x5 + (1 : Int32) := ⟨_, rfl⟩
  have h := h y8 ey8
  refine g_iinc X 5 (1 : Int32) [(5, .int y8), (3, .long y7), (6, .long y4), (0, .ref 42), (1, .ref k1), (2, .int x2)] dX3_load_63 rfl (by decide) (Nat.le_of_ble_eq_true rfl) (by rw [ey8]; rfl) ?_
  refine g_goto X 10 dX3_load_66 (by decide) ?_
  refine g_weak [3, 4, 5, 1, 0] rfl ?_
  exact hK10 _ _ _ _ _ hk1 h
def w_X3_load_10 (Q : St → Prop) : Nat → Nat → Int32 → Int64 → Int32 → St → Prop
  | 0, _, _, _, _, _ => False
  | n + 1, k1, x2, x3, x5, σ => (((150 : Int32) ≤ x5 → (Q σ)) ∧ (¬ (150 : Int32) ≤ x5 → ((x2 = 0 → vp_in x5 150 ∧ (w_X3_load_40 (fun k1 x2 x3 x5 σ => w_X3_load_10 Q n k1 x2 x3 x5 σ) Q k1 x2 x3 x5 (gJ σ (k1 + 2) (ix x5)) σ)) ∧ (¬ x2 = 0 → vp_in x5 150 ∧ (w_X3_load_40 (fun k1 x2 x3 x5 σ => w_X3_load_10 Q n k1 x2 x3 x5 σ) Q k1 x2 x3 x5 (-(gJ σ (k1 + 2) (ix x5))) σ)))))
set_option maxRecDepth 100000 in
set_option maxHeartbeats 4000000 in
theorem b_X3_load_10 {p : Program} {l : Launch} {e : Env} {s : State} {m : MethodId} {args : Array Value} {below : List Frame} {meth : Method} {c : Code} {D : va_G} {cA : Nat → ClassId} {A : Nat → Prop} {ad0 : Nat → Nat} {Q : St → Prop} (X : Cx p rmX3_load s m args meth c cX3_load 8 RX3 D cA A) (hr : meth.sig.returnType = none) : ∀ (n : Nat) (k1 : Nat) (x2 : Int32) (x3 : Int64) (x5 : Int32) (σ : St), keepSh shC k1 → w_X3_load_10 Q n k1 x2 x3 x5 σ → G p l e rmX3_load s m args below meth c 8 D cA A (MQ below (va_Qv Q (EndW D cA ad0 shC) A) args s 0 0 A) 0 0 (fun ad => ad = ad0) shC σ [(0, .ref 42), (1, .ref k1), (2, .int x2), (3, .long x3), (5, .int x5)] 10 [] := by
  intro n
  induction n with
  | zero => intro k1 x2 x3 x5 σ hk1 h; exact h.elim
  | succ n ih =>
    intro k1 x2 x3 x5 σ hk1 h
    rw [w_X3_load_10] at h
    refine g_iload X 4 dX3_load_10 rfl ?_
    refine g_sipush X (150 : Int32) dX3_load_12 (by decide) ?_
    refine g_icmp_ge X 69 dX3_load_15 (by decide) (fun hc => ?_) (fun hc => ?_)
    · have h := h.1 hc
      exact g_vret X hr dX3_load_69 h
    · have h := h.2 hc
      refine g_iload_n X 2 dX3_load_18 rfl rfl ?_
      refine g_if_eq X 33 dX3_load_19 (by decide) (fun hc => ?_) (fun hc => ?_)
      · have h := h.1 hc
        refine g_aload_n X 1 dX3_load_33 rfl rfl ?_
        refine g_getR X (C := RX1) (T := TX1) (N := 4) 3 dX3_load_34 (keepSh.b0 hk1) (keepSh.k0 hk1) rfl rfl inG1 (Nat.le_of_ble_eq_true rfl) rfl (keepSh.r3 hk1) q90 ?_
        refine g_iload X 4 dX3_load_37 rfl ?_
        obtain ⟨hi3, h⟩ := h
        refine g_lald X dX3_load_39 (keepSh.b2 hk1) (keepSh.k2 hk1) hi3 ?_
        exact b_X3_load_40 X hr (ih) hk1 h
      · have h := h.2 hc
        refine g_aload_n X 1 dX3_load_22 rfl rfl ?_
        refine g_getR X (C := RX1) (T := TX1) (N := 4) 3 dX3_load_23 (keepSh.b0 hk1) (keepSh.k0 hk1) rfl rfl inG1 (Nat.le_of_ble_eq_true rfl) rfl (keepSh.r3 hk1) q90 ?_
        refine g_iload X 4 dX3_load_26 rfl ?_
        obtain ⟨hi9, h⟩ := h
        refine g_lald X dX3_load_28 (keepSh.b2 hk1) (keepSh.k2 hk1) hi9 ?_
        refine g_lneg X dX3_load_29 ?_
        refine g_goto X 40 dX3_load_30 (by decide) ?_
        exact b_X3_load_40 X hr (ih) hk1 h
def w_X3_load (Q : St → Prop) (k1 : Nat) (σ : St) : Prop := w_X1_isBelow k1 (fun r2 σ1 => (∃ fu10 : Nat, w_X3_load_10 Q fu10 k1 r2 (0 : Int64) (0 : Int32) σ1)) σ
set_option maxRecDepth 100000 in
set_option maxHeartbeats 4000000 in
theorem b_X3_load_0 {p : Program} {l : Launch} {e : Env} {s : State} {m : MethodId} {args : Array Value} {below : List Frame} {meth : Method} {c : Code} {D : va_G} {cA : Nat → ClassId} {A : Nat → Prop} {ad0 : Nat → Nat} {Q : St → Prop} {k1 : Nat} {σ : St} (X : Cx p rmX3_load s m args meth c cX3_load 8 RX3 D cA A) (hr : meth.sig.returnType = none) (hk1 : keepSh shC k1) (h : w_X3_load Q k1 σ) : G p l e rmX3_load s m args below meth c 8 D cA A (MQ below (va_Qv Q (EndW D cA ad0 shC) A) args s 0 0 A) 0 0 (fun ad => ad = ad0) shC σ [(0, .ref 42), (1, .ref k1)] 0 [] := by
  unfold w_X3_load at h
  refine g_aload_n X 1 dX3_load_0 rfl rfl ?_
  refine g_callVI X (C := RX1) (T := TX1) (N := 4) (n := 0) [] [] dX3_load_1 (c_X1_isBelow l D cA shC hk1 h) q453 q454 q455 q49 q456 (keepSh.b0 hk1) (keepSh.k0 hk1) rfl ⟨rfl, by decide, by decide, by decide +kernel⟩ rfl rfl (Nat.le_of_ble_eq_true rfl) rfl rfl ⟨(Nat.le_of_ble_eq_true rfl), (Nat.le_of_ble_eq_true rfl)⟩ (Nat.le_of_ble_eq_true rfl) (Nat.le_of_ble_eq_true rfl) (fun r2 σ1 h => ?_)
  refine g_istore_n X [(2, .int r2), (0, .ref 42), (1, .ref k1)] dX3_load_4 rfl (Nat.le_of_ble_eq_true rfl) rfl ?_
  refine g_lconst X (0 : Int64) dX3_load_5 (by decide) ?_
  refine g_lstore_n X [(3, .long (0 : Int64)), (2, .int r2), (0, .ref 42), (1, .ref k1)] dX3_load_6 rfl (Nat.le_of_ble_eq_true rfl) rfl ?_
  refine g_iconst X (0 : Int32) dX3_load_7 (by decide) ?_
  refine g_istore X [(5, .int (0 : Int32)), (3, .long (0 : Int64)), (2, .int r2), (0, .ref 42), (1, .ref k1)] dX3_load_8 (Nat.le_of_ble_eq_true rfl) rfl ?_
  refine g_weak [3, 4, 2, 1, 0] rfl ?_
  obtain ⟨fu10, h⟩ := h
  exact b_X3_load_10 X hr fu10 _ _ _ _ _ hk1 h
theorem c_X3_load (l : Launch) (D : va_G) (cA : Nat → ClassId) {k1 : Nat} {σ : St} {Q : St → Prop} (hk1 : keepSh shC k1) (h : w_X3_load Q k1 σ) : CtV l yX3_load cX3_load 8 (none) rmX3_load D cA shC [.ref 42, .ref k1] σ Q := by
  refine CtV.of (own := RX3) rfl (by decide +kernel) [(0, .ref 42), (1, .ref k1)] rfl (Nat.le_of_ble_eq_true rfl) ?_
  intro p e s m args below meth c ad0 A X hr
  exact b_X3_load_0 X hr hk1 h
def rmX3_divideBy : Room := { frames := 0, cells := 0, slots := 0, locals := 0 }
def w_X3_divideBy_14 (Q : Int32 → St → Prop) : Nat → Int32 → Int64 → Int32 → St → Prop
  | 0, _, _, _, _ => False
  | n + 1, x1, x2, x4, σ => ((x4 < 0 → ((x2 = (0 : Int64) → (Q (0 : Int32) σ)) ∧ (¬ x2 = (0 : Int64) → (Q (1 : Int32) σ)))) ∧ (¬ x4 < 0 → vp_in x4 150 ∧ ∀ y2 : Int64, y2 = ((lshlF x2 (32 : Int32)) ||| (gJ σ 43 (ix x4))) → ¬ (x1.toInt64) = 0 ∧ vp_in x4 150 ∧ ∀ σ4 : St, σ4 = uJ σ 43 (ix x4) (y2 / (x1.toInt64)) → ¬ (x1.toInt64) = 0 ∧ ∀ y5 : Int64, y5 = (y2 - y2 / (x1.toInt64) * (x1.toInt64)) → ∀ y6 : Int32, y6 = x4 + (-1 : Int32) → (w_X3_divideBy_14 Q n x1 y5 y6 σ4)))
set_option maxRecDepth 100000 in
set_option maxHeartbeats 4000000 in
theorem b_X3_divideBy_14 {p : Program} {l : Launch} {e : Env} {s : State} {m : MethodId} {args : Array Value} {below : List Frame} {meth : Method} {c : Code} {D : va_G} {cA : Nat → ClassId} {A : Nat → Prop} {ad0 : Nat → Nat} {Q : Int32 → St → Prop} (X : Cx p rmX3_divideBy s m args meth c cX3_divideBy 7 RX3 D cA A) (hr : meth.sig.returnType = some .boolean) : ∀ (n : Nat) (x1 : Int32) (x2 : Int64) (x4 : Int32) (σ : St), w_X3_divideBy_14 Q n x1 x2 x4 σ → G p l e rmX3_divideBy s m args below meth c 7 D cA A (MQ below (va_Qi Q (EndW D cA ad0 shC) A) args s 0 0 A) 0 0 (fun ad => ad = ad0) shC σ [(0, .ref 42), (1, .int x1), (2, .long x2), (4, .int x4)] 14 [] := by
  intro n
  induction n with
  | zero => intro x1 x2 x4 σ h; exact h.elim
  | succ n ih =>
    intro x1 x2 x4 σ h
    rw [w_X3_divideBy_14] at h
    refine g_iload X 3 dX3_divideBy_14 rfl ?_
    refine g_if_lt X 57 dX3_divideBy_16 (by decide) (fun hc => ?_) (fun hc => ?_)
    · have h := h.1 hc
      refine g_lload_n X 2 dX3_divideBy_57 rfl rfl ?_
      refine g_lconst X (0 : Int64) dX3_divideBy_58 (by decide) ?_
      refine g_lcmp X dX3_divideBy_59 ?_
      refine g_if_eq X 67 dX3_divideBy_60 (by decide) (fun hc => ?_) (fun hc => ?_)
      · have h := h.1 (lgc_eq.mp hc)
        refine g_iconst X (0 : Int32) dX3_divideBy_67 (by decide) ?_
        exact g_iret X hr dX3_divideBy_68 (by decide) h
      · have h := h.2 (fun z => hc (lgc_eq.mpr z))
        refine g_iconst X (1 : Int32) dX3_divideBy_63 (by decide) ?_
        refine g_goto X 68 dX3_divideBy_64 (by decide) ?_
        exact g_iret X hr dX3_divideBy_68 (by decide) h
    · have h := h.2 hc
      refine g_lload_n X 2 dX3_divideBy_19 rfl rfl ?_
      refine g_bipush X (32 : Int32) dX3_divideBy_20 (by decide) ?_
      refine g_lshl X dX3_divideBy_22 ?_
      refine g_aload_n X 0 dX3_divideBy_23 rfl rfl ?_
      refine g_getR X (C := RX3) (T := TX3) (N := 1) 0 dX3_divideBy_24 (Nat.le_of_ble_eq_true rfl) rfl rfl rfl inG3 (Nat.le_of_ble_eq_true rfl) rfl rfl q122 ?_
      refine g_iload X 3 dX3_divideBy_27 rfl ?_
      obtain ⟨hi1, h⟩ := h
      refine g_lald X dX3_divideBy_29 (Nat.le_of_ble_eq_true rfl) rfl hi1 ?_
      refine g_lor X dX3_divideBy_30 ?_
      refine g_nameJ (fun y2 ey2 => ?_)
      have h := h y2 ey2
      refine g_lstore X [(5, .long y2), (0, .ref 42), (1, .int x1), (2, .long x2), (4, .int x4)] dX3_divideBy_31 (Nat.le_of_ble_eq_true rfl) rfl ?_
      refine g_aload_n X 1 dX3_divideBy_33 rfl rfl ?_
      refine g_getR X (C := RX3) (T := TX3) (N := 1) 0 dX3_divideBy_34 (Nat.le_of_ble_eq_true rfl) rfl rfl rfl inG3 (Nat.le_of_ble_eq_true rfl) rfl rfl q122 ?_
      refine g_iload X 4 dX3_divideBy_37 rfl ?_
      refine g_lload X 0 dX3_divideBy_39 rfl ?_
      refine g_iload_n X 2 dX3_divideBy_41 rfl rfl ?_
      refine g_i2l X dX3_divideBy_42 ?_
      obtain ⟨hc, h⟩ := h
      refine g_ldiv X dX3_divideBy_43 hc ?_
      obtain ⟨hi3, h⟩ := h
      refine g_last X dX3_divideBy_44 (Nat.le_of_ble_eq_true rfl) rfl hi3 ?_
      refine g_nameS (fun σ4 eσ4 => ?_)
      have h := h σ4 eσ4
      refine g_lload X 0 dX3_divideBy_45 rfl ?_
      refine g_iload_n X 2 dX3_divideBy_47 rfl rfl ?_
      refine g_i2l X dX3_divideBy_48 ?_
      obtain ⟨hc, h⟩ := h
      refine g_lrem X dX3_divideBy_49 hc ?_
      refine g_nameJ (fun y5 ey5 => ?_)
      have h := h y5 ey5
      refine g_lstore_n X [(2, .long y5), (5, .long y2), (0, .ref 42), (1, .int x1), (4, .int x4)] dX3_divideBy_50 rfl (Nat.le_of_ble_eq_true rfl) rfl ?_
      obtain ⟨y6, ey6⟩ : ∃ y : Int32, y = x4 + (-1 : Int32) := ⟨_, rfl⟩
      have h := h y6 ey6
      refine g_iinc X 4 (-1 : Int32) [(4, .int y6), (2, .long y5), (5, .long y2), (0, .ref 42), (1, .int x1)] dX3_divideBy_51 rfl (by decide) (Nat.le_of_ble_eq_true rfl) (by rw [ey6]; rfl) ?_
      refine g_goto X 14 dX3_divideBy_54 (by decide) ?_
      refine g_weak [3, 4, 1, 0] rfl ?_
      exact ih _ _ _ _ h
def w_X3_divideBy (Q : Int32 → St → Prop) (x1 : Int32) (σ : St) : Prop := (((1 : Int32) < x1 → (∃ fu7 : Nat, w_X3_divideBy_14 Q fu7 x1 (0 : Int64) (149 : Int32) σ)) ∧ (¬ (1 : Int32) < x1 → (Q (0 : Int32) σ)))
set_option maxRecDepth 100000 in
set_option maxHeartbeats 4000000 in
theorem b_X3_divideBy_0 {p : Program} {l : Launch} {e : Env} {s : State} {m : MethodId} {args : Array Value} {below : List Frame} {meth : Method} {c : Code} {D : va_G} {cA : Nat → ClassId} {A : Nat → Prop} {ad0 : Nat → Nat} {Q : Int32 → St → Prop} {x1 : Int32} {σ : St} (X : Cx p rmX3_divideBy s m args meth c cX3_divideBy 7 RX3 D cA A) (hr : meth.sig.returnType = some .boolean) (h : w_X3_divideBy Q x1 σ) : G p l e rmX3_divideBy s m args below meth c 7 D cA A (MQ below (va_Qi Q (EndW D cA ad0 shC) A) args s 0 0 A) 0 0 (fun ad => ad = ad0) shC σ [(0, .ref 42), (1, .int x1)] 0 [] := by
  unfold w_X3_divideBy at h
  refine g_iload_n X 1 dX3_divideBy_0 rfl rfl ?_
  refine g_iconst X (1 : Int32) dX3_divideBy_1 (by decide) ?_
  refine g_icmp_gt X 7 dX3_divideBy_2 (by decide) (fun hc => ?_) (fun hc => ?_)
  · have h := h.1 hc
    refine g_lconst X (0 : Int64) dX3_divideBy_7 (by decide) ?_
    refine g_lstore_n X [(2, .long (0 : Int64)), (0, .ref 42), (1, .int x1)] dX3_divideBy_8 rfl (Nat.le_of_ble_eq_true rfl) rfl ?_
    refine g_sipush X (149 : Int32) dX3_divideBy_9 (by decide) ?_
    refine g_istore X [(4, .int (149 : Int32)), (2, .long (0 : Int64)), (0, .ref 42), (1, .int x1)] dX3_divideBy_12 (Nat.le_of_ble_eq_true rfl) rfl ?_
    refine g_weak [2, 3, 1, 0] rfl ?_
    obtain ⟨fu7, h⟩ := h
    exact b_X3_divideBy_14 X hr fu7 _ _ _ _ h
  · have h := h.2 hc
    refine g_iconst X (0 : Int32) dX3_divideBy_5 (by decide) ?_
    exact g_iret X hr dX3_divideBy_6 (by decide) h
theorem c_X3_divideBy (l : Launch) (D : va_G) (cA : Nat → ClassId) {x1 : Int32} {σ : St} {Q : Int32 → St → Prop} (h : w_X3_divideBy Q x1 σ) : CtI l yX3_divideBy cX3_divideBy 7 (some .boolean) rmX3_divideBy D cA shC [.ref 42, .int x1] σ Q := by
  refine CtI.of (own := RX3) rfl (by decide +kernel) [(0, .ref 42), (1, .int x1)] rfl (Nat.le_of_ble_eq_true rfl) ?_
  intro p e s m args below meth c ad0 A X hr
  exact b_X3_divideBy_0 X hr  h
def rmX3_topBit : Room := { frames := 3, cells := 0, slots := 0, locals := 64 }
def w_X3_topBit_4 (Q : Int32 → St → Prop) : Nat → Int32 → St → Prop
  | 0, _, _ => False
  | n + 1, x1, σ => ((x1 < 0 → (Q (-1 : Int32) σ)) ∧ (¬ x1 < 0 → vp_in x1 150 ∧ (((gJ σ 43 (ix x1)) = (0 : Int64) → ∀ y2 : Int32, y2 = x1 + (-1 : Int32) → (w_X3_topBit_4 Q n y2 σ)) ∧ (¬ (gJ σ 43 (ix x1)) = (0 : Int64) → vp_in x1 150 ∧ w_X4_bitsIn (fun r5 σ4 => (Q (((x1 * (32 : Int32)) + r5) - (1 : Int32)) σ4)) (gJ σ 43 (ix x1)) σ))))
set_option maxRecDepth 100000 in
set_option maxHeartbeats 4000000 in
theorem b_X3_topBit_4 {p : Program} {l : Launch} {e : Env} {s : State} {m : MethodId} {args : Array Value} {below : List Frame} {meth : Method} {c : Code} {D : va_G} {cA : Nat → ClassId} {A : Nat → Prop} {ad0 : Nat → Nat} {Q : Int32 → St → Prop} (X : Cx p rmX3_topBit s m args meth c cX3_topBit 2 RX3 D cA A) (hr : meth.sig.returnType = some .int) : ∀ (n : Nat) (x1 : Int32) (σ : St), w_X3_topBit_4 Q n x1 σ → G p l e rmX3_topBit s m args below meth c 2 D cA A (MQ below (va_Qi Q (EndW D cA ad0 shC) A) args s 0 0 A) 0 0 (fun ad => ad = ad0) shC σ [(0, .ref 42), (1, .int x1)] 4 [] := by
  intro n
  induction n with
  | zero => intro x1 σ h; exact h.elim
  | succ n ih =>
    intro x1 σ h
    rw [w_X3_topBit_4] at h
    refine g_iload_n X 1 dX3_topBit_4 rfl rfl ?_
    refine g_if_lt X 42 dX3_topBit_5 (by decide) (fun hc => ?_) (fun hc => ?_)
    · have h := h.1 hc
      refine g_iconst X (-1 : Int32) dX3_topBit_42 (by decide) ?_
      exact g_iret X hr dX3_topBit_43 rfl h
    · have h := h.2 hc
      refine g_aload_n X 0 dX3_topBit_8 rfl rfl ?_
      refine g_getR X (C := RX3) (T := TX3) (N := 1) 0 dX3_topBit_9 (Nat.le_of_ble_eq_true rfl) rfl rfl rfl inG3 (Nat.le_of_ble_eq_true rfl) rfl rfl q122 ?_
      refine g_iload_n X 1 dX3_topBit_12 rfl rfl ?_
      obtain ⟨hi1, h⟩ := h
      refine g_lald X dX3_topBit_13 (Nat.le_of_ble_eq_true rfl) rfl hi1 ?_
      refine g_lconst X (0 : Int64) dX3_topBit_14 (by decide) ?_
      refine g_lcmp X dX3_topBit_15 ?_
      refine g_if_eq X 36 dX3_topBit_16 (by decide) (fun hc => ?_) (fun hc => ?_)
      · have h := h.1 (lgc_eq.mp hc)
        obtain ⟨y2, ey2⟩ : ∃ y : Int32, y = x1 + (-1 : Int32) := ⟨_, rfl⟩
        have h := h y2 ey2
        refine g_iinc X 1 (-1 : Int32) [(1, .int y2), (0, .ref 42)] dX3_topBit_36 rfl (by decide) (Nat.le_of_ble_eq_true rfl) (by rw [ey2]; rfl) ?_
        refine g_goto X 4 dX3_topBit_39 (by decide) ?_
        refine g_weak [1, 0] rfl ?_
        exact ih _ _ h
      · have h := h.2 (fun z => hc (lgc_eq.mpr z))
        refine g_iload_n X 1 dX3_topBit_19 rfl rfl ?_
        refine g_bipush X (32 : Int32) dX3_topBit_20 (by decide) ?_
        refine g_imul X dX3_topBit_22 ?_
        refine g_aload_n X 0 dX3_topBit_23 rfl rfl ?_
        refine g_getR X (C := RX3) (T := TX3) (N := 1) 0 dX3_topBit_24 (Nat.le_of_ble_eq_true rfl) rfl rfl rfl inG3 (Nat.le_of_ble_eq_true rfl) rfl rfl q122 ?_
        refine g_iload_n X 1 dX3_topBit_27 rfl rfl ?_
        obtain ⟨hi3, h⟩ := h
        refine g_lald X dX3_topBit_28 (Nat.le_of_ble_eq_true rfl) rfl hi3 ?_
        refine g_callNI X (host := "LongSums") (n := 1) [.long (gJ σ 43 (ix x1))] [.int (x1 * (32 : Int32))] dX3_topBit_29 (c_X4_bitsIn l D cA shC h) (nw 471 (by decide +kernel) rfl) q183 q47 q184 ⟨by decide, by decide, by decide +kernel⟩ rfl rfl (Nat.le_of_ble_eq_true rfl) rfl rfl ⟨(Nat.le_of_ble_eq_true rfl), (Nat.le_of_ble_eq_true rfl)⟩ (Nat.le_of_ble_eq_true rfl) (Nat.le_of_ble_eq_true rfl) (fun r5 σ4 h => ?_)
        refine g_iadd X dX3_topBit_32 ?_
        refine g_iconst X (1 : Int32) dX3_topBit_33 (by decide) ?_
        refine g_isub X dX3_topBit_34 ?_
        exact g_iret X hr dX3_topBit_35 rfl h
def w_X3_topBit (Q : Int32 → St → Prop) (σ : St) : Prop := (∃ fu6 : Nat, w_X3_topBit_4 Q fu6 (149 : Int32) σ)
set_option maxRecDepth 100000 in
set_option maxHeartbeats 4000000 in
theorem b_X3_topBit_0 {p : Program} {l : Launch} {e : Env} {s : State} {m : MethodId} {args : Array Value} {below : List Frame} {meth : Method} {c : Code} {D : va_G} {cA : Nat → ClassId} {A : Nat → Prop} {ad0 : Nat → Nat} {Q : Int32 → St → Prop} {σ : St} (X : Cx p rmX3_topBit s m args meth c cX3_topBit 2 RX3 D cA A) (hr : meth.sig.returnType = some .int) (h : w_X3_topBit Q  σ) : G p l e rmX3_topBit s m args below meth c 2 D cA A (MQ below (va_Qi Q (EndW D cA ad0 shC) A) args s 0 0 A) 0 0 (fun ad => ad = ad0) shC σ [(0, .ref 42)] 0 [] := by
  unfold w_X3_topBit at h
  refine g_sipush X (149 : Int32) dX3_topBit_0 (by decide) ?_
  refine g_istore_n X [(1, .int (149 : Int32)), (0, .ref 42)] dX3_topBit_3 rfl (Nat.le_of_ble_eq_true rfl) rfl ?_
  refine g_weak [1, 0] rfl ?_
  obtain ⟨fu6, h⟩ := h
  exact b_X3_topBit_4 X hr fu6 _ _ h
theorem c_X3_topBit (l : Launch) (D : va_G) (cA : Nat → ClassId) {σ : St} {Q : Int32 → St → Prop} (h : w_X3_topBit Q  σ) : CtI l yX3_topBit cX3_topBit 2 (some .int) rmX3_topBit D cA shC [.ref 42] σ Q := by
  refine CtI.of (own := RX3) rfl (by decide +kernel) [(0, .ref 42)] rfl (Nat.le_of_ble_eq_true rfl) ?_
  intro p e s m args below meth c ad0 A X hr
  exact b_X3_topBit_0 X hr  h
def rmX3_limbAt : Room := { frames := 0, cells := 0, slots := 0, locals := 0 }
def w_X3_limbAt (Q : Int64 → St → Prop) (x1 : Int32) (σ : St) : Prop := ((x1 < 0 → (Q (0 : Int64) σ)) ∧ (¬ x1 < 0 → (((150 : Int32) ≤ x1 → (Q (0 : Int64) σ)) ∧ (¬ (150 : Int32) ≤ x1 → vp_in x1 150 ∧ (Q (gJ σ 43 (ix x1)) σ)))))
set_option maxRecDepth 100000 in
set_option maxHeartbeats 4000000 in
theorem b_X3_limbAt_0 {p : Program} {l : Launch} {e : Env} {s : State} {m : MethodId} {args : Array Value} {below : List Frame} {meth : Method} {c : Code} {D : va_G} {cA : Nat → ClassId} {A : Nat → Prop} {ad0 : Nat → Nat} {Q : Int64 → St → Prop} {x1 : Int32} {σ : St} (X : Cx p rmX3_limbAt s m args meth c cX3_limbAt 2 RX3 D cA A) (hr : meth.sig.returnType = some .long) (h : w_X3_limbAt Q x1 σ) : G p l e rmX3_limbAt s m args below meth c 2 D cA A (MQ below (va_Ql Q (EndW D cA ad0 shC) A) args s 0 0 A) 0 0 (fun ad => ad = ad0) shC σ [(0, .ref 42), (1, .int x1)] 0 [] := by
  unfold w_X3_limbAt at h
  refine g_iload_n X 1 dX3_limbAt_0 rfl rfl ?_
  refine g_if_lt X 20 dX3_limbAt_1 (by decide) (fun hc => ?_) (fun hc => ?_)
  · have h := h.1 hc
    refine g_lconst X (0 : Int64) dX3_limbAt_20 (by decide) ?_
    exact g_lret X hr dX3_limbAt_21 h
  · have h := h.2 hc
    refine g_iload_n X 1 dX3_limbAt_4 rfl rfl ?_
    refine g_sipush X (150 : Int32) dX3_limbAt_5 (by decide) ?_
    refine g_icmp_ge X 20 dX3_limbAt_8 (by decide) (fun hc => ?_) (fun hc => ?_)
    · have h := h.1 hc
      refine g_lconst X (0 : Int64) dX3_limbAt_20 (by decide) ?_
      exact g_lret X hr dX3_limbAt_21 h
    · have h := h.2 hc
      refine g_aload_n X 0 dX3_limbAt_11 rfl rfl ?_
      refine g_getR X (C := RX3) (T := TX3) (N := 1) 0 dX3_limbAt_12 (Nat.le_of_ble_eq_true rfl) rfl rfl rfl inG3 (Nat.le_of_ble_eq_true rfl) rfl rfl q122 ?_
      refine g_iload_n X 1 dX3_limbAt_15 rfl rfl ?_
      obtain ⟨hi1, h⟩ := h
      refine g_lald X dX3_limbAt_16 (Nat.le_of_ble_eq_true rfl) rfl hi1 ?_
      refine g_goto X 21 dX3_limbAt_17 (by decide) ?_
      exact g_lret X hr dX3_limbAt_21 h
theorem c_X3_limbAt (l : Launch) (D : va_G) (cA : Nat → ClassId) {x1 : Int32} {σ : St} {Q : Int64 → St → Prop} (h : w_X3_limbAt Q x1 σ) : CtL l yX3_limbAt cX3_limbAt 2 (some .long) rmX3_limbAt D cA shC [.ref 42, .int x1] σ Q := by
  refine CtL.of (own := RX3) rfl (by decide +kernel) [(0, .ref 42), (1, .int x1)] rfl (Nat.le_of_ble_eq_true rfl) ?_
  intro p e s m args below meth c ad0 A X hr
  exact b_X3_limbAt_0 X hr  h
def rmX3_bitAt : Room := { frames := 1, cells := 0, slots := 0, locals := 21 }
def w_X3_bitAt (Q : Int32 → St → Prop) (x1 : Int32) (σ : St) : Prop := w_X3_limbAt (fun r2 σ1 => (Q (((lushrF r2 (x1 - x1 / (32 : Int32) * (32 : Int32))) &&& (1 : Int64)).toInt32) σ1)) (x1 / (32 : Int32)) σ
set_option maxRecDepth 100000 in
set_option maxHeartbeats 4000000 in
theorem b_X3_bitAt_0 {p : Program} {l : Launch} {e : Env} {s : State} {m : MethodId} {args : Array Value} {below : List Frame} {meth : Method} {c : Code} {D : va_G} {cA : Nat → ClassId} {A : Nat → Prop} {ad0 : Nat → Nat} {Q : Int32 → St → Prop} {x1 : Int32} {σ : St} (X : Cx p rmX3_bitAt s m args meth c cX3_bitAt 2 RX3 D cA A) (hr : meth.sig.returnType = some .int) (h : w_X3_bitAt Q x1 σ) : G p l e rmX3_bitAt s m args below meth c 2 D cA A (MQ below (va_Qi Q (EndW D cA ad0 shC) A) args s 0 0 A) 0 0 (fun ad => ad = ad0) shC σ [(0, .ref 42), (1, .int x1)] 0 [] := by
  unfold w_X3_bitAt at h
  refine g_aload_n X 0 dX3_bitAt_0 rfl rfl ?_
  refine g_iload_n X 1 dX3_bitAt_1 rfl rfl ?_
  refine g_bipush X (32 : Int32) dX3_bitAt_2 (by decide) ?_
  refine g_idiv X dX3_bitAt_4 (by decide) ?_
  refine g_callVL X (C := RX3) (T := TX3) (N := 1) (n := 1) [.int (x1 / (32 : Int32))] [] dX3_bitAt_5 (c_X3_limbAt l D cA h) q477 q479 q13 q50 q480 (Nat.le_of_ble_eq_true rfl) rfl rfl ⟨rfl, by decide, by decide, by decide +kernel⟩ rfl rfl (Nat.le_of_ble_eq_true rfl) rfl rfl ⟨(Nat.le_of_ble_eq_true rfl), (Nat.le_of_ble_eq_true rfl)⟩ (Nat.le_of_ble_eq_true rfl) (Nat.le_of_ble_eq_true rfl) (fun r2 σ1 h => ?_)
  refine g_iload_n X 1 dX3_bitAt_8 rfl rfl ?_
  refine g_bipush X (32 : Int32) dX3_bitAt_9 (by decide) ?_
  refine g_irem X dX3_bitAt_11 (by decide) ?_
  refine g_lushr X dX3_bitAt_12 ?_
  refine g_lconst X (1 : Int64) dX3_bitAt_13 (by decide) ?_
  refine g_land X dX3_bitAt_14 ?_
  refine g_l2i X dX3_bitAt_15 ?_
  exact g_iret X hr dX3_bitAt_16 rfl h
theorem c_X3_bitAt (l : Launch) (D : va_G) (cA : Nat → ClassId) {x1 : Int32} {σ : St} {Q : Int32 → St → Prop} (h : w_X3_bitAt Q x1 σ) : CtI l yX3_bitAt cX3_bitAt 2 (some .int) rmX3_bitAt D cA shC [.ref 42, .int x1] σ Q := by
  refine CtI.of (own := RX3) rfl (by decide +kernel) [(0, .ref 42), (1, .int x1)] rfl (Nat.le_of_ble_eq_true rfl) ?_
  intro p e s m args below meth c ad0 A X hr
  exact b_X3_bitAt_0 X hr  h
def rmX3_wholeFrom : Room := { frames := 1, cells := 0, slots := 0, locals := 21 }
def w_X3_wholeFrom (Q : Int64 → St → Prop) (x1 : Int32) (σ : St) : Prop := ∀ y1 : Int32, y1 = (x1 / (32 : Int32)) → ∀ y2 : Int32, y2 = (x1 - x1 / (32 : Int32) * (32 : Int32)) → w_X3_limbAt (fun r4 σ3 => w_X3_limbAt (fun r6 σ5 => ∀ y7 : Int64, y7 = (lushrF ((lshlF r4 (32 : Int32)) ||| r6) y2) → ((¬ y2 = 0 → w_X3_limbAt (fun r9 σ8 => (Q (y7 ||| (lshlF r9 ((64 : Int32) - y2))) σ8)) (y1 + (2 : Int32)) σ5) ∧ (y2 = 0 → (Q y7 σ5)))) y1 σ3) (y1 + (1 : Int32)) σ
set_option maxRecDepth 100000 in
set_option maxHeartbeats 4000000 in
theorem b_X3_wholeFrom_0 {p : Program} {l : Launch} {e : Env} {s : State} {m : MethodId} {args : Array Value} {below : List Frame} {meth : Method} {c : Code} {D : va_G} {cA : Nat → ClassId} {A : Nat → Prop} {ad0 : Nat → Nat} {Q : Int64 → St → Prop} {x1 : Int32} {σ : St} (X : Cx p rmX3_wholeFrom s m args meth c cX3_wholeFrom 6 RX3 D cA A) (hr : meth.sig.returnType = some .long) (h : w_X3_wholeFrom Q x1 σ) : G p l e rmX3_wholeFrom s m args below meth c 6 D cA A (MQ below (va_Ql Q (EndW D cA ad0 shC) A) args s 0 0 A) 0 0 (fun ad => ad = ad0) shC σ [(0, .ref 42), (1, .int x1)] 0 [] := by
  unfold w_X3_wholeFrom at h
  refine g_iload_n X 1 dX3_wholeFrom_0 rfl rfl ?_
  refine g_bipush X (32 : Int32) dX3_wholeFrom_1 (by decide) ?_
  refine g_idiv X dX3_wholeFrom_3 (by decide) ?_
  refine g_nameI (fun y1 ey1 => ?_)
  have h := h y1 ey1
  refine g_istore_n X [(2, .int y1), (0, .ref 42), (1, .int x1)] dX3_wholeFrom_4 rfl (Nat.le_of_ble_eq_true rfl) rfl ?_
  refine g_iload_n X 2 dX3_wholeFrom_5 rfl rfl ?_
  refine g_bipush X (32 : Int32) dX3_wholeFrom_6 (by decide) ?_
  refine g_irem X dX3_wholeFrom_8 (by decide) ?_
  refine g_nameI (fun y2 ey2 => ?_)
  have h := h y2 ey2
  refine g_istore_n X [(3, .int y2), (2, .int y1), (0, .ref 42), (1, .int x1)] dX3_wholeFrom_9 rfl (Nat.le_of_ble_eq_true rfl) rfl ?_
  refine g_aload_n X 2 dX3_wholeFrom_10 rfl rfl ?_
  refine g_iload_n X 1 dX3_wholeFrom_11 rfl rfl ?_
  refine g_iconst X (1 : Int32) dX3_wholeFrom_12 (by decide) ?_
  refine g_iadd X dX3_wholeFrom_13 ?_
  refine g_callVL X (C := RX3) (T := TX3) (N := 1) (n := 1) [.int (y1 + (1 : Int32))] [] dX3_wholeFrom_14 (c_X3_limbAt l D cA h) q477 q479 q13 q50 q480 (Nat.le_of_ble_eq_true rfl) rfl rfl ⟨rfl, by decide, by decide, by decide +kernel⟩ rfl rfl (Nat.le_of_ble_eq_true rfl) rfl rfl ⟨(Nat.le_of_ble_eq_true rfl), (Nat.le_of_ble_eq_true rfl)⟩ (Nat.le_of_ble_eq_true rfl) (Nat.le_of_ble_eq_true rfl) (fun r4 σ3 h => ?_)
  refine g_bipush X (32 : Int32) dX3_wholeFrom_17 (by decide) ?_
  refine g_lshl X dX3_wholeFrom_19 ?_
  refine g_aload_n X 2 dX3_wholeFrom_20 rfl rfl ?_
  refine g_iload_n X 1 dX3_wholeFrom_21 rfl rfl ?_
  refine g_callVL X (C := RX3) (T := TX3) (N := 1) (n := 1) [.int y1] [.long (lshlF r4 (32 : Int32))] dX3_wholeFrom_22 (c_X3_limbAt l D cA h) q477 q479 q13 q50 q480 (Nat.le_of_ble_eq_true rfl) rfl rfl ⟨rfl, by decide, by decide, by decide +kernel⟩ rfl rfl (Nat.le_of_ble_eq_true rfl) rfl rfl ⟨(Nat.le_of_ble_eq_true rfl), (Nat.le_of_ble_eq_true rfl)⟩ (Nat.le_of_ble_eq_true rfl) (Nat.le_of_ble_eq_true rfl) (fun r6 σ5 h => ?_)
  refine g_lor X dX3_wholeFrom_25 ?_
  refine g_iload_n X 0 dX3_wholeFrom_26 rfl rfl ?_
  refine g_lushr X dX3_wholeFrom_27 ?_
  refine g_nameJ (fun y7 ey7 => ?_)
  have h := h y7 ey7
  refine g_lstore X [(4, .long y7), (3, .int y2), (2, .int y1), (0, .ref 42), (1, .int x1)] dX3_wholeFrom_28 (Nat.le_of_ble_eq_true rfl) rfl ?_
  refine g_iload_n X 1 dX3_wholeFrom_30 rfl rfl ?_
  refine g_if_ne X 39 dX3_wholeFrom_31 (by decide) (fun hc => ?_) (fun hc => ?_)
  · have h := h.1 hc
    refine g_lload X 0 dX3_wholeFrom_39 rfl ?_
    refine g_aload_n X 3 dX3_wholeFrom_41 rfl rfl ?_
    refine g_iload_n X 2 dX3_wholeFrom_42 rfl rfl ?_
    refine g_iconst X (2 : Int32) dX3_wholeFrom_43 (by decide) ?_
    refine g_iadd X dX3_wholeFrom_44 ?_
    refine g_callVL X (C := RX3) (T := TX3) (N := 1) (n := 1) [.int (y1 + (2 : Int32))] [.long y7] dX3_wholeFrom_45 (c_X3_limbAt l D cA h) q477 q479 q13 q50 q480 (Nat.le_of_ble_eq_true rfl) rfl rfl ⟨rfl, by decide, by decide, by decide +kernel⟩ rfl rfl (Nat.le_of_ble_eq_true rfl) rfl rfl ⟨(Nat.le_of_ble_eq_true rfl), (Nat.le_of_ble_eq_true rfl)⟩ (Nat.le_of_ble_eq_true rfl) (Nat.le_of_ble_eq_true rfl) (fun r9 σ8 h => ?_)
    refine g_bipush X (64 : Int32) dX3_wholeFrom_48 (by decide) ?_
    refine g_iload_n X 1 dX3_wholeFrom_50 rfl rfl ?_
    refine g_isub X dX3_wholeFrom_51 ?_
    refine g_lshl X dX3_wholeFrom_52 ?_
    refine g_lor X dX3_wholeFrom_53 ?_
    exact g_lret X hr dX3_wholeFrom_54 h
  · have h := h.2 hc
    refine g_lload X 0 dX3_wholeFrom_34 rfl ?_
    refine g_goto X 54 dX3_wholeFrom_36 (by decide) ?_
    exact g_lret X hr dX3_wholeFrom_54 h
theorem c_X3_wholeFrom (l : Launch) (D : va_G) (cA : Nat → ClassId) {x1 : Int32} {σ : St} {Q : Int64 → St → Prop} (h : w_X3_wholeFrom Q x1 σ) : CtL l yX3_wholeFrom cX3_wholeFrom 6 (some .long) rmX3_wholeFrom D cA shC [.ref 42, .int x1] σ Q := by
  refine CtL.of (own := RX3) rfl (by decide +kernel) [(0, .ref 42), (1, .int x1)] rfl (Nat.le_of_ble_eq_true rfl) ?_
  intro p e s m args below meth c ad0 A X hr
  exact b_X3_wholeFrom_0 X hr  h
def rmX3_hasBitBelow : Room := { frames := 1, cells := 0, slots := 0, locals := 21 }
def w_X3_hasBitBelow_38 (Q : Int32 → St → Prop) (x1 : Int32) (x2 : Int32) (σ : St) : Prop := w_X3_limbAt (fun r3 σ2 => (((r3 &&& ((lshlF (1 : Int64) (x1 - x1 / (32 : Int32) * (32 : Int32))) - (1 : Int64))) = (0 : Int64) → (Q (0 : Int32) σ2)) ∧ (¬ (r3 &&& ((lshlF (1 : Int64) (x1 - x1 / (32 : Int32) * (32 : Int32))) - (1 : Int64))) = (0 : Int64) → (Q (1 : Int32) σ2)))) x2 σ
set_option maxRecDepth 100000 in
set_option maxHeartbeats 4000000 in
theorem b_X3_hasBitBelow_38 {p : Program} {l : Launch} {e : Env} {s : State} {m : MethodId} {args : Array Value} {below : List Frame} {meth : Method} {c : Code} {D : va_G} {cA : Nat → ClassId} {A : Nat → Prop} {ad0 : Nat → Nat} {Q : Int32 → St → Prop} {x1 : Int32} {x2 : Int32} {σ : St} (X : Cx p rmX3_hasBitBelow s m args meth c cX3_hasBitBelow 4 RX3 D cA A) (hr : meth.sig.returnType = some .boolean) (h : w_X3_hasBitBelow_38 Q x1 x2 σ) : G p l e rmX3_hasBitBelow s m args below meth c 4 D cA A (MQ below (va_Qi Q (EndW D cA ad0 shC) A) args s 0 0 A) 0 0 (fun ad => ad = ad0) shC σ [(0, .ref 42), (1, .int x1), (2, .int x2)] 38 [] := by
  unfold w_X3_hasBitBelow_38 at h
  refine g_aload_n X 0 dX3_hasBitBelow_38 rfl rfl ?_
  refine g_iload_n X 2 dX3_hasBitBelow_39 rfl rfl ?_
  refine g_callVL X (C := RX3) (T := TX3) (N := 1) (n := 1) [.int x2] [] dX3_hasBitBelow_40 (c_X3_limbAt l D cA h) q477 q479 q13 q50 q480 (Nat.le_of_ble_eq_true rfl) rfl rfl ⟨rfl, by decide, by decide, by decide +kernel⟩ rfl rfl (Nat.le_of_ble_eq_true rfl) rfl rfl ⟨(Nat.le_of_ble_eq_true rfl), (Nat.le_of_ble_eq_true rfl)⟩ (Nat.le_of_ble_eq_true rfl) (Nat.le_of_ble_eq_true rfl) (fun r3 σ2 h => ?_)
  refine g_lconst X (1 : Int64) dX3_hasBitBelow_43 (by decide) ?_
  refine g_iload_n X 1 dX3_hasBitBelow_44 rfl rfl ?_
  refine g_bipush X (32 : Int32) dX3_hasBitBelow_45 (by decide) ?_
  refine g_irem X dX3_hasBitBelow_47 (by decide) ?_
  refine g_lshl X dX3_hasBitBelow_48 ?_
  refine g_lconst X (1 : Int64) dX3_hasBitBelow_49 (by decide) ?_
  refine g_lsub X dX3_hasBitBelow_50 ?_
  refine g_land X dX3_hasBitBelow_51 ?_
  refine g_lconst X (0 : Int64) dX3_hasBitBelow_52 (by decide) ?_
  refine g_lcmp X dX3_hasBitBelow_53 ?_
  refine g_if_eq X 61 dX3_hasBitBelow_54 (by decide) (fun hc => ?_) (fun hc => ?_)
  · have h := h.1 (lgc_eq.mp hc)
    refine g_iconst X (0 : Int32) dX3_hasBitBelow_61 (by decide) ?_
    exact g_iret X hr dX3_hasBitBelow_62 (by decide) h
  · have h := h.2 (fun z => hc (lgc_eq.mpr z))
    refine g_iconst X (1 : Int32) dX3_hasBitBelow_57 (by decide) ?_
    refine g_goto X 62 dX3_hasBitBelow_58 (by decide) ?_
    exact g_iret X hr dX3_hasBitBelow_62 (by decide) h
def w_X3_hasBitBelow_7 (Q : Int32 → St → Prop) : Nat → Int32 → Int32 → Int32 → St → Prop
  | 0, _, _, _, _ => False
  | n + 1, x1, x2, x3, σ => ((x2 ≤ x3 → (w_X3_hasBitBelow_38 Q x1 x2 σ)) ∧ (¬ x2 ≤ x3 → (((150 : Int32) ≤ x3 → (w_X3_hasBitBelow_38 Q x1 x2 σ)) ∧ (¬ (150 : Int32) ≤ x3 → vp_in x3 150 ∧ (((gJ σ 43 (ix x3)) = (0 : Int64) → ∀ y5 : Int32, y5 = x3 + (1 : Int32) → (w_X3_hasBitBelow_7 Q n x1 x2 y5 σ)) ∧ (¬ (gJ σ 43 (ix x3)) = (0 : Int64) → (Q (1 : Int32) σ)))))))
set_option maxRecDepth 100000 in
set_option maxHeartbeats 4000000 in
theorem b_X3_hasBitBelow_7 {p : Program} {l : Launch} {e : Env} {s : State} {m : MethodId} {args : Array Value} {below : List Frame} {meth : Method} {c : Code} {D : va_G} {cA : Nat → ClassId} {A : Nat → Prop} {ad0 : Nat → Nat} {Q : Int32 → St → Prop} (X : Cx p rmX3_hasBitBelow s m args meth c cX3_hasBitBelow 4 RX3 D cA A) (hr : meth.sig.returnType = some .boolean) : ∀ (n : Nat) (x1 : Int32) (x2 : Int32) (x3 : Int32) (σ : St), w_X3_hasBitBelow_7 Q n x1 x2 x3 σ → G p l e rmX3_hasBitBelow s m args below meth c 4 D cA A (MQ below (va_Qi Q (EndW D cA ad0 shC) A) args s 0 0 A) 0 0 (fun ad => ad = ad0) shC σ [(0, .ref 42), (1, .int x1), (2, .int x2), (3, .int x3)] 7 [] := by
  intro n
  induction n with
  | zero => intro x1 x2 x3 σ h; exact h.elim
  | succ n ih =>
    intro x1 x2 x3 σ h
    rw [w_X3_hasBitBelow_7] at h
    refine g_iload_n X 3 dX3_hasBitBelow_7 rfl rfl ?_
    refine g_iload_n X 2 dX3_hasBitBelow_8 rfl rfl ?_
    refine g_icmp_ge X 38 dX3_hasBitBelow_9 (by decide) (fun hc => ?_) (fun hc => ?_)
    · have h := h.1 hc
      refine g_weak [0, 1, 2] rfl ?_
      exact b_X3_hasBitBelow_38 X hr h
    · have h := h.2 hc
      refine g_iload_n X 3 dX3_hasBitBelow_12 rfl rfl ?_
      refine g_sipush X (150 : Int32) dX3_hasBitBelow_13 (by decide) ?_
      refine g_icmp_ge X 38 dX3_hasBitBelow_16 (by decide) (fun hc => ?_) (fun hc => ?_)
      · have h := h.1 hc
        refine g_weak [0, 1, 2] rfl ?_
        exact b_X3_hasBitBelow_38 X hr h
      · have h := h.2 hc
        refine g_aload_n X 0 dX3_hasBitBelow_19 rfl rfl ?_
        refine g_getR X (C := RX3) (T := TX3) (N := 1) 0 dX3_hasBitBelow_20 (Nat.le_of_ble_eq_true rfl) rfl rfl rfl inG3 (Nat.le_of_ble_eq_true rfl) rfl rfl q122 ?_
        refine g_iload_n X 3 dX3_hasBitBelow_23 rfl rfl ?_
        obtain ⟨hi4, h⟩ := h
        refine g_lald X dX3_hasBitBelow_24 (Nat.le_of_ble_eq_true rfl) rfl hi4 ?_
        refine g_lconst X (0 : Int64) dX3_hasBitBelow_25 (by decide) ?_
        refine g_lcmp X dX3_hasBitBelow_26 ?_
        refine g_if_eq X 32 dX3_hasBitBelow_27 (by decide) (fun hc => ?_) (fun hc => ?_)
        · have h := h.1 (lgc_eq.mp hc)
          obtain ⟨y5, ey5⟩ : ∃ y : Int32, y = x3 + (1 : Int32) := ⟨_, rfl⟩
          have h := h y5 ey5
          refine g_iinc X 3 (1 : Int32) [(3, .int y5), (0, .ref 42), (1, .int x1), (2, .int x2)] dX3_hasBitBelow_32 rfl (by decide) (Nat.le_of_ble_eq_true rfl) (by rw [ey5]; rfl) ?_
          refine g_goto X 7 dX3_hasBitBelow_35 (by decide) ?_
          refine g_weak [1, 2, 3, 0] rfl ?_
          exact ih _ _ _ _ h
        · have h := h.2 (fun z => hc (lgc_eq.mpr z))
          refine g_iconst X (1 : Int32) dX3_hasBitBelow_30 (by decide) ?_
          exact g_iret X hr dX3_hasBitBelow_31 (by decide) h
def w_X3_hasBitBelow (Q : Int32 → St → Prop) (x1 : Int32) (σ : St) : Prop := ∀ y1 : Int32, y1 = (x1 / (32 : Int32)) → (∃ fu6 : Nat, w_X3_hasBitBelow_7 Q fu6 x1 y1 (0 : Int32) σ)
set_option maxRecDepth 100000 in
set_option maxHeartbeats 4000000 in
theorem b_X3_hasBitBelow_0 {p : Program} {l : Launch} {e : Env} {s : State} {m : MethodId} {args : Array Value} {below : List Frame} {meth : Method} {c : Code} {D : va_G} {cA : Nat → ClassId} {A : Nat → Prop} {ad0 : Nat → Nat} {Q : Int32 → St → Prop} {x1 : Int32} {σ : St} (X : Cx p rmX3_hasBitBelow s m args meth c cX3_hasBitBelow 4 RX3 D cA A) (hr : meth.sig.returnType = some .boolean) (h : w_X3_hasBitBelow Q x1 σ) : G p l e rmX3_hasBitBelow s m args below meth c 4 D cA A (MQ below (va_Qi Q (EndW D cA ad0 shC) A) args s 0 0 A) 0 0 (fun ad => ad = ad0) shC σ [(0, .ref 42), (1, .int x1)] 0 [] := by
  unfold w_X3_hasBitBelow at h
  refine g_iload_n X 1 dX3_hasBitBelow_0 rfl rfl ?_
  refine g_bipush X (32 : Int32) dX3_hasBitBelow_1 (by decide) ?_
  refine g_idiv X dX3_hasBitBelow_3 (by decide) ?_
  refine g_nameI (fun y1 ey1 => ?_)
  have h := h y1 ey1
  refine g_istore_n X [(2, .int y1), (0, .ref 42), (1, .int x1)] dX3_hasBitBelow_4 rfl (Nat.le_of_ble_eq_true rfl) rfl ?_
  refine g_iconst X (0 : Int32) dX3_hasBitBelow_5 (by decide) ?_
  refine g_istore_n X [(3, .int (0 : Int32)), (2, .int y1), (0, .ref 42), (1, .int x1)] dX3_hasBitBelow_6 rfl (Nat.le_of_ble_eq_true rfl) rfl ?_
  refine g_weak [2, 3, 1, 0] rfl ?_
  obtain ⟨fu6, h⟩ := h
  exact b_X3_hasBitBelow_7 X hr fu6 _ _ _ _ h
theorem c_X3_hasBitBelow (l : Launch) (D : va_G) (cA : Nat → ClassId) {x1 : Int32} {σ : St} {Q : Int32 → St → Prop} (h : w_X3_hasBitBelow Q x1 σ) : CtI l yX3_hasBitBelow cX3_hasBitBelow 4 (some .boolean) rmX3_hasBitBelow D cA shC [.ref 42, .int x1] σ Q := by
  refine CtI.of (own := RX3) rfl (by decide +kernel) [(0, .ref 42), (1, .int x1)] rfl (Nat.le_of_ble_eq_true rfl) ?_
  intro p e s m args below meth c ad0 A X hr
  exact b_X3_hasBitBelow_0 X hr  h
def rmX3_rounded : Room := { frames := 4, cells := 0, slots := 0, locals := 93 }
def w_X3_rounded_119 (Q : UInt64 → St → Prop) (x1 : Int32) (x3 : Int32) (x4 : Int32) (x7 : Int32) (x8 : Int64) (σ : St) : Prop := w_X4_finished (fun r12 σ11 => (Q r12 σ11)) x8 (x7 + (-2148 : Int32)) x1 x3 x4 σ
set_option maxRecDepth 100000 in
set_option maxHeartbeats 4000000 in
theorem b_X3_rounded_119 {p : Program} {l : Launch} {e : Env} {s : State} {m : MethodId} {args : Array Value} {below : List Frame} {meth : Method} {c : Code} {D : va_G} {cA : Nat → ClassId} {A : Nat → Prop} {ad0 : Nat → Nat} {Q : UInt64 → St → Prop} {x1 : Int32} {x3 : Int32} {x4 : Int32} {x7 : Int32} {x8 : Int64} {σ : St} (X : Cx p rmX3_rounded s m args meth c cX3_rounded 12 RX3 D cA A) (hr : meth.sig.returnType = some .double) (h : w_X3_rounded_119 Q x1 x3 x4 x7 x8 σ) : G p l e rmX3_rounded s m args below meth c 12 D cA A (MQ below (va_Qd Q (EndW D cA ad0 shC) A) args s 0 0 A) 0 0 (fun ad => ad = ad0) shC σ [(1, .int x1), (3, .int x3), (4, .int x4), (7, .int x7), (8, .long x8)] 119 [] := by
  unfold w_X3_rounded_119 at h
  refine g_lload X 4 dX3_rounded_119 rfl ?_
  refine g_iload X 3 dX3_rounded_121 rfl ?_
  refine g_sipush X (-2148 : Int32) dX3_rounded_123 (by decide) ?_
  refine g_iadd X dX3_rounded_126 ?_
  refine g_iload_n X 0 dX3_rounded_127 rfl rfl ?_
  refine g_iload_n X 1 dX3_rounded_128 rfl rfl ?_
  refine g_iload X 2 dX3_rounded_129 rfl ?_
  refine g_callND X (host := "LongSums") (n := 5) [.long x8, .int (x7 + (-2148 : Int32)), .int x1, .int x3, .int x4] [] dX3_rounded_131 (c_X4_finished l D cA shC h) (nw 490 (by decide +kernel) rfl) q491 q47 q492 ⟨by decide, by decide, by decide +kernel⟩ rfl rfl (Nat.le_of_ble_eq_true rfl) rfl rfl ⟨(Nat.le_of_ble_eq_true rfl), (Nat.le_of_ble_eq_true rfl)⟩ (Nat.le_of_ble_eq_true rfl) (Nat.le_of_ble_eq_true rfl) (fun r12 σ11 h => ?_)
  exact g_dret X hr dX3_rounded_134 h
def w_X3_rounded_97 (Q : UInt64 → St → Prop) (x1 : Int32) (x3 : Int32) (x4 : Int32) (x7 : Int32) (x8 : Int64) (x10 : Int32) (s0 : Int32) (σ : St) : Prop := w_X4_stepsAway (fun r10 σ9 => ((r10 = 0 → (w_X3_rounded_119 Q x1 x3 x4 x7 x8 σ9)) ∧ (¬ r10 = 0 → ∀ y13 : Int64, y13 = (x8 + (1 : Int64)) → (w_X3_rounded_119 Q x1 x3 x4 x7 y13 σ9)))) x8 x10 s0 x1 x3 σ
set_option maxRecDepth 100000 in
set_option maxHeartbeats 4000000 in
theorem b_X3_rounded_97 {p : Program} {l : Launch} {e : Env} {s : State} {m : MethodId} {args : Array Value} {below : List Frame} {meth : Method} {c : Code} {D : va_G} {cA : Nat → ClassId} {A : Nat → Prop} {ad0 : Nat → Nat} {Q : UInt64 → St → Prop} {x1 : Int32} {x3 : Int32} {x4 : Int32} {x7 : Int32} {x8 : Int64} {x10 : Int32} {s0 : Int32} {σ : St} (X : Cx p rmX3_rounded s m args meth c cX3_rounded 12 RX3 D cA A) (hr : meth.sig.returnType = some .double) (h : w_X3_rounded_97 Q x1 x3 x4 x7 x8 x10 s0 σ) : G p l e rmX3_rounded s m args below meth c 12 D cA A (MQ below (va_Qd Q (EndW D cA ad0 shC) A) args s 0 0 A) 0 0 (fun ad => ad = ad0) shC σ [(1, .int x1), (3, .int x3), (4, .int x4), (7, .int x7), (8, .long x8), (10, .int x10)] 97 [.int s0] := by
  unfold w_X3_rounded_97 at h
  refine g_istore X [(11, .int s0), (1, .int x1), (3, .int x3), (4, .int x4), (7, .int x7), (8, .long x8), (10, .int x10)] dX3_rounded_97 (Nat.le_of_ble_eq_true rfl) rfl ?_
  refine g_lload X 5 dX3_rounded_99 rfl ?_
  refine g_iload X 6 dX3_rounded_101 rfl ?_
  refine g_iload X 0 dX3_rounded_103 rfl ?_
  refine g_iload_n X 1 dX3_rounded_105 rfl rfl ?_
  refine g_iload_n X 2 dX3_rounded_106 rfl rfl ?_
  refine g_callNI X (host := "LongSums") (n := 5) [.long x8, .int x10, .int s0, .int x1, .int x3] [] dX3_rounded_107 (c_X4_stepsAway l D cA shC h) (nw 489 (by decide +kernel) rfl) q199 q47 q200 ⟨by decide, by decide, by decide +kernel⟩ rfl rfl (Nat.le_of_ble_eq_true rfl) rfl rfl ⟨(Nat.le_of_ble_eq_true rfl), (Nat.le_of_ble_eq_true rfl)⟩ (Nat.le_of_ble_eq_true rfl) (Nat.le_of_ble_eq_true rfl) (fun r10 σ9 h => ?_)
  refine g_if_eq X 119 dX3_rounded_110 (by decide) (fun hc => ?_) (fun hc => ?_)
  · have h := h.1 hc
    refine g_weak [1, 2, 3, 4, 5] rfl ?_
    exact b_X3_rounded_119 X hr h
  · have h := h.2 hc
    refine g_lload X 5 dX3_rounded_113 rfl ?_
    refine g_lconst X (1 : Int64) dX3_rounded_115 (by decide) ?_
    refine g_ladd X dX3_rounded_116 ?_
    refine g_nameJ (fun y13 ey13 => ?_)
    have h := h y13 ey13
    refine g_lstore X [(8, .long y13), (11, .int s0), (1, .int x1), (3, .int x3), (4, .int x4), (7, .int x7), (10, .int x10)] dX3_rounded_117 (Nat.le_of_ble_eq_true rfl) rfl ?_
    refine g_weak [2, 3, 4, 5, 0] rfl ?_
    exact b_X3_rounded_119 X hr h
def w_X3_rounded_92 (Q : UInt64 → St → Prop) (x1 : Int32) (x3 : Int32) (x4 : Int32) (x7 : Int32) (x8 : Int64) (x10 : Int32) (σ : St) : Prop := (w_X3_rounded_97 Q x1 x3 x4 x7 x8 x10 (1 : Int32) σ)
set_option maxRecDepth 100000 in
set_option maxHeartbeats 4000000 in
theorem b_X3_rounded_92 {p : Program} {l : Launch} {e : Env} {s : State} {m : MethodId} {args : Array Value} {below : List Frame} {meth : Method} {c : Code} {D : va_G} {cA : Nat → ClassId} {A : Nat → Prop} {ad0 : Nat → Nat} {Q : UInt64 → St → Prop} {x1 : Int32} {x3 : Int32} {x4 : Int32} {x7 : Int32} {x8 : Int64} {x10 : Int32} {σ : St} (X : Cx p rmX3_rounded s m args meth c cX3_rounded 12 RX3 D cA A) (hr : meth.sig.returnType = some .double) (h : w_X3_rounded_92 Q x1 x3 x4 x7 x8 x10 σ) : G p l e rmX3_rounded s m args below meth c 12 D cA A (MQ below (va_Qd Q (EndW D cA ad0 shC) A) args s 0 0 A) 0 0 (fun ad => ad = ad0) shC σ [(1, .int x1), (3, .int x3), (4, .int x4), (7, .int x7), (8, .long x8), (10, .int x10)] 92 [] := by
  unfold w_X3_rounded_92 at h
  refine g_iconst X (1 : Int32) dX3_rounded_92 (by decide) ?_
  refine g_goto X 97 dX3_rounded_93 (by decide) ?_
  exact b_X3_rounded_97 X hr h
def w_X3_rounded_75 (Q : UInt64 → St → Prop) (x1 : Int32) (x2 : Int32) (x3 : Int32) (x4 : Int32) (x7 : Int32) (x8 : Int64) (s0 : Int32) (σ : St) : Prop := ((¬ x2 = 0 → (w_X3_rounded_92 Q x1 x3 x4 x7 x8 s0 σ)) ∧ (x2 = 0 → w_X3_hasBitBelow (fun r15 σ14 => ((r15 = 0 → (w_X3_rounded_97 Q x1 x3 x4 x7 x8 s0 (0 : Int32) σ14)) ∧ (¬ r15 = 0 → (w_X3_rounded_92 Q x1 x3 x4 x7 x8 s0 σ14)))) (x7 - (1 : Int32)) σ))
set_option maxRecDepth 100000 in
set_option maxHeartbeats 4000000 in
theorem b_X3_rounded_75 {p : Program} {l : Launch} {e : Env} {s : State} {m : MethodId} {args : Array Value} {below : List Frame} {meth : Method} {c : Code} {D : va_G} {cA : Nat → ClassId} {A : Nat → Prop} {ad0 : Nat → Nat} {Q : UInt64 → St → Prop} {x1 : Int32} {x2 : Int32} {x3 : Int32} {x4 : Int32} {x7 : Int32} {x8 : Int64} {s0 : Int32} {σ : St} (X : Cx p rmX3_rounded s m args meth c cX3_rounded 12 RX3 D cA A) (hr : meth.sig.returnType = some .double) (h : w_X3_rounded_75 Q x1 x2 x3 x4 x7 x8 s0 σ) : G p l e rmX3_rounded s m args below meth c 12 D cA A (MQ below (va_Qd Q (EndW D cA ad0 shC) A) args s 0 0 A) 0 0 (fun ad => ad = ad0) shC σ [(0, .ref 42), (1, .int x1), (2, .int x2), (3, .int x3), (4, .int x4), (7, .int x7), (8, .long x8)] 75 [.int s0] := by
  unfold w_X3_rounded_75 at h
  refine g_istore X [(10, .int s0), (0, .ref 42), (1, .int x1), (2, .int x2), (3, .int x3), (4, .int x4), (7, .int x7), (8, .long x8)] dX3_rounded_75 (Nat.le_of_ble_eq_true rfl) rfl ?_
  refine g_iload_n X 3 dX3_rounded_77 rfl rfl ?_
  refine g_if_ne X 92 dX3_rounded_78 (by decide) (fun hc => ?_) (fun hc => ?_)
  · have h := h.1 hc
    refine g_weak [2, 4, 5, 6, 7, 0] rfl ?_
    exact b_X3_rounded_92 X hr h
  · have h := h.2 hc
    refine g_aload_n X 1 dX3_rounded_81 rfl rfl ?_
    refine g_iload X 6 dX3_rounded_82 rfl ?_
    refine g_iconst X (1 : Int32) dX3_rounded_84 (by decide) ?_
    refine g_isub X dX3_rounded_85 ?_
    refine g_callVI X (C := RX3) (T := TX3) (N := 1) (n := 1) [.int (x7 - (1 : Int32))] [] dX3_rounded_86 (c_X3_hasBitBelow l D cA h) q485 q487 q14 q50 q488 (Nat.le_of_ble_eq_true rfl) rfl rfl ⟨rfl, by decide, by decide, by decide +kernel⟩ rfl rfl (Nat.le_of_ble_eq_true rfl) rfl rfl ⟨(Nat.le_of_ble_eq_true rfl), (Nat.le_of_ble_eq_true rfl)⟩ (Nat.le_of_ble_eq_true rfl) (Nat.le_of_ble_eq_true rfl) (fun r15 σ14 h => ?_)
    refine g_if_eq X 96 dX3_rounded_89 (by decide) (fun hc => ?_) (fun hc => ?_)
    · have h := h.1 hc
      refine g_iconst X (0 : Int32) dX3_rounded_96 (by decide) ?_
      refine g_weak [2, 4, 5, 6, 7, 0] rfl ?_
      exact b_X3_rounded_97 X hr h
    · have h := h.2 hc
      refine g_weak [2, 4, 5, 6, 7, 0] rfl ?_
      exact b_X3_rounded_92 X hr h
def w_X3_rounded_40 (Q : UInt64 → St → Prop) (x1 : Int32) (x2 : Int32) (x3 : Int32) (x4 : Int32) (x6 : Int32) (s0 : Int32) (s1 : Int32) (σ : St) : Prop := ∀ y4 : Int32, y4 = (if ((s1 - s0) + (1 : Int32)) < x6 then x6 else ((s1 - s0) + (1 : Int32))) → w_X3_wholeFrom (fun r6 σ5 => w_X3_bitAt (fun r8 σ7 => ((¬ r8 = (1 : Int32) → (w_X3_rounded_75 Q x1 x2 x3 x4 y4 r6 (0 : Int32) σ7)) ∧ (r8 = (1 : Int32) → (w_X3_rounded_75 Q x1 x2 x3 x4 y4 r6 (1 : Int32) σ7)))) (y4 - (1 : Int32)) σ5) y4 σ
set_option maxRecDepth 100000 in
set_option maxHeartbeats 4000000 in
theorem b_X3_rounded_40 {p : Program} {l : Launch} {e : Env} {s : State} {m : MethodId} {args : Array Value} {below : List Frame} {meth : Method} {c : Code} {D : va_G} {cA : Nat → ClassId} {A : Nat → Prop} {ad0 : Nat → Nat} {Q : UInt64 → St → Prop} {x1 : Int32} {x2 : Int32} {x3 : Int32} {x4 : Int32} {x6 : Int32} {s0 : Int32} {s1 : Int32} {σ : St} (X : Cx p rmX3_rounded s m args meth c cX3_rounded 12 RX3 D cA A) (hr : meth.sig.returnType = some .double) (h : w_X3_rounded_40 Q x1 x2 x3 x4 x6 s0 s1 σ) : G p l e rmX3_rounded s m args below meth c 12 D cA A (MQ below (va_Qd Q (EndW D cA ad0 shC) A) args s 0 0 A) 0 0 (fun ad => ad = ad0) shC σ [(0, .ref 42), (1, .int x1), (2, .int x2), (3, .int x3), (4, .int x4), (6, .int x6)] 40 [.int s0, .int s1] := by
  unfold w_X3_rounded_40 at h
  refine g_isub X dX3_rounded_40 ?_
  refine g_iconst X (1 : Int32) dX3_rounded_41 (by decide) ?_
  refine g_iadd X dX3_rounded_42 ?_
  refine g_iload X 5 dX3_rounded_43 rfl ?_
  refine g_mmax X dX3_rounded_45 q472 q193 q53 q194 (Nat.le_of_ble_eq_true rfl) (Nat.le_of_ble_eq_true rfl) (Nat.le_of_ble_eq_true rfl) (Nat.le_of_ble_eq_true rfl) ?_
  refine g_nameI (fun y4 ey4 => ?_)
  have h := h y4 ey4
  refine g_istore X [(7, .int y4), (0, .ref 42), (1, .int x1), (2, .int x2), (3, .int x3), (4, .int x4), (6, .int x6)] dX3_rounded_48 (Nat.le_of_ble_eq_true rfl) rfl ?_
  refine g_aload_n X 1 dX3_rounded_50 rfl rfl ?_
  refine g_iload X 0 dX3_rounded_51 rfl ?_
  refine g_callVL X (C := RX3) (T := TX3) (N := 1) (n := 1) [.int y4] [] dX3_rounded_53 (c_X3_wholeFrom l D cA h) q473 q475 q12 q50 q476 (Nat.le_of_ble_eq_true rfl) rfl rfl ⟨rfl, by decide, by decide, by decide +kernel⟩ rfl rfl (Nat.le_of_ble_eq_true rfl) rfl rfl ⟨(Nat.le_of_ble_eq_true rfl), (Nat.le_of_ble_eq_true rfl)⟩ (Nat.le_of_ble_eq_true rfl) (Nat.le_of_ble_eq_true rfl) (fun r6 σ5 h => ?_)
  refine g_lstore X [(8, .long r6), (7, .int y4), (0, .ref 42), (1, .int x1), (2, .int x2), (3, .int x3), (4, .int x4), (6, .int x6)] dX3_rounded_56 (Nat.le_of_ble_eq_true rfl) rfl ?_
  refine g_aload_n X 2 dX3_rounded_58 rfl rfl ?_
  refine g_iload X 1 dX3_rounded_59 rfl ?_
  refine g_iconst X (1 : Int32) dX3_rounded_61 (by decide) ?_
  refine g_isub X dX3_rounded_62 ?_
  refine g_callVI X (C := RX3) (T := TX3) (N := 1) (n := 1) [.int (y4 - (1 : Int32))] [] dX3_rounded_63 (c_X3_bitAt l D cA h) q481 q482 q483 q50 q484 (Nat.le_of_ble_eq_true rfl) rfl rfl ⟨rfl, by decide, by decide, by decide +kernel⟩ rfl rfl (Nat.le_of_ble_eq_true rfl) rfl rfl ⟨(Nat.le_of_ble_eq_true rfl), (Nat.le_of_ble_eq_true rfl)⟩ (Nat.le_of_ble_eq_true rfl) (Nat.le_of_ble_eq_true rfl) (fun r8 σ7 h => ?_)
  refine g_iconst X (1 : Int32) dX3_rounded_66 (by decide) ?_
  refine g_icmp_ne X 74 dX3_rounded_67 (by decide) (fun hc => ?_) (fun hc => ?_)
  · have h := h.1 hc
    refine g_iconst X (0 : Int32) dX3_rounded_74 (by decide) ?_
    refine g_weak [2, 3, 4, 5, 6, 1, 0] rfl ?_
    exact b_X3_rounded_75 X hr h
  · have h := h.2 hc
    refine g_iconst X (1 : Int32) dX3_rounded_70 (by decide) ?_
    refine g_goto X 75 dX3_rounded_71 (by decide) ?_
    refine g_weak [2, 3, 4, 5, 6, 1, 0] rfl ?_
    exact b_X3_rounded_75 X hr h
def w_X3_rounded_20 (Q : UInt64 → St → Prop) (x1 : Int32) (x2 : Int32) (x3 : Int32) (x4 : Int32) (x5 : Int32) (s0 : Int32) (σ : St) : Prop := ∀ y3 : Int32, y3 = (s0 - (-2148 : Int32)) → ((x4 = 0 → (w_X3_rounded_40 Q x1 x2 x3 x4 y3 (53 : Int32) x5 σ)) ∧ (¬ x4 = 0 → (w_X3_rounded_40 Q x1 x2 x3 x4 y3 (24 : Int32) x5 σ)))
set_option maxRecDepth 100000 in
set_option maxHeartbeats 4000000 in
theorem b_X3_rounded_20 {p : Program} {l : Launch} {e : Env} {s : State} {m : MethodId} {args : Array Value} {below : List Frame} {meth : Method} {c : Code} {D : va_G} {cA : Nat → ClassId} {A : Nat → Prop} {ad0 : Nat → Nat} {Q : UInt64 → St → Prop} {x1 : Int32} {x2 : Int32} {x3 : Int32} {x4 : Int32} {x5 : Int32} {s0 : Int32} {σ : St} (X : Cx p rmX3_rounded s m args meth c cX3_rounded 12 RX3 D cA A) (hr : meth.sig.returnType = some .double) (h : w_X3_rounded_20 Q x1 x2 x3 x4 x5 s0 σ) : G p l e rmX3_rounded s m args below meth c 12 D cA A (MQ below (va_Qd Q (EndW D cA ad0 shC) A) args s 0 0 A) 0 0 (fun ad => ad = ad0) shC σ [(0, .ref 42), (1, .int x1), (2, .int x2), (3, .int x3), (4, .int x4), (5, .int x5)] 20 [.int s0] := by
  unfold w_X3_rounded_20 at h
  refine g_sipush X (-2148 : Int32) dX3_rounded_20 (by decide) ?_
  refine g_isub X dX3_rounded_23 ?_
  refine g_nameI (fun y3 ey3 => ?_)
  have h := h y3 ey3
  refine g_istore X [(6, .int y3), (0, .ref 42), (1, .int x1), (2, .int x2), (3, .int x3), (4, .int x4), (5, .int x5)] dX3_rounded_24 (Nat.le_of_ble_eq_true rfl) rfl ?_
  refine g_iload X 6 dX3_rounded_26 rfl ?_
  refine g_iload X 5 dX3_rounded_28 rfl ?_
  refine g_if_eq X 38 dX3_rounded_30 (by decide) (fun hc => ?_) (fun hc => ?_)
  · have h := h.1 hc
    refine g_bipush X (53 : Int32) dX3_rounded_38 (by decide) ?_
    refine g_weak [1, 2, 3, 4, 5, 0] rfl ?_
    exact b_X3_rounded_40 X hr h
  · have h := h.2 hc
    refine g_bipush X (24 : Int32) dX3_rounded_33 (by decide) ?_
    refine g_goto X 40 dX3_rounded_35 (by decide) ?_
    refine g_weak [1, 2, 3, 4, 5, 0] rfl ?_
    exact b_X3_rounded_40 X hr h
def w_X3_rounded (Q : UInt64 → St → Prop) (x1 : Int32) (x2 : Int32) (x3 : Int32) (x4 : Int32) (σ : St) : Prop := w_X3_topBit (fun r2 σ1 => ((x4 = 0 → (w_X3_rounded_20 Q x1 x2 x3 x4 r2 (-1074 : Int32) σ1)) ∧ (¬ x4 = 0 → (w_X3_rounded_20 Q x1 x2 x3 x4 r2 (-149 : Int32) σ1)))) σ
set_option maxRecDepth 100000 in
set_option maxHeartbeats 4000000 in
theorem b_X3_rounded_0 {p : Program} {l : Launch} {e : Env} {s : State} {m : MethodId} {args : Array Value} {below : List Frame} {meth : Method} {c : Code} {D : va_G} {cA : Nat → ClassId} {A : Nat → Prop} {ad0 : Nat → Nat} {Q : UInt64 → St → Prop} {x1 : Int32} {x2 : Int32} {x3 : Int32} {x4 : Int32} {σ : St} (X : Cx p rmX3_rounded s m args meth c cX3_rounded 12 RX3 D cA A) (hr : meth.sig.returnType = some .double) (h : w_X3_rounded Q x1 x2 x3 x4 σ) : G p l e rmX3_rounded s m args below meth c 12 D cA A (MQ below (va_Qd Q (EndW D cA ad0 shC) A) args s 0 0 A) 0 0 (fun ad => ad = ad0) shC σ [(0, .ref 42), (1, .int x1), (2, .int x2), (3, .int x3), (4, .int x4)] 0 [] := by
  unfold w_X3_rounded at h
  refine g_aload_n X 0 dX3_rounded_0 rfl rfl ?_
  refine g_callVI X (C := RX3) (T := TX3) (N := 1) (n := 0) [] [] dX3_rounded_1 (c_X3_topBit l D cA h) q467 q468 q469 q50 q470 (Nat.le_of_ble_eq_true rfl) rfl rfl ⟨rfl, by decide, by decide, by decide +kernel⟩ rfl rfl (Nat.le_of_ble_eq_true rfl) rfl rfl ⟨(Nat.le_of_ble_eq_true rfl), (Nat.le_of_ble_eq_true rfl)⟩ (Nat.le_of_ble_eq_true rfl) (Nat.le_of_ble_eq_true rfl) (fun r2 σ1 h => ?_)
  refine g_istore X [(5, .int r2), (0, .ref 42), (1, .int x1), (2, .int x2), (3, .int x3), (4, .int x4)] dX3_rounded_4 (Nat.le_of_ble_eq_true rfl) rfl ?_
  refine g_iload X 5 dX3_rounded_6 rfl ?_
  refine g_if_eq X 17 dX3_rounded_8 (by decide) (fun hc => ?_) (fun hc => ?_)
  · have h := h.1 hc
    refine g_sipush X (-1074 : Int32) dX3_rounded_17 (by decide) ?_
    refine g_weak [1, 2, 3, 4, 5, 0] rfl ?_
    exact b_X3_rounded_20 X hr h
  · have h := h.2 hc
    refine g_sipush X (-149 : Int32) dX3_rounded_11 (by decide) ?_
    refine g_goto X 20 dX3_rounded_14 (by decide) ?_
    refine g_weak [1, 2, 3, 4, 5, 0] rfl ?_
    exact b_X3_rounded_20 X hr h
theorem c_X3_rounded (l : Launch) (D : va_G) (cA : Nat → ClassId) {x1 : Int32} {x2 : Int32} {x3 : Int32} {x4 : Int32} {σ : St} {Q : UInt64 → St → Prop} (h : w_X3_rounded Q x1 x2 x3 x4 σ) : CtD l yX3_rounded cX3_rounded 12 (some .double) rmX3_rounded D cA shC [.ref 42, .int x1, .int x2, .int x3, .int x4] σ Q := by
  refine CtD.of (own := RX3) rfl (by decide +kernel) [(0, .ref 42), (1, .int x1), (2, .int x2), (3, .int x3), (4, .int x4)] rfl (Nat.le_of_ble_eq_true rfl) ?_
  intro p e s m args below meth c ad0 A X hr
  exact b_X3_rounded_0 X hr  h
def rmX3_rootRounded : Room := { frames := 4, cells := 0, slots := 0, locals := 93 }
def w_X3_rootRounded_147 (Q : UInt64 → St → Prop) (x1 : Int32) (x3 : Int32) (x4 : Int64) (σ : St) : Prop := w_X4_finished (fun r8 σ7 => (Q r8 σ7)) x4 (x3 + (-1074 : Int32)) (0 : Int32) x1 (0 : Int32) σ
set_option maxRecDepth 100000 in
set_option maxHeartbeats 4000000 in
theorem b_X3_rootRounded_147 {p : Program} {l : Launch} {e : Env} {s : State} {m : MethodId} {args : Array Value} {below : List Frame} {meth : Method} {c : Code} {D : va_G} {cA : Nat → ClassId} {A : Nat → Prop} {ad0 : Nat → Nat} {Q : UInt64 → St → Prop} {x1 : Int32} {x3 : Int32} {x4 : Int64} {σ : St} (X : Cx p rmX3_rootRounded s m args meth c cX3_rootRounded 11 RX3 D cA A) (hr : meth.sig.returnType = some .double) (h : w_X3_rootRounded_147 Q x1 x3 x4 σ) : G p l e rmX3_rootRounded s m args below meth c 11 D cA A (MQ below (va_Qd Q (EndW D cA ad0 shC) A) args s 0 0 A) 0 0 (fun ad => ad = ad0) shC σ [(1, .int x1), (3, .int x3), (4, .long x4)] 147 [] := by
  unfold w_X3_rootRounded_147 at h
  refine g_lload X 2 dX3_rootRounded_147 rfl ?_
  refine g_iload_n X 1 dX3_rootRounded_149 rfl rfl ?_
  refine g_sipush X (-1074 : Int32) dX3_rootRounded_150 (by decide) ?_
  refine g_iadd X dX3_rootRounded_153 ?_
  refine g_iconst X (0 : Int32) dX3_rootRounded_154 (by decide) ?_
  refine g_iload_n X 0 dX3_rootRounded_155 rfl rfl ?_
  refine g_iconst X (0 : Int32) dX3_rootRounded_156 (by decide) ?_
  refine g_callND X (host := "LongSums") (n := 5) [.long x4, .int (x3 + (-1074 : Int32)), .int (0 : Int32), .int x1, .int (0 : Int32)] [] dX3_rootRounded_157 (c_X4_finished l D cA shC h) (nw 490 (by decide +kernel) rfl) q491 q47 q492 ⟨by decide, by decide, by decide +kernel⟩ rfl rfl (Nat.le_of_ble_eq_true rfl) rfl rfl ⟨(Nat.le_of_ble_eq_true rfl), (Nat.le_of_ble_eq_true rfl)⟩ (Nat.le_of_ble_eq_true rfl) (Nat.le_of_ble_eq_true rfl) (fun r8 σ7 h => ?_)
  exact g_dret X hr dX3_rootRounded_160 h
def w_X3_rootRounded_126 (Q : UInt64 → St → Prop) (x1 : Int32) (x3 : Int32) (x4 : Int64) (s0 : Int32) (σ : St) : Prop := w_X4_stepsAway (fun r6 σ5 => ((r6 = 0 → (w_X3_rootRounded_147 Q x1 x3 x4 σ5)) ∧ (¬ r6 = 0 → ∀ y9 : Int64, y9 = (x4 + (1 : Int64)) → (w_X3_rootRounded_147 Q x1 x3 y9 σ5)))) x4 (0 : Int32) s0 (0 : Int32) x1 σ
set_option maxRecDepth 100000 in
set_option maxHeartbeats 4000000 in
theorem b_X3_rootRounded_126 {p : Program} {l : Launch} {e : Env} {s : State} {m : MethodId} {args : Array Value} {below : List Frame} {meth : Method} {c : Code} {D : va_G} {cA : Nat → ClassId} {A : Nat → Prop} {ad0 : Nat → Nat} {Q : UInt64 → St → Prop} {x1 : Int32} {x3 : Int32} {x4 : Int64} {s0 : Int32} {σ : St} (X : Cx p rmX3_rootRounded s m args meth c cX3_rootRounded 11 RX3 D cA A) (hr : meth.sig.returnType = some .double) (h : w_X3_rootRounded_126 Q x1 x3 x4 s0 σ) : G p l e rmX3_rootRounded s m args below meth c 11 D cA A (MQ below (va_Qd Q (EndW D cA ad0 shC) A) args s 0 0 A) 0 0 (fun ad => ad = ad0) shC σ [(1, .int x1), (3, .int x3), (4, .long x4)] 126 [.int s0] := by
  unfold w_X3_rootRounded_126 at h
  refine g_istore X [(8, .int s0), (1, .int x1), (3, .int x3), (4, .long x4)] dX3_rootRounded_126 (Nat.le_of_ble_eq_true rfl) rfl ?_
  refine g_lload X 3 dX3_rootRounded_128 rfl ?_
  refine g_iconst X (0 : Int32) dX3_rootRounded_130 (by decide) ?_
  refine g_iload X 0 dX3_rootRounded_131 rfl ?_
  refine g_iconst X (0 : Int32) dX3_rootRounded_133 (by decide) ?_
  refine g_iload_n X 1 dX3_rootRounded_134 rfl rfl ?_
  refine g_callNI X (host := "LongSums") (n := 5) [.long x4, .int (0 : Int32), .int s0, .int (0 : Int32), .int x1] [] dX3_rootRounded_135 (c_X4_stepsAway l D cA shC h) (nw 489 (by decide +kernel) rfl) q199 q47 q200 ⟨by decide, by decide, by decide +kernel⟩ rfl rfl (Nat.le_of_ble_eq_true rfl) rfl rfl ⟨(Nat.le_of_ble_eq_true rfl), (Nat.le_of_ble_eq_true rfl)⟩ (Nat.le_of_ble_eq_true rfl) (Nat.le_of_ble_eq_true rfl) (fun r6 σ5 h => ?_)
  refine g_if_eq X 147 dX3_rootRounded_138 (by decide) (fun hc => ?_) (fun hc => ?_)
  · have h := h.1 hc
    refine g_weak [1, 2, 3] rfl ?_
    exact b_X3_rootRounded_147 X hr h
  · have h := h.2 hc
    refine g_lload X 3 dX3_rootRounded_141 rfl ?_
    refine g_lconst X (1 : Int64) dX3_rootRounded_143 (by decide) ?_
    refine g_ladd X dX3_rootRounded_144 ?_
    refine g_nameJ (fun y9 ey9 => ?_)
    have h := h y9 ey9
    refine g_lstore X [(4, .long y9), (8, .int s0), (1, .int x1), (3, .int x3)] dX3_rootRounded_145 (Nat.le_of_ble_eq_true rfl) rfl ?_
    refine g_weak [2, 3, 0] rfl ?_
    exact b_X3_rootRounded_147 X hr h
def w_X3_rootRounded_121 (Q : UInt64 → St → Prop) (x1 : Int32) (x3 : Int32) (x4 : Int64) (σ : St) : Prop := (w_X3_rootRounded_126 Q x1 x3 x4 (1 : Int32) σ)
set_option maxRecDepth 100000 in
set_option maxHeartbeats 4000000 in
theorem b_X3_rootRounded_121 {p : Program} {l : Launch} {e : Env} {s : State} {m : MethodId} {args : Array Value} {below : List Frame} {meth : Method} {c : Code} {D : va_G} {cA : Nat → ClassId} {A : Nat → Prop} {ad0 : Nat → Nat} {Q : UInt64 → St → Prop} {x1 : Int32} {x3 : Int32} {x4 : Int64} {σ : St} (X : Cx p rmX3_rootRounded s m args meth c cX3_rootRounded 11 RX3 D cA A) (hr : meth.sig.returnType = some .double) (h : w_X3_rootRounded_121 Q x1 x3 x4 σ) : G p l e rmX3_rootRounded s m args below meth c 11 D cA A (MQ below (va_Qd Q (EndW D cA ad0 shC) A) args s 0 0 A) 0 0 (fun ad => ad = ad0) shC σ [(1, .int x1), (3, .int x3), (4, .long x4)] 121 [] := by
  unfold w_X3_rootRounded_121 at h
  refine g_iconst X (1 : Int32) dX3_rootRounded_121 (by decide) ?_
  refine g_goto X 126 dX3_rootRounded_122 (by decide) ?_
  exact b_X3_rootRounded_126 X hr h
def w_X3_rootRounded_27 (Q : UInt64 → St → Prop) : Nat → Int32 → Int32 → Int64 → Int64 → Int32 → St → Prop
  | 0, _, _, _, _, _, _ => False
  | n + 1, x1, x3, x4, x6, x8, σ => ((x8 < x3 → ((¬ x6 = (0 : Int64) → (w_X3_rootRounded_121 Q x1 x3 x4 σ)) ∧ (x6 = (0 : Int64) → w_X3_hasBitBelow (fun r11 σ10 => ((r11 = 0 → (w_X3_rootRounded_126 Q x1 x3 x4 (0 : Int32) σ10)) ∧ (¬ r11 = 0 → (w_X3_rootRounded_121 Q x1 x3 x4 σ10)))) ((2 : Int32) * x3) σ))) ∧ (¬ x8 < x3 → w_X3_bitAt (fun r13 σ12 => w_X3_bitAt (fun r15 σ14 => ∀ y16 : Int64, y16 = (((lshlF x6 (2 : Int32)) ||| ((r13 <<< ((1 : Int32) &&& 31)).toInt64)) ||| (r15.toInt64)) → ∀ y17 : Int64, y17 = ((lshlF x4 (2 : Int32)) ||| (1 : Int64)) → ∀ y18 : Int64, y18 = (lshlF x4 (1 : Int32)) → ((y16 < y17 → ∀ y19 : Int32, y19 = x8 + (-1 : Int32) → (w_X3_rootRounded_27 Q n x1 x3 y18 y16 y19 σ14)) ∧ (¬ y16 < y17 → ∀ y20 : Int64, y20 = (y16 - y17) → ∀ y21 : Int64, y21 = (y18 ||| (1 : Int64)) → ∀ y22 : Int32, y22 = x8 + (-1 : Int32) → (w_X3_rootRounded_27 Q n x1 x3 y21 y20 y22 σ14)))) ((2 : Int32) * x8) σ12) (((2 : Int32) * x8) + (1 : Int32)) σ))
set_option maxRecDepth 100000 in
set_option maxHeartbeats 4000000 in
theorem b_X3_rootRounded_27 {p : Program} {l : Launch} {e : Env} {s : State} {m : MethodId} {args : Array Value} {below : List Frame} {meth : Method} {c : Code} {D : va_G} {cA : Nat → ClassId} {A : Nat → Prop} {ad0 : Nat → Nat} {Q : UInt64 → St → Prop} (X : Cx p rmX3_rootRounded s m args meth c cX3_rootRounded 11 RX3 D cA A) (hr : meth.sig.returnType = some .double) : ∀ (n : Nat) (x1 : Int32) (x3 : Int32) (x4 : Int64) (x6 : Int64) (x8 : Int32) (σ : St), w_X3_rootRounded_27 Q n x1 x3 x4 x6 x8 σ → G p l e rmX3_rootRounded s m args below meth c 11 D cA A (MQ below (va_Qd Q (EndW D cA ad0 shC) A) args s 0 0 A) 0 0 (fun ad => ad = ad0) shC σ [(0, .ref 42), (1, .int x1), (3, .int x3), (4, .long x4), (6, .long x6), (8, .int x8)] 27 [] := by
  intro n
  induction n with
  | zero => intro x1 x3 x4 x6 x8 σ h; exact h.elim
  | succ n ih =>
    intro x1 x3 x4 x6 x8 σ h
    rw [w_X3_rootRounded_27] at h
    refine g_iload X 5 dX3_rootRounded_27 rfl ?_
    refine g_iload_n X 2 dX3_rootRounded_29 rfl rfl ?_
    refine g_icmp_lt X 104 dX3_rootRounded_30 (by decide) (fun hc => ?_) (fun hc => ?_)
    · have h := h.1 hc
      refine g_lload X 4 dX3_rootRounded_104 rfl ?_
      refine g_lconst X (0 : Int64) dX3_rootRounded_106 (by decide) ?_
      refine g_lcmp X dX3_rootRounded_107 ?_
      refine g_if_ne X 121 dX3_rootRounded_108 (by decide) (fun hc => ?_) (fun hc => ?_)
      · have h := h.1 (fun z => hc (lgc_eq.mpr z))
        refine g_weak [1, 2, 3] rfl ?_
        exact b_X3_rootRounded_121 X hr h
      · have h := h.2 (lgc_eq.mp hc)
        refine g_aload_n X 0 dX3_rootRounded_111 rfl rfl ?_
        refine g_iconst X (2 : Int32) dX3_rootRounded_112 (by decide) ?_
        refine g_iload_n X 2 dX3_rootRounded_113 rfl rfl ?_
        refine g_imul X dX3_rootRounded_114 ?_
        refine g_callVI X (C := RX3) (T := TX3) (N := 1) (n := 1) [.int ((2 : Int32) * x3)] [] dX3_rootRounded_115 (c_X3_hasBitBelow l D cA h) q485 q487 q14 q50 q488 (Nat.le_of_ble_eq_true rfl) rfl rfl ⟨rfl, by decide, by decide, by decide +kernel⟩ rfl rfl (Nat.le_of_ble_eq_true rfl) rfl rfl ⟨(Nat.le_of_ble_eq_true rfl), (Nat.le_of_ble_eq_true rfl)⟩ (Nat.le_of_ble_eq_true rfl) (Nat.le_of_ble_eq_true rfl) (fun r11 σ10 h => ?_)
        refine g_if_eq X 125 dX3_rootRounded_118 (by decide) (fun hc => ?_) (fun hc => ?_)
        · have h := h.1 hc
          refine g_iconst X (0 : Int32) dX3_rootRounded_125 (by decide) ?_
          refine g_weak [1, 2, 3] rfl ?_
          exact b_X3_rootRounded_126 X hr h
        · have h := h.2 hc
          refine g_weak [1, 2, 3] rfl ?_
          exact b_X3_rootRounded_121 X hr h
    · have h := h.2 hc
      refine g_lload X 4 dX3_rootRounded_33 rfl ?_
      refine g_iconst X (2 : Int32) dX3_rootRounded_35 (by decide) ?_
      refine g_lshl X dX3_rootRounded_36 ?_
      refine g_aload_n X 0 dX3_rootRounded_37 rfl rfl ?_
      refine g_iconst X (2 : Int32) dX3_rootRounded_38 (by decide) ?_
      refine g_iload X 5 dX3_rootRounded_39 rfl ?_
      refine g_imul X dX3_rootRounded_41 ?_
      refine g_iconst X (1 : Int32) dX3_rootRounded_42 (by decide) ?_
      refine g_iadd X dX3_rootRounded_43 ?_
      refine g_callVI X (C := RX3) (T := TX3) (N := 1) (n := 1) [.int (((2 : Int32) * x8) + (1 : Int32))] [.long (lshlF x6 (2 : Int32))] dX3_rootRounded_44 (c_X3_bitAt l D cA h) q481 q482 q483 q50 q484 (Nat.le_of_ble_eq_true rfl) rfl rfl ⟨rfl, by decide, by decide, by decide +kernel⟩ rfl rfl (Nat.le_of_ble_eq_true rfl) rfl rfl ⟨(Nat.le_of_ble_eq_true rfl), (Nat.le_of_ble_eq_true rfl)⟩ (Nat.le_of_ble_eq_true rfl) (Nat.le_of_ble_eq_true rfl) (fun r13 σ12 h => ?_)
      refine g_iconst X (1 : Int32) dX3_rootRounded_47 (by decide) ?_
      refine g_ishl X dX3_rootRounded_48 ?_
      refine g_i2l X dX3_rootRounded_49 ?_
      refine g_lor X dX3_rootRounded_50 ?_
      refine g_aload_n X 0 dX3_rootRounded_51 rfl rfl ?_
      refine g_iconst X (2 : Int32) dX3_rootRounded_52 (by decide) ?_
      refine g_iload X 5 dX3_rootRounded_53 rfl ?_
      refine g_imul X dX3_rootRounded_55 ?_
      refine g_callVI X (C := RX3) (T := TX3) (N := 1) (n := 1) [.int ((2 : Int32) * x8)] [.long ((lshlF x6 (2 : Int32)) ||| ((r13 <<< ((1 : Int32) &&& 31)).toInt64))] dX3_rootRounded_56 (c_X3_bitAt l D cA h) q481 q482 q483 q50 q484 (Nat.le_of_ble_eq_true rfl) rfl rfl ⟨rfl, by decide, by decide, by decide +kernel⟩ rfl rfl (Nat.le_of_ble_eq_true rfl) rfl rfl ⟨(Nat.le_of_ble_eq_true rfl), (Nat.le_of_ble_eq_true rfl)⟩ (Nat.le_of_ble_eq_true rfl) (Nat.le_of_ble_eq_true rfl) (fun r15 σ14 h => ?_)
      refine g_i2l X dX3_rootRounded_59 ?_
      refine g_lor X dX3_rootRounded_60 ?_
      refine g_nameJ (fun y16 ey16 => ?_)
      have h := h y16 ey16
      refine g_lstore X [(6, .long y16), (0, .ref 42), (1, .int x1), (3, .int x3), (4, .long x4), (8, .int x8)] dX3_rootRounded_61 (Nat.le_of_ble_eq_true rfl) rfl ?_
      refine g_lload X 4 dX3_rootRounded_63 rfl ?_
      refine g_iconst X (2 : Int32) dX3_rootRounded_65 (by decide) ?_
      refine g_lshl X dX3_rootRounded_66 ?_
      refine g_lconst X (1 : Int64) dX3_rootRounded_67 (by decide) ?_
      refine g_lor X dX3_rootRounded_68 ?_
      refine g_nameJ (fun y17 ey17 => ?_)
      have h := h y17 ey17
      refine g_lstore X [(9, .long y17), (6, .long y16), (0, .ref 42), (1, .int x1), (3, .int x3), (4, .long x4), (8, .int x8)] dX3_rootRounded_69 (Nat.le_of_ble_eq_true rfl) rfl ?_
      refine g_lload X 5 dX3_rootRounded_71 rfl ?_
      refine g_iconst X (1 : Int32) dX3_rootRounded_73 (by decide) ?_
      refine g_lshl X dX3_rootRounded_74 ?_
      refine g_nameJ (fun y18 ey18 => ?_)
      have h := h y18 ey18
      refine g_lstore X [(4, .long y18), (9, .long y17), (6, .long y16), (0, .ref 42), (1, .int x1), (3, .int x3), (8, .int x8)] dX3_rootRounded_75 (Nat.le_of_ble_eq_true rfl) rfl ?_
      refine g_lload X 2 dX3_rootRounded_77 rfl ?_
      refine g_lload X 1 dX3_rootRounded_79 rfl ?_
      refine g_lcmp X dX3_rootRounded_81 ?_
      refine g_if_lt X 98 dX3_rootRounded_82 (by decide) (fun hc => ?_) (fun hc => ?_)
      · have h := h.1 (lgc_lt.mp hc)
        obtain ⟨y19, ey19⟩ : ∃ y : Int32, y = x8 + (-1 : Int32) := ⟨_, rfl⟩
        have h := h y19 ey19
        refine g_iinc X 6 (-1 : Int32) [(8, .int y19), (4, .long y18), (9, .long y17), (6, .long y16), (0, .ref 42), (1, .int x1), (3, .int x3)] dX3_rootRounded_98 rfl (by decide) (Nat.le_of_ble_eq_true rfl) (by rw [ey19]; rfl) ?_
        refine g_goto X 27 dX3_rootRounded_101 (by decide) ?_
        refine g_weak [4, 5, 6, 1, 3, 0] rfl ?_
        exact ih _ _ _ _ _ _ h
      · have h := h.2 (fun z => hc (lgc_lt.mpr z))
        refine g_lload X 2 dX3_rootRounded_85 rfl ?_
        refine g_lload X 1 dX3_rootRounded_87 rfl ?_
        refine g_lsub X dX3_rootRounded_89 ?_
        refine g_nameJ (fun y20 ey20 => ?_)
        have h := h y20 ey20
        refine g_lstore X [(6, .long y20), (4, .long y18), (9, .long y17), (0, .ref 42), (1, .int x1), (3, .int x3), (8, .int x8)] dX3_rootRounded_90 (Nat.le_of_ble_eq_true rfl) rfl ?_
        refine g_lload X 1 dX3_rootRounded_92 rfl ?_
        refine g_lconst X (1 : Int64) dX3_rootRounded_94 (by decide) ?_
        refine g_lor X dX3_rootRounded_95 ?_
        refine g_nameJ (fun y21 ey21 => ?_)
        have h := h y21 ey21
        refine g_lstore X [(4, .long y21), (6, .long y20), (9, .long y17), (0, .ref 42), (1, .int x1), (3, .int x3), (8, .int x8)] dX3_rootRounded_96 (Nat.le_of_ble_eq_true rfl) rfl ?_
        obtain ⟨y22, ey22⟩ : ∃ y : Int32, y = x8 + (-1 : Int32) := ⟨_, rfl⟩
        have h := h y22 ey22
        refine g_iinc X 6 (-1 : Int32) [(8, .int y22), (4, .long y21), (6, .long y20), (9, .long y17), (0, .ref 42), (1, .int x1), (3, .int x3)] dX3_rootRounded_98 rfl (by decide) (Nat.le_of_ble_eq_true rfl) (by rw [ey22]; rfl) ?_
        refine g_goto X 27 dX3_rootRounded_101 (by decide) ?_
        refine g_weak [4, 5, 6, 1, 2, 0] rfl ?_
        exact ih _ _ _ _ _ _ h
def w_X3_rootRounded (Q : UInt64 → St → Prop) (x1 : Int32) (σ : St) : Prop := w_X3_topBit (fun r2 σ1 => ∀ y3 : Int32, y3 = (r2 / (2 : Int32)) → ∀ y4 : Int32, y4 = (if ((y3 - (53 : Int32)) + (1 : Int32)) < (0 : Int32) then (0 : Int32) else ((y3 - (53 : Int32)) + (1 : Int32))) → (∃ fu23 : Nat, w_X3_rootRounded_27 Q fu23 x1 y4 (0 : Int64) (0 : Int64) y3 σ1)) σ
set_option maxRecDepth 100000 in
set_option maxHeartbeats 4000000 in
theorem b_X3_rootRounded_0 {p : Program} {l : Launch} {e : Env} {s : State} {m : MethodId} {args : Array Value} {below : List Frame} {meth : Method} {c : Code} {D : va_G} {cA : Nat → ClassId} {A : Nat → Prop} {ad0 : Nat → Nat} {Q : UInt64 → St → Prop} {x1 : Int32} {σ : St} (X : Cx p rmX3_rootRounded s m args meth c cX3_rootRounded 11 RX3 D cA A) (hr : meth.sig.returnType = some .double) (h : w_X3_rootRounded Q x1 σ) : G p l e rmX3_rootRounded s m args below meth c 11 D cA A (MQ below (va_Qd Q (EndW D cA ad0 shC) A) args s 0 0 A) 0 0 (fun ad => ad = ad0) shC σ [(0, .ref 42), (1, .int x1)] 0 [] := by
  unfold w_X3_rootRounded at h
  refine g_aload_n X 0 dX3_rootRounded_0 rfl rfl ?_
  refine g_callVI X (C := RX3) (T := TX3) (N := 1) (n := 0) [] [] dX3_rootRounded_1 (c_X3_topBit l D cA h) q467 q468 q469 q50 q470 (Nat.le_of_ble_eq_true rfl) rfl rfl ⟨rfl, by decide, by decide, by decide +kernel⟩ rfl rfl (Nat.le_of_ble_eq_true rfl) rfl rfl ⟨(Nat.le_of_ble_eq_true rfl), (Nat.le_of_ble_eq_true rfl)⟩ (Nat.le_of_ble_eq_true rfl) (Nat.le_of_ble_eq_true rfl) (fun r2 σ1 h => ?_)
  refine g_iconst X (2 : Int32) dX3_rootRounded_4 (by decide) ?_
  refine g_idiv X dX3_rootRounded_5 (by decide) ?_
  refine g_nameI (fun y3 ey3 => ?_)
  have h := h y3 ey3
  refine g_istore_n X [(2, .int y3), (0, .ref 42), (1, .int x1)] dX3_rootRounded_6 rfl (Nat.le_of_ble_eq_true rfl) rfl ?_
  refine g_iload_n X 0 dX3_rootRounded_7 rfl rfl ?_
  refine g_bipush X (53 : Int32) dX3_rootRounded_8 (by decide) ?_
  refine g_isub X dX3_rootRounded_10 ?_
  refine g_iconst X (1 : Int32) dX3_rootRounded_11 (by decide) ?_
  refine g_iadd X dX3_rootRounded_12 ?_
  refine g_iconst X (0 : Int32) dX3_rootRounded_13 (by decide) ?_
  refine g_mmax X dX3_rootRounded_14 q472 q193 q53 q194 (Nat.le_of_ble_eq_true rfl) (Nat.le_of_ble_eq_true rfl) (Nat.le_of_ble_eq_true rfl) (Nat.le_of_ble_eq_true rfl) ?_
  refine g_nameI (fun y4 ey4 => ?_)
  have h := h y4 ey4
  refine g_istore_n X [(3, .int y4), (2, .int y3), (0, .ref 42), (1, .int x1)] dX3_rootRounded_17 rfl (Nat.le_of_ble_eq_true rfl) rfl ?_
  refine g_lconst X (0 : Int64) dX3_rootRounded_18 (by decide) ?_
  refine g_lstore X [(4, .long (0 : Int64)), (3, .int y4), (2, .int y3), (0, .ref 42), (1, .int x1)] dX3_rootRounded_19 (Nat.le_of_ble_eq_true rfl) rfl ?_
  refine g_lconst X (0 : Int64) dX3_rootRounded_21 (by decide) ?_
  refine g_lstore X [(6, .long (0 : Int64)), (4, .long (0 : Int64)), (3, .int y4), (2, .int y3), (0, .ref 42), (1, .int x1)] dX3_rootRounded_22 (Nat.le_of_ble_eq_true rfl) rfl ?_
  refine g_iload_n X 3 dX3_rootRounded_24 rfl rfl ?_
  refine g_istore X [(8, .int y3), (6, .long (0 : Int64)), (4, .long (0 : Int64)), (3, .int y4), (2, .int y3), (0, .ref 42), (1, .int x1)] dX3_rootRounded_25 (Nat.le_of_ble_eq_true rfl) rfl ?_
  refine g_weak [5, 6, 3, 2, 1, 0] rfl ?_
  obtain ⟨fu23, h⟩ := h
  exact b_X3_rootRounded_27 X hr fu23 _ _ _ _ _ _ h
theorem c_X3_rootRounded (l : Launch) (D : va_G) (cA : Nat → ClassId) {x1 : Int32} {σ : St} {Q : UInt64 → St → Prop} (h : w_X3_rootRounded Q x1 σ) : CtD l yX3_rootRounded cX3_rootRounded 11 (some .double) rmX3_rootRounded D cA shC [.ref 42, .int x1] σ Q := by
  refine CtD.of (own := RX3) rfl (by decide +kernel) [(0, .ref 42), (1, .int x1)] rfl (Nat.le_of_ble_eq_true rfl) ?_
  intro p e s m args below meth c ad0 A X hr
  exact b_X3_rootRounded_0 X hr  h
