/-! the law's loop and its start -/
theorem q59 : (Jvm.Cond.classLink "LongSumsLaw" (7 : Nat) "LongSums") ∈ GW := gw 59 (by decide +kernel) rfl
theorem q60 : (Jvm.Cond.instantiable "LongSums" (7 : Nat)) ∈ GW := gw 60 (by decide +kernel) rfl
theorem q61 : (Jvm.Cond.methodLink "LongSumsLaw" (9 : Nat) ({ cls := "LongSums", name := "<init>", desc := "()V" } : Jvm.MethodName)) ∈ GW := gw 61 (by decide +kernel) rfl
theorem q62 : (Jvm.Cond.instanceMethod ({ cls := "LongSums", name := "<init>", desc := "()V" } : Jvm.MethodName)) ∈ GW := gw 62 (by decide +kernel) rfl
theorem q63 : (Jvm.Cond.code ({ cls := "LongSums", name := "<init>", desc := "()V" } : Jvm.MethodName) prog_1_method_1_code (2 : Nat) (Option.none : Option Jvm.ClassFile.FieldType)) ∈ GW := gw 63 (by decide +kernel) rfl
theorem q563 : (Jvm.Cond.classLink "LongSumsLaw" (10 : Nat) "LongSumsModel") ∈ GW := gw 563 (by decide +kernel) rfl
theorem q564 : (Jvm.Cond.instantiable "LongSumsModel" (23 : Nat)) ∈ GW := gw 564 (by decide +kernel) rfl
theorem q565 : (Jvm.Cond.methodLink "LongSumsLaw" (12 : Nat) ({ cls := "LongSumsModel", name := "<init>", desc := "()V" } : Jvm.MethodName)) ∈ GW := gw 565 (by decide +kernel) rfl
theorem q566 : (Jvm.Cond.instanceMethod ({ cls := "LongSumsModel", name := "<init>", desc := "()V" } : Jvm.MethodName)) ∈ GW := gw 566 (by decide +kernel) rfl
theorem q567 : (Jvm.Cond.code ({ cls := "LongSumsModel", name := "<init>", desc := "()V" } : Jvm.MethodName) prog_7_method_1_code (2 : Nat) (Option.none : Option Jvm.ClassFile.FieldType)) ∈ GW := gw 567 (by decide +kernel) rfl
section LAWEND
variable {p : Program} {e : Env} {s : State} {m : MethodId} {below : List Frame} {meth : Method} {c : Code} {l : Launch} {D : va_G} {cA : Nat → ClassId} {b L : Nat} {xs : Nat → Int32}
theorem l_end (X : Cx p room_1 s m #[Value.ref b] meth c cL_law 8 RL D cA (fun q => s.heap.size ≤ q)) (hr : meth.sig.returnType = ret) {σ : St} {loc : List (Nat × Value)} : G p l e room_1 s m #[Value.ref b] below meth c 8 D cA (fun q => s.heap.size ≤ q) (lw_Z below #[Value.ref b] s) 133 9561 (fun ad => ad 1000 = b) shB σ loc 1340 [.int 1] := by
  intro ad H locs ls hAD hP hD hS hl
  refine W.widen (k := 600000) (n := 7302250) (Nat.le_of_ble_eq_true rfl) (Nat.le_of_ble_eq_true rfl) ?_
  refine va_forget hS.2.2 ?_
  exact lw_ret (l := l) (e := e) (below := below) (s := s) (d0 := s.drawn) (Drawn.sameBut.refl s.drawn lw_cs) X.1 X.2.1 hr X.2.2.2.2.2.1 (pc := 1340) (H := H) (ls := ls) dL_law_1340
theorem l_loop (X : Cx p room_1 s m #[Value.ref b] meth c cL_law 8 RL D cA (fun q => s.heap.size ≤ q)) (hr : meth.sig.returnType = ret) (hX : va_X b L xs s s.heap) (hbl : b < s.heap.size) (hL : L ≤ 3072) : ∀ (d n : Nat) (A : AS) (σ τ : St), n + d = 513 → OK n A → RC A σ → RR A τ → G p l e room_1 s m #[Value.ref b] below meth c 8 D cA (fun q => s.heap.size ≤ q) (lw_Z below #[Value.ref b] s) 133 9561 (fun ad => ad 1000 = b) shB (cat σ τ) [(3, .int (nI (6 * n))), (2, .ref 118), (1, .ref 0), (0, .ref 1000)] 18 [] := by
  have hbA : ¬ s.heap.size ≤ b := by omega
  have k6 : (6 : Int32).toInt = 6 := by decide
  intro d
  induction d with
  | zero =>
    intro n A σ τ hn ho hC hR
    have kL : (nI L).toInt = (L : Int) := nI_toInt (by omega)
    have kn : (nI (6 * n)).toInt = ((6 * n : Nat) : Int) := nI_toInt (by omega)
    have ks : (nI L - (6 : Int32)).toInt = (L : Int) - 6 := by rw [i_sub (by omega) (by omega), kL, k6]
    refine g_iload_n X 0 dL_law_18 rfl rfl ?_
    refine g_aload_n X 3 dL_law_19 rfl rfl ?_
    refine l_slen X hX hbl hbA dL_law_20 ?_
    refine g_bipush X (6 : Int32) dL_law_21 (by decide) ?_
    refine g_isub X dL_law_23 ?_
    refine g_icmp_gt X 1339 dL_law_24 (by decide) (fun _ => ?_) (fun z => absurd (i_lt.mpr (by rw [ks, kn]; omega)) z)
    refine g_iconst X (1 : Int32) dL_law_1339 (by decide) ?_
    exact l_end X hr
  | succ d ih =>
    intro n A σ τ hn ho hC hR
    have kL : (nI L).toInt = (L : Int) := nI_toInt (by omega)
    have kn : (nI (6 * n)).toInt = ((6 * n : Nat) : Int) := nI_toInt (by omega)
    have ks : (nI L - (6 : Int32)).toInt = (L : Int) - 6 := by rw [i_sub (by omega) (by omega), kL, k6]
    refine g_iload_n X 0 dL_law_18 rfl rfl ?_
    refine g_aload_n X 3 dL_law_19 rfl rfl ?_
    refine l_slen X hX hbl hbA dL_law_20 ?_
    refine g_bipush X (6 : Int32) dL_law_21 (by decide) ?_
    refine g_isub X dL_law_23 ?_
    refine g_icmp_gt X 1339 dL_law_24 (by decide) (fun _ => ?_) (fun z => ?_)
    · refine g_iconst X (1 : Int32) dL_law_1339 (by decide) ?_
      exact l_end X hr
    have hi : 6 * n + 6 ≤ L := by
      rw [i_lt, ks, kn] at z
      omega
    have hN : n ≤ 512 := by omega
    have IH : ∀ (A' : AS) (σ' τ' : St), OK (n + 1) A' → RC A' σ' → RR A' τ' → G p l e room_1 s m #[Value.ref b] below meth c 8 D cA (fun q => s.heap.size ≤ q) (lw_Z below #[Value.ref b] s) 133 9561 (fun ad => ad 1000 = b) shB (cat σ' τ') [(3, .int (nI (6 * n))), (2, .ref 118), (1, .ref 0), (0, .ref 1000)] 1333 [] := by
      intro A' σ' τ' ho' hC' hR'
      refine g_iinc X 0 (6 : Int32) [(3, .int (nI (6 * (n + 1)))), (2, .ref 118), (1, .ref 0), (0, .ref 1000)] dL_law_1333 rfl (by decide) (Nat.le_of_ble_eq_true rfl) (by rw [show nI (6 * n) + (6 : Int32) = nI (6 * (n + 1)) from nI_add (6 * n) 6]; rfl) ?_
      refine g_goto X 18 dL_law_1336 (by decide) ?_
      exact ih (n + 1) A' σ' τ' (by omega) ho' hC' hR'
    refine g_aload_n X 3 dL_law_27 rfl rfl ?_
    refine g_iload_n X 0 dL_law_28 rfl rfl ?_
    refine l_sld X hX hbl hbA dL_law_29 rfl (by omega) (by omega) ?_
    refine g_bipush X (31 : Int32) dL_law_30 (by decide) ?_
    refine g_iand X dL_law_32 ?_
    generalize xs (6 * n) &&& 31 = v
    by_cases hv : v.toInt < 0 ∨ 25 < v.toInt
    · exact g_tabOut X 1333 dL_law_33 hv (by decide) (IH A σ τ ho.up hC hR)
    obtain ⟨k, hk, e0⟩ : ∃ k : Nat, k ≤ 25 ∧ v = nI k := ⟨v.toInt.toNat, by omega, i_of (by omega) (by omega)⟩
    subst e0
    rcases (show k = 0 ∨ k = 1 ∨ k = 2 ∨ k = 3 ∨ k = 4 ∨ k = 5 ∨ k = 6 ∨ k = 7 ∨ k = 8 ∨ k = 9 ∨ k = 10 ∨ k = 11 ∨ k = 12 ∨ k = 13 ∨ k = 14 ∨ k = 15 ∨ k = 16 ∨ k = 17 ∨ k = 18 ∨ k = 19 ∨ k = 20 ∨ k = 21 ∨ k = 22 ∨ k = 23 ∨ k = 24 ∨ k = 25 by omega) with rfl | rfl | rfl | rfl | rfl | rfl | rfl | rfl | rfl | rfl | rfl | rfl | rfl | rfl | rfl | rfl | rfl | rfl | rfl | rfl | rfl | rfl | rfl | rfl | rfl | rfl
    · exact g_tabIn X 152 119 dL_law_33 (by decide) (by decide) (by decide) (by decide) (w_case0 X hX hbl hL hi hN ho hC hR IH)
    · exact g_tabIn X 195 162 dL_law_33 (by decide) (by decide) (by decide) (by decide) (w_case1 X hX hbl hL hi hN ho hC hR IH)
    · exact g_tabIn X 218 185 dL_law_33 (by decide) (by decide) (by decide) (by decide) (w_case2 X hX hbl hL hi hN ho hC hR IH)
    · exact g_tabIn X 301 268 dL_law_33 (by decide) (by decide) (by decide) (by decide) (w_case3 X hX hbl hL hi hN ho hC hR IH)
    · exact g_tabIn X 344 311 dL_law_33 (by decide) (by decide) (by decide) (by decide) (w_case4 X hX hbl hL hi hN ho hC hR IH)
    · exact g_tabIn X 407 374 dL_law_33 (by decide) (by decide) (by decide) (by decide) (w_case5 X hX hbl hL hi hN ho hC hR IH)
    · exact g_tabIn X 451 418 dL_law_33 (by decide) (by decide) (by decide) (by decide) (w_case6 X hX hbl hL hi hN ho hC hR IH)
    · exact g_tabIn X 512 479 dL_law_33 (by decide) (by decide) (by decide) (by decide) (w_case7 X hX hbl hL hi hN ho hC hR IH)
    · exact g_tabIn X 565 532 dL_law_33 (by decide) (by decide) (by decide) (by decide) (w_case8 X hX hbl hL hi hN ho hC hR IH)
    · exact g_tabIn X 598 565 dL_law_33 (by decide) (by decide) (by decide) (by decide) (w_case9 X hX hbl hL hi hN ho hC hR IH)
    · exact g_tabIn X 651 618 dL_law_33 (by decide) (by decide) (by decide) (by decide) (w_case10 X hX hbl hL hi hN ho hC hR IH)
    · exact g_tabIn X 714 681 dL_law_33 (by decide) (by decide) (by decide) (by decide) (w_case11 X hX hbl hL hi hN ho hC hR IH)
    · exact g_tabIn X 747 714 dL_law_33 (by decide) (by decide) (by decide) (by decide) (w_case12 X hX hbl hL hi hN ho hC hR IH)
    · exact g_tabIn X 770 737 dL_law_33 (by decide) (by decide) (by decide) (by decide) (w_case13 X hX hbl hL hi hN ho hC hR IH)
    · exact g_tabIn X 823 790 dL_law_33 (by decide) (by decide) (by decide) (by decide) (w_case14 X hX hbl hL hi hN ho hC hR IH)
    · exact g_tabIn X 894 861 dL_law_33 (by decide) (by decide) (by decide) (by decide) (w_case15 X hX hbl hL hi hN ho hC hR IH)
    · exact g_tabIn X 917 884 dL_law_33 (by decide) (by decide) (by decide) (by decide) (w_case16 X hX hbl hL hi hN ho hC hR IH)
    · exact g_tabIn X 950 917 dL_law_33 (by decide) (by decide) (by decide) (by decide) (w_case17 X hX hbl hL hi hN ho hC hR IH)
    · exact g_tabIn X 1037 1004 dL_law_33 (by decide) (by decide) (by decide) (by decide) (w_case18 X hX hbl hL hi hN ho hC hR IH)
    · exact g_tabIn X 1108 1075 dL_law_33 (by decide) (by decide) (by decide) (by decide) (w_case19 X hX hbl hL hi hN ho hC hR IH)
    · exact g_tabIn X 1185 1152 dL_law_33 (by decide) (by decide) (by decide) (by decide) (w_case20 X hX hbl hL hi hN ho hC hR IH)
    · exact g_tabIn X 1208 1175 dL_law_33 (by decide) (by decide) (by decide) (by decide) (w_case21 X hX hbl hL hi hN ho hC hR IH)
    · exact g_tabIn X 1231 1198 dL_law_33 (by decide) (by decide) (by decide) (by decide) (w_case22 X hX hbl hL hi hN ho hC hR IH)
    · exact g_tabIn X 1264 1231 dL_law_33 (by decide) (by decide) (by decide) (by decide) (w_case23 X hX hbl hL hi hN ho hC hR IH)
    · exact g_tabIn X 1297 1264 dL_law_33 (by decide) (by decide) (by decide) (by decide) (w_case24 X hX hbl hL hi hN ho hC hR IH)
    · exact g_tabIn X 1310 1277 dL_law_33 (by decide) (by decide) (by decide) (by decide) (w_case25 X hX hbl hL hi hN ho hC hR IH)
end LAWEND
theorem wd_add2 {cA : Nat → ClassId} {ad : Nat → Nat} {sh : SH} {σ : St} {n q : Nat} {kd : Nat ⊕ (Nat × Nat)} (hn : sh.1 = n) (hc : ∀ c, c < n → ∀ j r, sh.2.2 c j = some r → r < n) :
    wd cA (adu ad n q) (addC sh n kd) (zC σ n) = wd cA ad sh σ ++ [(q, ce cA (adu ad n q) (addC sh n kd) (zC σ n) n)] := by
  unfold wd
  rw [show (addC sh n kd).1 = n + 1 from rfl, List.range_succ, List.map_append, hn]
  congr 1
  · refine List.map_congr_left fun c h => ?_
    have h : c < n := List.mem_range.mp h
    rw [adu_agr ad n q c h]
    refine congrArg (Prod.mk (ad c)) (ce_gen ?_ ?_ ?_ ?_ ?_)
    · show (if c = n then kd else sh.2.1 c) = _
      rw [if_neg (by omega)]
    · funext j; show (if c = n then (0 : Int32) else σ.1 c j) = _; rw [if_neg (by omega)]; rfl
    · funext j; show (if c = n then (0 : Int64) else σ.2.1 c j) = _; rw [if_neg (by omega)]; rfl
    · funext j; show (if c = n then (0 : UInt64) else σ.2.2 c j) = _; rw [if_neg (by omega)]; rfl
    · intro j
      show ((if c = n then none else sh.2.2 c j).map (adu ad n q)) = _
      rw [if_neg (by omega)]
      cases e : sh.2.2 c j with
      | none => rfl
      | some r => exact congrArg some (adu_agr ad n q r (hc c h j r e))
  · rw [List.map_cons, List.map_nil, adu_at]
theorem defX4 : ∀ j, j < 7 → defaultValue (tyX4 j) = defv (ft 4 j) := fun j hj => by rcases (show j = 0 ∨ j = 1 ∨ j = 2 ∨ j = 3 ∨ j = 4 ∨ j = 5 ∨ j = 6 by omega) with rfl | rfl | rfl | rfl | rfl | rfl | rfl <;> rfl
theorem defX5 : ∀ j, j < 23 → defaultValue (tyX5 j) = defv (ft 5 j) := fun j hj => by rcases (show j = 0 ∨ j = 1 ∨ j = 2 ∨ j = 3 ∨ j = 4 ∨ j = 5 ∨ j = 6 ∨ j = 7 ∨ j = 8 ∨ j = 9 ∨ j = 10 ∨ j = 11 ∨ j = 12 ∨ j = 13 ∨ j = 14 ∨ j = 15 ∨ j = 16 ∨ j = 17 ∨ j = 18 ∨ j = 19 ∨ j = 20 ∨ j = 21 ∨ j = 22 by omega) with rfl | rfl | rfl | rfl | rfl | rfl | rfl | rfl | rfl | rfl | rfl | rfl | rfl | rfl | rfl | rfl | rfl | rfl | rfl | rfl | rfl | rfl | rfl <;> rfl
theorem z0_zr : Zr z0 0 := fun c h => absurd h (by omega)
theorem z0_zr1 : Zr z0 1 := fun c _ j => ⟨rfl, rfl⟩
theorem whole_start {p : Program} {e : Env} {s : State} {m : MethodId} {below : List Frame} {meth : Method} {c : Code} (l : Launch) (hflags : l.flags = flags0) {b L : Nat} {xs : Nat → Int32} (hL : L ≤ 3072) (C0 : lw_At p s m meth c b L xs) : W p l e room_1 s m #[Value.ref b] below meth c s.heap [] 0 0 (lw_Z below #[Value.ref b] s) (entryFrame m ([Value.ref b] : List Value).toArray 8) := by
  obtain ⟨hx, hb, hr, hml, hown, hts, hX, hbl, hlocks, -⟩ := C0
  have htG : ∀ w ∈ GW, w.before #[Value.ref b] s = true := fun w hw => hts w (List.mem_filter.mp hw).1
  have hNw : ∀ w ∈ NW, va_Nw w s := fun w hw => va_Nw.of (nw_tabs w hw) (hts w (List.mem_filter.mp hw).1)
  have hoR : (Cond.arrayOver (.object RX2)).before #[Value.ref b] s = true := hts _ (List.mem_of_getElem? (i := 68) (by decide +kernel))
  have hoK : (Cond.arrayOver (.object RX1)).before #[Value.ref b] s = true := hts _ (List.mem_of_getElem? (i := 70) (by decide +kernel))
  have hAO : AO2 s := ⟨va_AO.of hoK, va_AO.of hoR⟩
  obtain ⟨c0, i0, n0⟩ := u_known (ws := GW) htG inG0 (htG _ q72)
  obtain ⟨c1, i1, n1⟩ := u_known (ws := GW) htG inG1 (htG _ q78)
  obtain ⟨c2, i2, n2⟩ := u_known (ws := GW) htG inG2 (htG _ q126)
  obtain ⟨c3, i3, n3⟩ := u_known (ws := GW) htG inG3 (htG _ q117)
  obtain ⟨c4, i4, n4⟩ := u_known (ws := GW) htG inG4 (htG _ q60)
  obtain ⟨c5, i5, n5⟩ := u_known (ws := GW) htG inG5 (htG _ q564)
  obtain ⟨a0, k0, b0, f0, g0, h0⟩ := Cond.arrayClass_spec (htG _ q100)
  obtain ⟨a1, k1, b1, f1, g1, h1⟩ := Cond.arrayClass_spec (htG _ q101)
  obtain ⟨a2, k2, b2, f2, g2, h2⟩ := Cond.arrayClass_spec (htG _ q639)
  obtain ⟨b3, a3, k3, e3, -, g3, h3, f3⟩ := Cond.arrayOver_spec hoR
  obtain ⟨b4, a4, k4, e4, -, g4, h4, f4⟩ := Cond.arrayOver_spec hoK
  generalize hcA : (fun t : Nat => match t with | 0 => a0 | 1 => a1 | 2 => a2 | 3 => a3 | _ => a4) = cA
  generalize hD : (((fun t : Nat => match t with | 0 => c0 | 1 => c1 | 2 => c2 | 3 => c3 | 4 => c4 | _ => c5), (fun t : Nat => match t with | 0 => i0 | 1 => i1 | 2 => i2 | 3 => i3 | 4 => i4 | _ => i5)) : va_G) = D
  have hK : va_K D cls (tysA cA) s := by
    subst hcA; subst hD
    refine ⟨fun t q hq => ?_, fun t q hq => ?_⟩
    · have ht : t < 6 := (List.getElem?_eq_some_iff.mp hq).1
      rcases (show t = 0 ∨ t = 1 ∨ t = 2 ∨ t = 3 ∨ t = 4 ∨ t = 5 by omega) with rfl | rfl | rfl | rfl | rfl | rfl <;> cases hq
      · exact n0
      · exact n1
      · exact n2
      · exact n3
      · exact n4
      · exact n5
    · have ht : t < 5 := (List.getElem?_eq_some_iff.mp hq).1
      rcases (show t = 0 ∨ t = 1 ∨ t = 2 ∨ t = 3 ∨ t = 4 by omega) with rfl | rfl | rfl | rfl | rfl <;> cases hq
      · exact ⟨fun n z => ⟨fun k h => (by cases h), k0, g0, b0, h0⟩, f0⟩
      · exact ⟨fun n z => ⟨fun k h => (by cases h), k1, g1, b1, h1⟩, f1⟩
      · exact ⟨fun n z => ⟨fun k h => (by cases h), k2, g2, b2, h2⟩, f2⟩
      · exact ⟨fun n z => ⟨fun k h => (by cases h), k3, g3, b3, h3⟩, k3, b3, g3, h3, e3, f3⟩
      · exact ⟨fun n z => ⟨fun k h => (by cases h), k4, g4, b4, h4⟩, k4, b4, g4, h4, e4, f4⟩
  have X : Cx p room_1 s m #[Value.ref b] meth c cL_law 8 RL D cA (fun q => s.heap.size ≤ q) := ⟨hx, hb, hml, hown, htG, hlocks, hK, hNw, fun q h => h, by decide⟩
  have start : G p l e room_1 s m #[Value.ref b] below meth c 8 D cA (fun q => s.heap.size ≤ q) (lw_Z below #[Value.ref b] s) 0 0 (fun ad => ad 1000 = b) e0 z0 [(0, .ref 1000)] 0 [] := by
    refine l_new X (C := RX4) (T := TX4) (N := 7) (ci := 4) (n := 0) tyX4 dL_law_0 rfl (fun ad q => wd_add rfl e0_cl) (by decide) rfl rfl inG4 tyX4_ok q59 q60 q47 defX4 (fun ad q => by
      show [(0, Value.ref (adu ad 0 q 1000))] = [(0, Value.ref (ad 1000))]
      unfold adu; rw [if_neg (by decide)]) (Nat.le_of_ble_eq_true rfl) (Nat.le_of_ble_eq_true rfl) ?_
    refine g_dup X dL_law_3 rfl ?_
    refine l_call1 X hAO dL_law_4 (c_X4_init l D cA z0_zr.add) q61 q62 q47 q63 ⟨by decide, by decide, by decide +kernel⟩ rfl rfl rfl ⟨(Nat.le_of_ble_eq_true rfl), (Nat.le_of_ble_eq_true rfl)⟩ (Nat.le_of_ble_eq_true rfl) (Nat.le_of_ble_eq_true rfl) (fun σ hC => ?_)
    refine g_astore_n X [(1, .ref 0), (0, .ref 1000)] dL_law_7 rfl (Nat.le_of_ble_eq_true rfl) rfl ?_
    refine l_new X (C := RX5) (T := TX5) (N := 23) (ci := 5) (n := 118) tyX5 dL_law_8 rfl (fun ad q => wd_add2 rfl clC) (by decide) rfl rfl inG5 tyX5_ok q563 q564 q57 defX5 (fun ad q => by
      show [(1, Value.ref (adu ad 118 q 0)), (0, Value.ref (adu ad 118 q 1000))] = [(1, Value.ref (ad 0)), (0, Value.ref (ad 1000))]
      unfold adu; rw [if_neg (by decide), if_neg (by decide)]) (Nat.le_of_ble_eq_true rfl) (Nat.le_of_ble_eq_true rfl) ?_
    refine g_dup X dL_law_11 rfl ?_
    refine l_call2 X hAO dL_law_12 (c_X5_init l D cA z0_zr1) q565 q566 q57 q567 ⟨by decide, by decide, by decide +kernel⟩ rfl rfl rfl ⟨(Nat.le_of_ble_eq_true rfl), (Nat.le_of_ble_eq_true rfl)⟩ (Nat.le_of_ble_eq_true rfl) (Nat.le_of_ble_eq_true rfl) (fun τ hR => ?_)
    refine g_astore_n X [(2, .ref 118), (1, .ref 0), (0, .ref 1000)] dL_law_15 rfl (Nat.le_of_ble_eq_true rfl) rfl ?_
    refine g_iconst X (0 : Int32) dL_law_16 (by decide) ?_
    refine g_istore_n X [(3, .int (nI 0)), (2, .ref 118), (1, .ref 0), (0, .ref 1000)] dL_law_17 rfl (Nat.le_of_ble_eq_true rfl) rfl ?_
    exact l_loop X hr hX hbl hL 513 0 A0 σ τ rfl k_A0 hC hR
  rw [lg_entry_eq]
  refine start (fun _ => b) s.heap [] _ rfl (fun k q h => absurd h (by simp [wd, e0])) ⟨fun i j p q h => absurd h (by simp [wd, e0]), fun k q h => absurd h (by simp [wd, e0])⟩ va_S.rf ?_
  exact lv_entry ([.ref b]) (n := 8) (Nat.le_of_ble_eq_true rfl)
set_option maxHeartbeats 4000000 in
theorem lw_walk (l : Launch) (hflags : l.flags = flags0) (b : Addr) (xs : List Int32) : MetFree l x (headSpec (Jvm.Cond.code x code maxLocals ret :: tables_1) room_1) (lw_P b xs) (fun _ _ _ _ _ => True) lw_Q := by
  refine MetFree.of_bodyS (code := code) (maxLocals := maxLocals) (ret := ret) (by decide) ?_ ?_
  · intro args s m h hn
    obtain ⟨meth, c, h1, h2, h3, h4, h5, h6, -, -⟩ := Cond.code_spec hn (atoms_spec (ws := Jvm.Cond.code x code maxLocals ret :: tables_1) h _ List.mem_cons_self)
    exact ⟨meth, c, h1, h2, h3, h4, h5, h6⟩
  · intro p e s m args below meth c s₁ B hml0 hP _
    obtain ⟨rfl, hx, hbd, hgv⟩ := hP
    obtain ⟨scr, harrAt, hlist, hof, hsmall⟩ := hx
    obtain ⟨hcb, hkn, -, -⟩ := State.arrayAt?_spec harrAt
    have hown : s.vm.findClass R_law = some m.cls := findClass_of_methodNamed B.named
    have hts0 : ∀ c ∈ (Jvm.Cond.code x code maxLocals ret :: tables_1), c.before #[Value.ref b] s = true := atoms_spec (ws := Jvm.Cond.code x code maxLocals ret :: tables_1) B.pre
    have hts : ∀ w ∈ lw_tbl, w.before #[Value.ref b] s = true := k2_hts_sels lw_privs (fun w hw => hts0 w (List.mem_cons_of_mem _ hw)) lw_privs_ok
    have hml : c.maxLocals = 8 := B.maxLocals_eq (hts0 _ List.mem_cons_self)
    have X₀ : Stand p l e room_1 s m #[Value.ref b] below meth c s₁ [] 0 0 := Stand.of_body B
    have hh0 : s₁.heap = s.heap := by rw [B.state]; rfl
    have hsz : scr.slots.size = xs.length := by rw [← Array.length_toList, hlist, List.length_map]
    have hval : ∀ j : Nat, j < xs.length → scr.slots[j]? = some (.int (xs.getD j 0)) := fun j hj => by
      rw [← Array.getElem?_toList, hlist]
      simp [hj]
    have hbl : b < s.heap.size := (Array.getElem?_eq_some_iff.mp hcb).1
    have hX : va_X b xs.length (fun j => xs.getD j 0) s s.heap := ⟨scr, hcb, hof, hkn, hsz, hval⟩
    have K : W p l e room_1 s m #[Value.ref b] below meth c s₁.heap [] 0 0 (lw_Z below #[Value.ref b] s) (entryFrame m ([Value.ref b] : List Value).toArray 8) := by
      rw [hh0]
      exact whole_start l hflags hbd ⟨B.exec, B.bytes, B.returns, hml, hown, hts, hX, hbl, B.notSynchronized, hgv⟩
    obtain ⟨t, a1, o, b1, b2, b3⟩ := K s₁ rfl X₀
    exact ⟨t, o, a1, b1, b2, b3⟩
theorem lw_pre_spec {args : Array Value} {s : State} (h : (Jvm.Cond.and given_1 narrow_1).before args s = true) (hr : rest_1_c.before args s = true) : ∃ (b : Addr) (xs : List Int32), lw_P b xs args s := by
  have hs := flat_of_before _ h
  have hq := flat_of_before _ hr
  have hc : (Cond.count 1).before args s = true := hs _ (by decide +kernel)
  have harr : (Cond.arrayOf (.arg 0) .int).before args s = true := hs _ (by decide +kernel)
  have hle : (Cond.le (.length (.arg 0)) (.int 3072)).before args s = true := hs _ (by decide +kernel)
  have hlen : (Cond.isInt (.length (.arg 0))).before args s = true := hq _ (by decide +kernel)
  have hall : (Cond.all (.arg 0) (.isInt (.elem (.arg 0) (.index 0)))).before args s = true := hq _ (by decide +kernel)
  obtain ⟨b, xs, hb, hx⟩ := State.ints_of_pre rfl harr hlen hall
  have hsm : xs.length < 2 ^ 31 := hx.choose_spec.2.2.2
  have hev : (Term.length (.arg 0)).eval args s none [] s = some (.int xs.length.toInt32) := hx.length_eval hb
  have hv := Cond.le_ints hev (show (Term.int 3072).eval args s none [] s = some (.int 3072) from rfl)
  have hd : xs.length.toInt32 ≤ 3072 := by
    simpa [Cond.before, Cond.holds, hv] using hle
  have hN : xs.length ≤ 3072 := (Int32.ofNat_le_ofNat hsm (by decide)).mp (show Int32.ofNat xs.length ≤ Int32.ofNat 3072 from hd)
  exact ⟨b, xs, Cond.one_arg hc (show args[0]? = some (.ref b) from hb), hx, hN, h⟩
theorem lw_comes (l : Launch) (hflags : l.flags = flags0) : Comes l x (Jvm.Cond.code x code maxLocals ret :: tables_1) room_1 (fun tb e args s => Calls_1 tb e args s ∧ rest_1 tb e args s ∧ Pre_1 tb e args s)
    (fun _ _ args s o t => lw_Q args s o t) := by
  intro p e ha hc hk s m args below hf hfit hheap happ hpre
  obtain ⟨b, xs, hP⟩ := lw_pre_spec hpre.2.2 hpre.2.1
  obtain ⟨k, o, h1, h2, h3, hQ⟩ := lw_walk l hflags b xs p e ha hc hk s m args below hf ((Spec.applies_iff_loose hf).mp happ).1 hP trivial
  exact ⟨k, o, h1, h2, h3, hQ⟩
theorem lw_frame {s t : State} {o : Outcome} {args : Array Value} (h : State.butDraws s t lw_cs (fun t1 => Framed s o t1 [] 600000 7302250)) :
    State.butDraws s t [Jvm.Choice.named "NaN.bits"] (fun t1 => Framed s o t1 (fieldLocs frame_1_writes args s ++ arrayLocs frame_1_arrays args s ++ staticLocs frame_1_statics s) 600000 7302250) := h
theorem lw_limb (L : Cond) (hL : ∀ (args : Array Value) (s t : State), L.after args s (.returned (some (.int 1))) t = true) :
    ArmFor flags0 classFile x code maxLocals ret World_1 tables_1 room_1 Calls_1 rest_1 Pre_1
      (fun tb e a s o t => postC L tb e a s o t ∧ State.butDraws s t [Jvm.Choice.named "NaN.bits"] (fun t1 => Framed s o t1 (fieldLocs frame_1_writes a s ++ arrayLocs frame_1_arrays a s ++ staticLocs frame_1_statics s) 600000 7302250)) := by
  intro l hflags _ _ p e ha hc hk s m args below hf hfit hheap happ hpre
  obtain ⟨k, o, h1, h2, h3, rfl, hF⟩ := lw_comes l hflags p e ha hc hk s m args below hf hfit hheap happ hpre
  exact ⟨k, _, h1, h2, h3, hL args s _, lw_frame hF⟩
theorem i_vc : Claimed_1_1 ∧ Claimed_1_2 := ⟨lw_limb limb_1_1 (fun args s t => by simp [limb_1_1, Cond.after, Cond.holds, Cond.value]), lw_limb limb_1_2 (fun args s t => Cond.after_iff.mpr (by
  first | (rw [show limb_1_2 = Cond.eq .result (.int 1) from rfl, Cond.eq_ints (x := 1) (y := 1) rfl rfl]; simp; done) | (simp [limb_1_2, Cond.value, Term.eval]; done)))⟩
