/-! the world grows: constructors -/
def addC (sh : SH) (n : Nat) (kd : Nat ⊕ (Nat × Nat)) : SH := (n + 1, fun c => if c = n then kd else sh.2.1 c, fun c j => if c = n then none else sh.2.2 c j)
def putC (sh : SH) (c j r : Nat) : SH := (sh.1, sh.2.1, fun a b => if a = c ∧ b = j then some r else sh.2.2 a b)
def zC (σ : St) (n : Nat) : St := (u1 σ.1 n (fun _ => 0), u1 σ.2.1 n (fun _ => 0), u1 σ.2.2 n (fun _ => 0))
def Cl (sh : SH) : Prop := ∀ c j r, sh.2.2 c j = some r → r < sh.1
def Zr (σ : St) (n : Nat) : Prop := ∀ c, c < n → ∀ j, gI σ c j = 0 ∧ gJ σ c j = 0
theorem Cl.add {sh : SH} {n : Nat} {kd : Nat ⊕ (Nat × Nat)} (h : Cl sh) (hn : sh.1 = n) : Cl (addC sh n kd) := by
  intro c j r e
  unfold addC at e ⊢
  dsimp only at e ⊢
  split at e
  · cases e
  · have := h c j r e; omega
theorem Cl.put {sh : SH} {c j r : Nat} (h : Cl sh) (hr : r < sh.1) : Cl (putC sh c j r) := by
  intro a b q e
  unfold putC at e ⊢
  dsimp only at e ⊢
  split at e
  · cases e; exact hr
  · exact h a b q e
theorem Zr.add {σ : St} {n : Nat} (h : Zr σ n) : Zr (zC σ n) (n + 1) := by
  intro c hc j
  unfold zC gI gJ u1
  dsimp only
  by_cases e : c = n
  · rw [if_pos e, if_pos e]; exact ⟨rfl, rfl⟩
  · rw [if_neg e, if_neg e]; exact h c (by omega) j
theorem Zr.put {σ : St} {n c j : Nat} (h : Zr σ n) : Zr (uI σ c j 0) n := by
  intro a ha b
  rw [gI_uI, gJ_uI]
  split
  · exact ⟨rfl, (h a ha b).2⟩
  · exact h a ha b
def okv (n : Nat) : Value → Prop | .ref k => k < n | _ => True
def agr (n : Nat) (ad' ad : Nat → Nat) : Prop := ∀ c, c < n → ad' c = ad c
theorem agr.tr {n m : Nat} {a b c : Nat → Nat} (h : agr n a b) (k : agr m b c) (hm : m ≤ n) : agr m a c := fun x hx => (h x (by omega)).trans (k x hx)
theorem vm_agr {n : Nat} {ad ad' : Nat → Nat} (h : agr n ad' ad) {v : Value} (hv : okv n v) : vm ad' v = vm ad v := by
  cases v <;> first | rfl | (exact congrArg Value.ref (h _ hv))
def oks (n : Nat) : List Value → Prop | [] => True | v :: t => okv n v ∧ oks n t
def okl (n : Nat) : List (Nat × Value) → Prop | [] => True | v :: t => okv n v.2 ∧ okl n t
theorem st_agr {n : Nat} {ad ad' : Nat → Nat} (h : agr n ad' ad) : ∀ {st : List Value}, oks n st → st.map (vm ad') = st.map (vm ad)
  | [], _ => rfl
  | v :: t, hv => by rw [List.map_cons, List.map_cons, vm_agr h hv.1, st_agr h hv.2]
theorem lm_agr {n : Nat} {ad ad' : Nat → Nat} (h : agr n ad' ad) : ∀ {loc : List (Nat × Value)}, okl n loc → lm ad' loc = lm ad loc
  | [], _ => rfl
  | v :: t, hv => by
    have := lm_agr h hv.2
    unfold lm at this ⊢
    rw [List.map_cons, List.map_cons, vm_agr h hv.1, this]
theorem ce_gen {cA : Nat → ClassId} {ad ad' : Nat → Nat} {sh sh' : SH} {σ σ' : St} {c : Nat} (hk : sh'.2.1 c = sh.2.1 c) (h1 : gI σ' c = gI σ c) (h2 : gJ σ' c = gJ σ c) (h3 : gD σ' c = gD σ c) (hr : ∀ j, (sh'.2.2 c j).map ad' = (sh.2.2 c j).map ad) : ce cA ad' sh' σ' c = ce cA ad sh σ c := by
  have e : ∀ t j, fv ad' sh' σ' c t j = fv ad sh σ c t j := by
    intro t j
    simp only [fv, h1, h2, h3, hr]
  simp only [ce, hk, h1, h2, h3, e, hr]
def adu (ad : Nat → Nat) (n q : Nat) : Nat → Nat := fun c => if c = n then q else ad c
theorem adu_agr (ad : Nat → Nat) (n q : Nat) : agr n (adu ad n q) ad := fun c hc => by unfold adu; rw [if_neg (by omega)]
theorem adu_at (ad : Nat → Nat) (n q : Nat) : adu ad n q n = q := by unfold adu; rw [if_pos rfl]
theorem wd_add {cA : Nat → ClassId} {ad : Nat → Nat} {sh : SH} {σ : St} {n q : Nat} {kd : Nat ⊕ (Nat × Nat)} (hn : sh.1 = n) (hc : Cl sh) :
    wd cA (adu ad n q) (addC sh n kd) (zC σ n) = wd cA ad sh σ ++ [(q, ce cA (adu ad n q) (addC sh n kd) (zC σ n) n)] := by
  unfold wd
  rw [show (addC sh n kd).1 = n + 1 from rfl, List.range_succ, List.map_append, hn]
  congr 1
  · refine List.map_congr_left fun c h => ?_
    have h : c < n := List.mem_range.mp h
    rw [adu_agr ad n q c h]
    refine congrArg (Prod.mk (ad c)) (ce_gen ?_ ?_ ?_ ?_ ?_)
    · show (if c = n then kd else sh.2.1 c) = _
      rw [if_neg (by omega)]
    · funext j; show (if c = n then (0 : Int32) else σ.1 c j) = _; rw [if_neg (by omega)]; rfl
    · funext j; show (if c = n then (0 : Int64) else σ.2.1 c j) = _; rw [if_neg (by omega)]; rfl
    · funext j; show (if c = n then (0 : UInt64) else σ.2.2 c j) = _; rw [if_neg (by omega)]; rfl
    · intro j
      show ((if c = n then none else sh.2.2 c j).map (adu ad n q)) = _
      rw [if_neg (by omega)]
      cases e : sh.2.2 c j with
      | none => rfl
      | some r => exact congrArg some (adu_agr ad n q r (by rw [← hn]; exact hc c j r e))
  · rw [List.map_cons, List.map_nil, adu_at]
theorem wd_setS {cA : Nat → ClassId} {ad : Nat → Nat} {sh sh' : SH} {σ : St} {b : Nat} {e : va_E} (h1 : sh'.1 = sh.1) (he : ce cA ad sh' σ b = e) (ho : ∀ c, c ≠ b → ce cA ad sh' σ c = ce cA ad sh σ c) : (wd cA ad sh σ).set b (ad b, e) = wd cA ad sh' σ := by
  refine List.ext_getElem? fun i => ?_
  by_cases hi : i < sh.1
  · by_cases hb : i = b
    · subst hb
      rw [List.getElem?_set_self (by rw [wd_len]; exact hi), wd_at (by rw [h1]; exact hi), he]
    · rw [List.getElem?_set_ne (Ne.symm hb), wd_at hi, wd_at (by rw [h1]; exact hi), ho i hb]
  · have h2 : (wd cA ad sh' σ).length ≤ i := by rw [wd_len, h1]; omega
    have h3 : ((wd cA ad sh σ).set b (ad b, e)).length ≤ i := by rw [List.length_set, wd_len]; omega
    rw [List.getElem?_eq_none h2, List.getElem?_eq_none h3]
theorem put_o {cA : Nat → ClassId} {ad : Nat → Nat} {sh : SH} {σ : St} {b j r : Nat} : ∀ c, c ≠ b → ce cA ad (putC sh b j r) σ c = ce cA ad sh σ c := fun c h => ce_gen rfl rfl rfl rfl (fun k => by
  show ((if c = b ∧ k = j then some r else sh.2.2 c k).map ad) = _
  rw [if_neg (fun z => h z.1)])
def defv (t : Nat) : Value := match t with | 0 => .int 0 | 1 => .long 0 | 2 => .double 0 | _ => .null
def AO2 (s : State) : Prop := va_AO RX1 s ∧ va_AO RX2 s
theorem cA_is {D : va_G} {cA : Nat → ClassId} {s : State} {cA' : ClassId} {t : Nat} {ty : FieldType} (hK : va_K D cls (tysA cA) s) (hK1 : va_K D cls (tysA cA ++ [(cA', ty)]) s) (ht : (tysA cA)[t]? = some (cA t, ty)) : cA' = cA t := by
  have h1 := (hK1.2 5 (cA', ty) rfl).2
  have h2 := (hK.2 t _ ht).2
  have e : ∀ c, va_RA s c ty → s.vm.findClass ("[" ++ ty.toString) = some c := by
    intro c h
    cases ty with
    | object C =>
      obtain ⟨kA, comp, -, -, -, h4⟩ := h
      exact h4
    | _ => exact h
  exact Option.some.inj ((e _ h1).symm.trans (e _ h2))
theorem zI (σ : St) (n : Nat) : gI (zC σ n) n = fun _ => 0 := funext fun j => by show (if n = n then (0 : Int32) else _) = _; rw [if_pos rfl]
theorem zJ (σ : St) (n : Nat) : gJ (zC σ n) n = fun _ => 0 := funext fun j => by show (if n = n then (0 : Int64) else _) = _; rw [if_pos rfl]
theorem zD (σ : St) (n : Nat) : gD (zC σ n) n = fun _ => 0 := funext fun j => by show (if n = n then (0 : UInt64) else _) = _; rw [if_pos rfl]
theorem zR {sh : SH} {n : Nat} {kd : Nat ⊕ (Nat × Nat)} (j : Nat) : (addC sh n kd).2.2 n j = none := by show (if n = n then none else _) = _; rw [if_pos rfl]
theorem zK {sh : SH} {n : Nat} {kd : Nat ⊕ (Nat × Nat)} : (addC sh n kd).2.1 n = kd := by show (if n = n then _ else _) = _; rw [if_pos rfl]
theorem zfv (ad : Nat → Nat) (sh : SH) (σ : St) (n : Nat) (kd : Nat ⊕ (Nat × Nat)) (j : Nat) : ∀ t, fv ad (addC sh n kd) (zC σ n) n t j = defv t
  | 0 => by show Value.int (gI (zC σ n) n j) = .int 0; rw [zI]
  | 1 => by show Value.long (gJ (zC σ n) n j) = .long 0; rw [zJ]
  | 2 => by show Value.double (gD (zC σ n) n j) = .double 0; rw [zD]
  | t + 3 => by show va_rf (((addC sh n kd).2.2 n j).map ad) = .null; rw [zR]; rfl
section GGROW
variable {p : Program} {l : Launch} {e : Env} {R : Room} {s : State} {m : MethodId} {args : Array Value} {below : List Frame} {meth : Method} {c : Code} {cc : ByteArray} {nL : Nat} {own : String} {D : va_G} {cA : Nat → ClassId} {A : Nat → Prop} {Q : State → Prop} {kc ks : Nat} {n0 : Nat} {ad0 : Nat → Nat} {sh : SH} {σ : St} {loc : List (Nat × Value)} {pc : Nat} {st : List Value}
theorem g_new (X : Cx p R s m args meth c cc nL own D cA A) {C : String} {T : u_T} {N ci index n : Nat} (ty0 : Nat → FieldType) (hd : decode cc pc = .ok (.new index, 3)) (hn : sh.1 = n) (hcl : Cl sh) (hn0 : n0 ≤ n) (hc : cls[ci]? = some (C, T, N)) (hN : nf ci = N) (hin : ∀ w ∈ u_ws C T N, w ∈ GW) (hty : ∀ k, k < N → parseFieldDescriptor (T k).2.2.1 = some (ty0 k)) (h1 : Cond.classLink own index C ∈ GW) (h2 : Cond.instantiable C N ∈ GW) (h3 : Cond.initialized C ∈ GW) (hdef : ∀ j, j < N → defaultValue (ty0 j) = defv (ft ci j)) (hlo : okl n loc) (hst : oks n st) (hkc : kc + 1 ≤ R.cells) (hks : ks + N ≤ R.slots)
    (k : G p l e R s m args below meth c nL D cA A Q (kc + 1) (ks + N) (fun ad => agr n0 ad ad0) (addC sh n (.inl ci)) (zC σ n) loc (pc + 3) (.ref n :: st)) : G p l e R s m args below meth c nL D cA A Q kc ks (fun ad => agr n0 ad ad0) sh σ loc pc st := by
  intro ad H locs ls hAD hP hD hS hl
  subst hN
  have hce : ∀ q, ce cA (adu ad n q) (addC sh n (.inl ci)) (zC σ n) n = .inr (ci, (List.range (nf ci)).map (fun j => defv (ft ci j))) := by
    intro q
    rw [ce_o zK]
    refine congrArg (fun x => Sum.inr (ci, x)) (List.map_congr_left fun j _ => ?_)
    exact zfv _ _ _ _ _ _ _
  refine va_new (ci := ci) (fs := (List.range (nf ci)).map (fun j => defv (ft ci j))) (rest := st.map (vm ad)) X.1 X.2.1 X.2.2.2.2.1 hin ty0 hty X.2.2.2.1 (X.2.2.2.2.1 _ h1) (X.2.2.2.2.1 _ h2) (X.2.2.2.2.1 _ h3) X.2.2.2.2.2.2.1 hP hD hS X.2.2.2.2.2.2.2.2.1 hc ?_ hkc hks hd (fun q H1 hP1 hD1 hS1 => ?_)
  · intro j hj
    rw [hdef j hj]
    unfold vp_V
    simp [hj]
  · have ew := wd_add (cA := cA) (ad := ad) (σ := σ) (q := q) (kd := .inl ci) hn hcl
    rw [hce] at ew
    have := k (adu ad n q) H1 locs ls (agr.tr (adu_agr ad n q) hAD hn0) (by rw [ew]; exact hP1) (by rw [ew]; exact hD1) hS1 (by rw [lm_agr (adu_agr ad n q) hlo]; exact hl)
    rw [List.map_cons, st_agr (adu_agr ad n q) hst] at this
    rw [show vm (adu ad n q) (.ref n) = .ref q from congrArg Value.ref (adu_at ad n q)] at this
    exact this
theorem g_newaI (X : Cx p R s m args meth c cc nL own D cA A) {n N : Nat} {x : Int32} (hd : decode cc pc = .ok (.newarray .int, 2)) (hx : x = nI N) (hNN : N < 100000) (hn : sh.1 = n) (hcl : Cl sh) (hn0 : n0 ≤ n) (h1 : Cond.arrayClass .int ∈ GW) (hlo : okl n loc) (hst : oks n st) (hkc : kc + 1 ≤ R.cells) (hks : ks + N ≤ R.slots)
    (k : G p l e R s m args below meth c nL D cA A Q (kc + 1) (ks + N) (fun ad => agr n0 ad ad0) (addC sh n (.inr (0, N))) (zC σ n) loc (pc + 2) (.ref n :: st)) : G p l e R s m args below meth c nL D cA A Q kc ks (fun ad => agr n0 ad ad0) sh σ loc pc (.int x :: st) := by
  intro ad H locs ls hAD hP hD hS hl
  have hxi : x.toInt = (N : Int) := by rw [hx]; exact nI_toInt (by omega)
  have hce : ∀ q, ce cA (adu ad n q) (addC sh n (.inr (0, N))) (zC σ n) n = .inl (cA 0, N, .inl (fun _ => 0)) := by
    intro q
    rw [ce_i zK, zI]
  refine va_newa (atype := .int) (a0 := (N, .inl (fun _ => 0))) (rest := st.map (vm ad)) X.1 X.2.1 (X.2.2.2.2.1 _ h1) rfl X.2.2.2.2.2.2.1 hP hD hS X.2.2.2.2.2.2.2.2.1 (fun _ => rfl) (fun z => ?_) (by rw [hx]; exact ix_nI (by omega)) ?_ hkc hks hd (fun q cA' H1 hK1 hP1 hD1 hS1 => ?_)
  · rw [i_lt, hxi, t0] at z; omega
  · show N * 4 ≤ _; omega
  · obtain rfl := cA_is (t := 0) X.2.2.2.2.2.2.1 hK1 rfl
    have ew := wd_add (cA := cA) (ad := ad) (σ := σ) (q := q) (kd := .inr (0, N)) hn hcl
    rw [hce] at ew
    have := k (adu ad n q) H1 locs ls (agr.tr (adu_agr ad n q) hAD hn0) (by rw [ew]; exact hP1) (by rw [ew]; exact hD1) hS1 (by rw [lm_agr (adu_agr ad n q) hlo]; exact hl)
    rw [List.map_cons, st_agr (adu_agr ad n q) hst] at this
    rw [show vm (adu ad n q) (.ref n) = .ref q from congrArg Value.ref (adu_at ad n q)] at this
    exact this
theorem g_newaJ (X : Cx p R s m args meth c cc nL own D cA A) {n N : Nat} {x : Int32} (hd : decode cc pc = .ok (.newarray .long, 2)) (hx : x = nI N) (hNN : N < 100000) (hn : sh.1 = n) (hcl : Cl sh) (hn0 : n0 ≤ n) (h1 : Cond.arrayClass .long ∈ GW) (hlo : okl n loc) (hst : oks n st) (hkc : kc + 1 ≤ R.cells) (hks : ks + N ≤ R.slots)
    (k : G p l e R s m args below meth c nL D cA A Q (kc + 1) (ks + N) (fun ad => agr n0 ad ad0) (addC sh n (.inr (1, N))) (zC σ n) loc (pc + 2) (.ref n :: st)) : G p l e R s m args below meth c nL D cA A Q kc ks (fun ad => agr n0 ad ad0) sh σ loc pc (.int x :: st) := by
  intro ad H locs ls hAD hP hD hS hl
  have hxi : x.toInt = (N : Int) := by rw [hx]; exact nI_toInt (by omega)
  have hce : ∀ q, ce cA (adu ad n q) (addC sh n (.inr (1, N))) (zC σ n) n = .inl (cA 1, N, .inr (.inl (fun _ => 0))) := by
    intro q
    rw [ce_l zK, zJ]
  refine va_newa (atype := .long) (a0 := (N, .inr (.inl (fun _ => 0)))) (rest := st.map (vm ad)) X.1 X.2.1 (X.2.2.2.2.1 _ h1) rfl X.2.2.2.2.2.2.1 hP hD hS X.2.2.2.2.2.2.2.2.1 (fun _ => rfl) (fun z => ?_) (by rw [hx]; exact ix_nI (by omega)) ?_ hkc hks hd (fun q cA' H1 hK1 hP1 hD1 hS1 => ?_)
  · rw [i_lt, hxi, t0] at z; omega
  · show N * 8 ≤ _; omega
  · obtain rfl := cA_is (t := 1) X.2.2.2.2.2.2.1 hK1 rfl
    have ew := wd_add (cA := cA) (ad := ad) (σ := σ) (q := q) (kd := .inr (1, N)) hn hcl
    rw [hce] at ew
    have := k (adu ad n q) H1 locs ls (agr.tr (adu_agr ad n q) hAD hn0) (by rw [ew]; exact hP1) (by rw [ew]; exact hD1) hS1 (by rw [lm_agr (adu_agr ad n q) hlo]; exact hl)
    rw [List.map_cons, st_agr (adu_agr ad n q) hst] at this
    rw [show vm (adu ad n q) (.ref n) = .ref q from congrArg Value.ref (adu_at ad n q)] at this
    exact this
theorem g_newaD (X : Cx p R s m args meth c cc nL own D cA A) {n N : Nat} {x : Int32} (hd : decode cc pc = .ok (.newarray .double, 2)) (hx : x = nI N) (hNN : N < 100000) (hn : sh.1 = n) (hcl : Cl sh) (hn0 : n0 ≤ n) (h1 : Cond.arrayClass .double ∈ GW) (hlo : okl n loc) (hst : oks n st) (hkc : kc + 1 ≤ R.cells) (hks : ks + N ≤ R.slots)
    (k : G p l e R s m args below meth c nL D cA A Q (kc + 1) (ks + N) (fun ad => agr n0 ad ad0) (addC sh n (.inr (2, N))) (zC σ n) loc (pc + 2) (.ref n :: st)) : G p l e R s m args below meth c nL D cA A Q kc ks (fun ad => agr n0 ad ad0) sh σ loc pc (.int x :: st) := by
  intro ad H locs ls hAD hP hD hS hl
  have hxi : x.toInt = (N : Int) := by rw [hx]; exact nI_toInt (by omega)
  have hce : ∀ q, ce cA (adu ad n q) (addC sh n (.inr (2, N))) (zC σ n) n = .inl (cA 2, N, .inr (.inr (.inr (.inl (fun _ => 0))))) := by
    intro q
    rw [ce_d zK, zD]
  refine va_newa (atype := .double) (a0 := (N, .inr (.inr (.inr (.inl (fun _ => 0)))))) (rest := st.map (vm ad)) X.1 X.2.1 (X.2.2.2.2.1 _ h1) rfl X.2.2.2.2.2.2.1 hP hD hS X.2.2.2.2.2.2.2.2.1 (fun _ => rfl) (fun z => ?_) (by rw [hx]; exact ix_nI (by omega)) ?_ hkc hks hd (fun q cA' H1 hK1 hP1 hD1 hS1 => ?_)
  · rw [i_lt, hxi, t0] at z; omega
  · show N * 8 ≤ _; omega
  · obtain rfl := cA_is (t := 2) X.2.2.2.2.2.2.1 hK1 rfl
    have ew := wd_add (cA := cA) (ad := ad) (σ := σ) (q := q) (kd := .inr (2, N)) hn hcl
    rw [hce] at ew
    have := k (adu ad n q) H1 locs ls (agr.tr (adu_agr ad n q) hAD hn0) (by rw [ew]; exact hP1) (by rw [ew]; exact hD1) hS1 (by rw [lm_agr (adu_agr ad n q) hlo]; exact hl)
    rw [List.map_cons, st_agr (adu_agr ad n q) hst] at this
    rw [show vm (adu ad n q) (.ref n) = .ref q from congrArg Value.ref (adu_at ad n q)] at this
    exact this
theorem g_newq (X : Cx p R s m args meth c cc nL own D cA A) {n N t index : Nat} {C : String} {x : Int32} (hAO : va_AO C s) (hd : decode cc pc = .ok (.anewarray index, 3)) (hx : x = nI N) (hNN : N < 100000) (ht : (tysA cA)[t + 3]? = some (cA (t + 3), .object C)) (hn : sh.1 = n) (hcl : Cl sh) (hn0 : n0 ≤ n) (h1 : Cond.classLink own index C ∈ GW) (hlo : okl n loc) (hst : oks n st) (hkc : kc + 1 ≤ R.cells) (hks : ks + N ≤ R.slots)
    (k : G p l e R s m args below meth c nL D cA A Q (kc + 1) (ks + N) (fun ad => agr n0 ad ad0) (addC sh n (.inr (t + 3, N))) (zC σ n) loc (pc + 3) (.ref n :: st)) : G p l e R s m args below meth c nL D cA A Q kc ks (fun ad => agr n0 ad ad0) sh σ loc pc (.int x :: st) := by
  intro ad H locs ls hAD hP hD hS hl
  have hxi : x.toInt = (N : Int) := by rw [hx]; exact nI_toInt (by omega)
  have hce : ∀ q, ce cA (adu ad n q) (addC sh n (.inr (t + 3, N))) (zC σ n) n = .inl (cA (t + 3), N, .inr (.inr (.inr (.inr (fun _ => none))))) := by
    intro q
    rw [ce_q zK, show (fun j => ((addC sh n (.inr (t + 3, N))).2.2 n j).map (adu ad n q)) = fun _ => none from funext fun j => by rw [zR]; rfl]
  refine va_newq (C := C) (N' := N) (rest := st.map (vm ad)) X.1 X.2.1 X.2.2.2.1 (X.2.2.2.2.1 _ h1) hAO X.2.2.2.2.2.2.1 hP hD hS X.2.2.2.2.2.2.2.2.1 (fun z => ?_) (by rw [hx]; exact ix_nI (by omega)) ?_ hkc hks hd (fun q cA' H1 hK1 hP1 hD1 hS1 => ?_)
  · rw [i_lt, hxi, t0] at z; omega
  · omega
  · obtain rfl := cA_is (t := t + 3) X.2.2.2.2.2.2.1 hK1 ht
    have ew := wd_add (cA := cA) (ad := ad) (σ := σ) (q := q) (kd := .inr (t + 3, N)) hn hcl
    rw [hce] at ew
    have := k (adu ad n q) H1 locs ls (agr.tr (adu_agr ad n q) hAD hn0) (by rw [ew]; exact hP1) (by rw [ew]; exact hD1) hS1 (by rw [lm_agr (adu_agr ad n q) hlo]; exact hl)
    rw [List.map_cons, st_agr (adu_agr ad n q) hst] at this
    rw [show vm (adu ad n q) (.ref n) = .ref q from congrArg Value.ref (adu_at ad n q)] at this
    exact this
variable {AD : (Nat → Nat) → Prop}
theorem g_putQ (X : Cx p R s m args meth c cc nL own D cA A) {C : String} {T : u_T} {N b ci index r : Nat} {ty0 : Nat → FieldType} (j : Nat) (hI : meth.name = "<init>") (hd : decode cc pc = .ok (.putfield index, 3)) (hb : b < sh.1) (hk : sh.2.1 b = .inl ci) (hc : cls[ci]? = some (C, T, N)) (hN : nf ci = N) (hin : ∀ w ∈ u_ws C T N, w ∈ GW) (hty : ∀ k, k < N → parseFieldDescriptor (T k).2.2.1 = some (ty0 k)) (hnm : ∀ a, a < N → ∀ b, b < N → a ≠ b → (T a).2.1 ≠ (T b).2.1) (hj : j < N) (hf : ft ci j = 3) (hfin : (T j).2.2.2 = true) (hdecl : (T j).1 = own) (hlink : Cond.fieldLink own index (T j).1 (T j).2.1 (T j).2.2.1 ∈ GW) (hn : ∀ a, narrow (ty0 j) (.ref a) = .ref a) (hfit : ∀ a, fits (ty0 j) (.ref a) = true) (k : G p l e R s m args below meth c nL D cA A Q kc ks AD (putC sh b j r) σ loc (pc + 3) st) : G p l e R s m args below meth c nL D cA A Q kc ks AD sh σ loc pc (.ref r :: .ref b :: st) := by
  intro ad H locs ls hAD hP hD hS hl
  subst hN
  have e1 : (wd cA ad sh σ).set b (ad b, .inr (ci, ((List.range (nf ci)).map (fun j => fv ad sh σ b (ft ci j) j)).set j (.ref (ad r)))) = wd cA ad (putC sh b j r) σ := by
    refine wd_setS rfl ?_ put_o
    rw [ce_o (sh := putC sh b j r) hk]
    have h1 := fl_set (ad := ad) (sh := sh) (sh' := putC sh b j r) (σ := σ) (σ' := σ) (c := b) (ci := ci) (j := j) hj (fun q hq => by
      unfold fv
      rw [show (putC sh b j r).2.2 b q = sh.2.2 b q by show (if b = b ∧ q = j then _ else _) = _; rw [if_neg (fun z => hq z.2)]])
    rw [show fv ad (putC sh b j r) σ b (ft ci j) j = .ref (ad r) by
      rw [hf]
      show va_rf (((if b = b ∧ j = j then some r else _) : Option Nat).map ad) = _
      rw [if_pos ⟨rfl, rfl⟩]; rfl] at h1
    rw [h1]
  refine va_putF (rest := st.map (vm ad)) (v := .ref (ad r)) (tys := tysA cA) X.1 X.2.1 X.2.2.2.2.1 hin ty0 hty hnm X.2.2.2.1 X.2.2.2.2.2.2.1 hP hD hS b ((wd_at hb).trans (by rw [ce_o hk])) hc j hj (X.2.2.2.2.1 _ hlink) (fun _ h => h) hfin hI hdecl (hty j hj) (hn _) (hfit _) (by simp; exact hj) hd (fun H1 locs1 hP1 hD1 hS1 => ?_)
  rw [e1] at hP1 hD1
  exact k ad H1 locs1 ls hAD hP1 hD1 hS1 hl
theorem g_astq (X : Cx p R s m args meth c cc nL own D cA A) {C : String} {T : u_T} {N b ci t n r i : Nat} {x : Int32} (hd : decode cc pc = .ok (.aastore, 1)) (hx : x = nI i) (hi : i < n) (hnn : n < 100000) (hb : b < sh.1) (hk : sh.2.1 b = .inr (t + 3, n)) (ht : (tysA cA)[t + 3]? = some (cA (t + 3), .object C)) (hr : r < sh.1) (hkr : sh.2.1 r = .inl ci) (hc : cls[ci]? = some (C, T, N)) (k : G p l e R s m args below meth c nL D cA A Q kc ks AD (putC sh b i r) σ loc (pc + 1) st) : G p l e R s m args below meth c nL D cA A Q kc ks AD sh σ loc pc (.ref r :: .int x :: .ref b :: st) := by
  intro ad H locs ls hAD hP hD hS hl
  subst hx
  have e1 : (wd cA ad sh σ).set b (ad b, .inl (cA (t + 3), n, .inr (.inr (.inr (.inr (va_up (fun j => (sh.2.2 b j).map ad) i (some (ad r)))))))) = wd cA ad (putC sh b i r) σ := by
    refine wd_setS rfl ?_ put_o
    rw [ce_q (sh := putC sh b i r) hk]
    rw [show (fun j => ((putC sh b i r).2.2 b j).map ad) = va_up (fun j => (sh.2.2 b j).map ad) i (some (ad r)) from funext fun j => by
      show ((if b = b ∧ j = i then some r else sh.2.2 b j).map ad) = va_up _ _ _ _
      unfold va_up
      by_cases e : j = i
      · rw [if_pos ⟨rfl, e⟩, if_pos e]; rfl
      · rw [if_neg (fun z => e z.2), if_neg e]]
  refine va_astq (rest := st.map (vm ad)) (r := (C, T, N)) X.1 X.2.1 X.2.2.2.2.2.2.1 hP hD hS b (t + 3) r ci ((wd_at hb).trans (by rw [ce_q hk])) ht ((wd_at hr).trans (by rw [ce_o hkr])) hc (in_nI hi (by omega)) hd (fun H1 locs1 hP1 hD1 hS1 => ?_)
  rw [show (nI i).toNatClampNeg = i from ix_nI (by omega), e1] at hP1 hD1
  exact k ad H1 locs1 ls hAD hP1 hD1 hS1 hl
theorem g_objI (X : Cx p R s m args meth c cc nL own D cA A) {b index : Nat} (hd : decode cc pc = .ok (.invokespecial index, 3)) (h1 : Cond.methodLink own index objectInit ∈ GW) (h2 : Cond.instanceMethod objectInit ∈ GW) (h3 : Cond.code objectInit ⟨#[0xb1]⟩ 1 none ∈ GW) (hfr : 1 ≤ R.frames) (hloc : 20 ≤ R.locals) (k : G p l e R s m args below meth c nL D cA A Q kc ks AD sh σ loc (pc + 3) []) : G p l e R s m args below meth c nL D cA A Q kc ks AD sh σ loc pc [.ref b] := by
  intro ad H locs ls hAD hP hD hS hl
  refine W.objInit (a := ad b) (rest := []) X.1 X.2.1 X.2.2.2.1 (X.2.2.2.2.1 _ h1) (X.2.2.2.2.1 _ h2) (X.2.2.2.2.1 _ h3) rfl (by rw [X.2.2.1]; exact hl.1) rfl hd hfr ?_ ?_
  · exact Nat.le_trans (by show _ ≤ 20; exact Nat.le_of_ble_eq_true rfl) hloc
  · exact k ad H locs ls hAD hP hD hS hl
end GGROW
def EndN (D : va_G) (cA : Nat → ClassId) (A : Nat → Prop) (sh' : SH) (u : (Nat → Nat) × St) (t : State) : Prop := va_P D cls (wd cA u.1 sh' u.2) t.heap ∧ va_D A (wd cA u.1 sh' u.2)
def PcN (D : va_G) (cA : Nat → ClassId) (ad : Nat → Nat) (sh : SH) (sz : Nat) (av : List Value) (σ : St) : Array Value → State → Prop := va_Pc (av.map (vm ad)) (fun U => U.heap.size = sz ∧ va_P D cls (wd cA ad sh σ) U.heap ∧ va_K D cls (tysA cA) U ∧ (∀ w ∈ NW, va_Nw w U) ∧ va_D (fun _ => True) (wd cA ad sh σ) ∧ AO2 U)
theorem AO2.moved {u U : State} (hvm : u.vm.Alike U.vm) (h : AO2 u) : AO2 U := ⟨h.1.moved hvm, h.2.moved hvm⟩
theorem PcN.blind {D : va_G} {cA : Nat → ClassId} {ad : Nat → Nat} {sh : SH} {sz : Nat} {av : List Value} {σ : St} : FrameBlind (PcN D cA ad sh sz av σ) := by
  intro a U g mk h
  obtain ⟨h1, h2, h3, h4, h5, h6, h7⟩ := h
  exact ⟨h1, h2, h3, va_K.moved (u := U) (U := U.calling g mk a) (Vm.Alike.refl U.vm) h4, nw_call h5, h6, AO2.moved (u := U) (U := U.calling g mk a) (Vm.Alike.refl U.vm) h7⟩
def QN (D : va_G) (cA : Nat → ClassId) (A : Nat → Prop) (n : Nat) (ad : Nat → Nat) (sh' : SH) (Qp : St → Prop) : Array Value → State → Outcome → State → Prop := va_Qv (fun u : (Nat → Nat) × St => agr n u.1 ad ∧ Qp u.2) (EndN D cA A sh') A
def CtN (l : Launch) (y : MethodName) (b : ByteArray) (n : Nat) (rm : Room) (D : va_G) (cA : Nat → ClassId) (kc ks : Nat) (sh sh' : SH) (av : List Value) (σ : St) (Qp : St → Prop) : Prop := ∀ ad sz, Met l y (wsy y b n none) rm (PcN D cA ad sh sz av σ) (QN D cA (AW ad sh.1 sz) sh.1 ad sh' Qp) kc ks (AW ad sh.1 sz)
theorem CtN.of {l : Launch} {y : MethodName} {cc : ByteArray} {n : Nat} {rm : Room} {D : va_G} {cA : Nat → ClassId} {kc ks : Nat} {sh sh' : SH} {av : List Value} {σ : St} {Qp : St → Prop} {own : String} (hown : y.cls = own) (hini : y.name = "<init>") (hpl : plainFor y = true) (loc : List (Nat × Value)) (hloc : lv_args 0 av = loc) (hlen : (lg_sl av).length ≤ n)
    (body : ∀ (p : Program) (e : Env) (s : State) (m : MethodId) (args : Array Value) (below : List Frame) (meth : Method) (c : Code) (ad0 : Nat → Nat) (A : Nat → Prop), Cx p rm s m args meth c cc n own D cA A → meth.sig.returnType = none → meth.name = "<init>" → AO2 s → G p l e rm s m args below meth c n D cA A (MQ below (QN D cA A sh.1 ad0 sh' Qp) args s kc ks A) 0 0 (fun ad => agr sh.1 ad ad0) sh σ loc 0 []) : CtN l y cc n rm D cA kc ks sh sh' av σ Qp := by
  subst hown
  intro ad sz
  refine met_ofF (cc := cc) (maxL := n) (ret := none) hpl rfl ?_
  intro p e s m args below meth c s₁ B hml hv
  obtain ⟨rfl, hsz, hP, hK, hN, hD0, hAO⟩ := hv
  subst hsz
  have hts := atoms_spec (ws := wsy y cc n none) B.pre
  have X : Cx p rm s m ((av.map (vm ad)).toArray) meth c cc n y.cls D cA (AW ad sh.1 s.heap.size) := ⟨B.exec, B.bytes, hml, findClass_of_methodNamed B.named, fun w hw => hts w (List.mem_cons_of_mem _ hw), B.notSynchronized, hK, hN, fun q h => Or.inr h, Nat.le_add_left _ _⟩
  have hk := body p e s m _ below meth c ad (AW ad sh.1 s.heap.size) X B.returns (((name_of_methodNamed B.named B.method).1).trans hini) hAO
  rw [lg_entry_eq]
  have hD : va_D (AW ad sh.1 s.heap.size) (wd cA ad sh σ) := ⟨hD0.1, fun k q hq => by obtain ⟨lk, rfl⟩ := wd_inv hq; exact Or.inl ⟨k, lk, rfl⟩⟩
  refine hk ad s.heap [] _ (fun _ _ => rfl) hP hD va_S.rf ?_
  have h1 := lv_entry (av.map (vm ad)) (n := n) (by rw [sl_len]; exact hlen)
  rw [lm_args, hloc] at h1
  exact h1
section GNCALL
variable {p : Program} {l : Launch} {e : Env} {R : Room} {s : State} {m : MethodId} {args : Array Value} {below : List Frame} {meth : Method} {c : Code} {cc : ByteArray} {nL : Nat} {own : String} {D : va_G} {cA : Nat → ClassId} {A : Nat → Prop} {Q : State → Prop} {kc ks : Nat} {n0 : Nat} {ad0 : Nat → Nat} {sh : SH} {σ : St} {loc : List (Nat × Value)} {pc : Nat} {st : List Value}
theorem aw_sub {ad : Nat → Nat} {H0 H : Heap} {locs : List Loc} (hA : ∀ q, H0.size ≤ q → A q) (hD : va_D A (wd cA ad sh σ)) (hS : va_S A H0 H locs) {w : va_W} (h : va_D (AW ad sh.1 H.size) w) : va_D A w := ⟨h.1, fun k q hk => aw_in hA hD hS _ (h.2 k q hk)⟩
theorem g_callN (X : Cx p R s m args meth c cc nL own D cA A) (hAO : AO2 s) {y : MethodName} {bts : ByteArray} {maxL : Nat} {rm : Room} {b0 index n mc ms : Nat} {sh' : SH} {Qp : St → Prop} (rest : List Value) (hd : decode cc pc = .ok (.invokespecial index, 3)) (hM : CtN l y bts maxL rm D cA mc ms sh sh' [.ref b0] σ Qp) (h1 : Cond.methodLink own index y ∈ GW) (h2 : Cond.instanceMethod y ∈ GW) (h4 : Cond.initialized y.cls ∈ GW) (h5 : Cond.code y bts maxL none ∈ GW) (hn : sh.1 = n) (hn0 : n0 ≤ n) (hy : y.cls ≠ "java/lang/invoke/MethodHandle" ∧ y.cls ≠ "java/lang/invoke/VarHandle" ∧ (parseMethodDescriptor y.desc).map (fun d => d.parameters.length) = some 0) (hy1 : y.name = "<init>") (hroom : (rest.map fun v => v.category).sum ≤ 8) (hrc : rm.cells = mc) (hrs : rm.slots = ms) (hR : rm.frames + 1 ≤ R.frames ∧ 8 + (maxL + 11) + rm.locals ≤ R.locals) (hkc : kc + mc ≤ R.cells) (hks : ks + ms ≤ R.slots) (hlo : okl n loc) (hst : oks n rest)
    (kk : ∀ (σ1 : St), Qp σ1 → G p l e R s m args below meth c nL D cA A Q (kc + mc) (ks + ms) (fun ad => agr n0 ad ad0) sh' σ1 loc (pc + 3) rest) : G p l e R s m args below meth c nL D cA A Q kc ks (fun ad => agr n0 ad ad0) sh σ loc pc (.ref b0 :: rest) := by
  intro ad H locs ls hAD hP hD hS hl
  subst hn
  have hpre : ∀ U : State, U.heap = H → s.WarmedH U.vm → PcN D cA ad sh H.size [.ref b0] σ (([.ref b0] : List Value).map (vm ad)).toArray U := fun U hU hW =>
    ⟨rfl, by rw [hU], by rw [hU]; exact hP, va_K.moved hW.alike X.2.2.2.2.2.2.1, nw_warm hW X.2.2.2.2.2.2.2.1, hD.weaken (fun _ _ _ _ => trivial), hAO.moved hW.alike⟩
  refine va_callv (va_runI (As := []) (b := ad b0) (rest := rest.map (vm ad)) ⟨X.1, X.2.1, X.2.2.1, X.2.2.2.1, X.2.2.2.2.1⟩ (hM ad H.size) (cwI 0 X.2.2.2.2.1 (gw_wsy h5) rfl hrc hrs (X.2.2.2.2.1 _ h4) (X.2.2.2.2.1 _ h1) (X.2.2.2.2.1 _ h2) hy1 hy hR) ⟨PcN.blind, hpre⟩ rfl rfl hl.1 rfl (lv_room (by rw [vm_sum]; exact hroom)) hd ⟨hkc, hks⟩) hS (fun q _ h => aw_in X.2.2.2.2.2.2.2.2.1 hD hS q h) (aw_in X.2.2.2.2.2.2.2.2.1 hD hS) (fun u t H1 locs1 ht hvm hp hb hz hk2 hS1 => ?_)
  have := kk u.2 hp.2 u.1 H1 locs1 ls (agr.tr hp.1 hAD hn0) (by rw [← ht]; exact hb.1) (aw_sub X.2.2.2.2.2.2.2.2.1 hD hS hb.2) hS1 (by rw [lm_agr hp.1 hlo]; exact hl)
  rw [st_agr hp.1 hst] at this
  exact this
theorem g_callNN (X : Cx p R s m args meth c cc nL own D cA A) (hAO : AO2 s) {y : MethodName} {bts : ByteArray} {host : String} {maxL : Nat} {rm : Room} {b0 index n mc ms : Nat} {sh' : SH} {Qp : St → Prop} (rest : List Value) (hd : decode cc pc = .ok (.invokespecial index, 3)) (hM : CtN l y bts maxL rm D cA mc ms sh sh' [.ref b0] σ Qp) (h1 : Cond.methodLinkNest own index y host ∈ NW) (h2 : Cond.instanceMethod y ∈ GW) (h4 : Cond.initialized y.cls ∈ GW) (h5 : Cond.code y bts maxL none ∈ GW) (hn : sh.1 = n) (hn0 : n0 ≤ n) (hy : y.cls ≠ "java/lang/invoke/MethodHandle" ∧ y.cls ≠ "java/lang/invoke/VarHandle" ∧ (parseMethodDescriptor y.desc).map (fun d => d.parameters.length) = some 0) (hy1 : y.name = "<init>") (hroom : (rest.map fun v => v.category).sum ≤ 8) (hrc : rm.cells = mc) (hrs : rm.slots = ms) (hR : rm.frames + 1 ≤ R.frames ∧ 8 + (maxL + 11) + rm.locals ≤ R.locals) (hkc : kc + mc ≤ R.cells) (hks : ks + ms ≤ R.slots) (hlo : okl n loc) (hst : oks n rest)
    (kk : ∀ (σ1 : St), Qp σ1 → G p l e R s m args below meth c nL D cA A Q (kc + mc) (ks + ms) (fun ad => agr n0 ad ad0) sh' σ1 loc (pc + 3) rest) : G p l e R s m args below meth c nL D cA A Q kc ks (fun ad => agr n0 ad ad0) sh σ loc pc (.ref b0 :: rest) := by
  intro ad H locs ls hAD hP hD hS hl
  subst hn
  have hpre : ∀ U : State, U.heap = H → s.WarmedH U.vm → PcN D cA ad sh H.size [.ref b0] σ (([.ref b0] : List Value).map (vm ad)).toArray U := fun U hU hW =>
    ⟨rfl, by rw [hU], by rw [hU]; exact hP, va_K.moved hW.alike X.2.2.2.2.2.2.1, nw_warm hW X.2.2.2.2.2.2.2.1, hD.weaken (fun _ _ _ _ => trivial), hAO.moved hW.alike⟩
  refine va_callv (va_runIN (As := []) (b := ad b0) (rest := rest.map (vm ad)) ⟨X.1, X.2.1, X.2.2.1, X.2.2.2.1, X.2.2.2.2.1⟩ (hM ad H.size) ⟨va_cnB 0 X.2.2.2.2.1 (gw_wsy h5) rfl hrc hrs (X.2.2.2.2.2.2.2.1 _ h1) (X.2.2.2.2.1 _ h4) hy hR, hy1, X.2.2.2.2.1 _ h2⟩ ⟨PcN.blind, hpre⟩ rfl rfl hl.1 rfl (lv_room (by rw [vm_sum]; exact hroom)) hd ⟨hkc, hks⟩) hS (fun q _ h => aw_in X.2.2.2.2.2.2.2.2.1 hD hS q h) (aw_in X.2.2.2.2.2.2.2.2.1 hD hS) (fun u t H1 locs1 ht hvm hp hb hz hk2 hS1 => ?_)
  have := kk u.2 hp.2 u.1 H1 locs1 ls (agr.tr hp.1 hAD hn0) (by rw [← ht]; exact hb.1) (aw_sub X.2.2.2.2.2.2.2.2.1 hD hS hb.2) hS1 (by rw [lm_agr hp.1 hlo]; exact hl)
  rw [st_agr hp.1 hst] at this
  exact this
theorem g_nret (X : Cx p R s m args meth c cc nL own D cA A) {Qp : St → Prop} (hr : meth.sig.returnType = none) (hd : decode cc pc = .ok (.return_, 1)) (h : Qp σ) : G p l e R s m args below meth c nL D cA A (MQ below (QN D cA A n0 ad0 sh Qp) args s kc ks A) kc ks (fun ad => agr n0 ad ad0) sh σ loc pc [] := by
  intro ad H locs ls hAD hP hD hS hl
  exact W.vret X.1 X.2.1 hr (fun t ht hW => ⟨⟨(ad, σ), rfl, ⟨hAD, h⟩, ⟨by rw [ht]; exact hP, hD⟩⟩, hS.F ht⟩) hS.2.2 hd X.2.2.2.2.2.1
/-- another shape with the same world -/
theorem g_shape {AD : (Nat → Nat) → Prop} {sh' : SH} (hw : ∀ ad, wd cA ad sh σ = wd cA ad sh' σ) (k : G p l e R s m args below meth c nL D cA A Q kc ks AD sh' σ loc pc st) : G p l e R s m args below meth c nL D cA A Q kc ks AD sh σ loc pc st := by
  intro ad H locs ls hAD hP hD hS hl
  rw [hw ad] at hP hD
  exact k ad H locs ls hAD hP hD hS hl
end GNCALL
