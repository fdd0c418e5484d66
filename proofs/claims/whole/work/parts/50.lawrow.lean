/-! two worlds in one: the law's rows -/
def cat (σ τ : St) : St := (fun c j => if c < 118 then gI σ c j else gI τ (c - 118) j, fun c j => if c < 118 then gJ σ c j else gJ τ (c - 118) j, fun c j => if c < 118 then gD σ c j else gD τ (c - 118) j)
def shB : SH := (133, fun c => if c < 118 then kdC c else kdR (c - 118), fun c j => if c < 118 then RRC c j else (RRR (c - 118) j).map (118 + ·))
def sf (ad : Nat → Nat) : Nat → Nat := fun c => ad (118 + c)
theorem ce_gen2 {cA : Nat → ClassId} {ad ad' : Nat → Nat} {sh sh' : SH} {σ σ' : St} {c c' : Nat} (hk : sh'.2.1 c' = sh.2.1 c) (h1 : gI σ' c' = gI σ c) (h2 : gJ σ' c' = gJ σ c) (h3 : gD σ' c' = gD σ c) (hr : ∀ j, (sh'.2.2 c' j).map ad' = (sh.2.2 c j).map ad) : ce cA ad' sh' σ' c' = ce cA ad sh σ c := by
  have e : ∀ t j, fv ad' sh' σ' c' t j = fv ad sh σ c t j := by
    intro t j
    simp only [fv, h1, h2, h3, hr]
  simp only [ce, hk, h1, h2, h3, e, hr]
theorem rg133 : List.range 133 = List.range 118 ++ (List.range 15).map (118 + ·) := by decide +kernel
theorem rg119 : List.range 119 = List.range 118 ++ (List.range 1).map (118 + ·) := by decide +kernel
theorem clC : ∀ c, c < 118 → ∀ j r, shC.2.2 c j = some r → r < 118 := by
  have h : ∀ c, c < 118 → ∀ j, j < 12 → (match shC.2.2 c j with | none => true | some r => decide (r < 118)) = true := by decide +kernel
  intro c hc j r e
  by_cases hj : j < 12
  · have := h c hc j hj
    rw [e] at this
    exact of_decide_eq_true this
  · rw [rb_C c j (by omega)] at e; cases e
theorem clR : ∀ c, c < 15 → ∀ j r, shR.2.2 c j = some r → r < 15 := by
  have h : ∀ c, c < 15 → ∀ j, j < 23 → (match shR.2.2 c j with | none => true | some r => decide (r < 15)) = true := by decide +kernel
  intro c hc j r e
  by_cases hj : j < 23
  · have := h c hc j hj
    rw [e] at this
    exact of_decide_eq_true this
  · rw [rb_R c j (by omega)] at e; cases e
theorem wd_agr {cA : Nat → ClassId} {ad ad' : Nat → Nat} {sh : SH} {σ : St} {n : Nat} (hn : sh.1 = n) (hcl : ∀ c, c < n → ∀ j r, sh.2.2 c j = some r → r < n) (h : agr n ad' ad) : wd cA ad' sh σ = wd cA ad sh σ := by
  unfold wd
  rw [hn]
  refine List.map_congr_left fun c hc => ?_
  have hc : c < n := List.mem_range.mp hc
  rw [h c hc]
  refine congrArg (Prod.mk (ad c)) (ce_gen rfl rfl rfl rfl (fun j => ?_))
  cases e : sh.2.2 c j with
  | none => rfl
  | some r => exact congrArg some (h r (hcl c hc j r e))
theorem wd_cat {cA : Nat → ClassId} {ad : Nat → Nat} {σ τ : St} : wd cA ad shB (cat σ τ) = wd cA ad shC σ ++ wd cA (sf ad) shR τ := by
  show (List.range 133).map _ = (List.range 118).map _ ++ (List.range 15).map _
  rw [rg133, List.map_append, List.map_map]
  congr 1
def z0 : St := (fun _ _ => 0, fun _ _ => 0, fun _ _ => 0)
theorem wd_new2 {cA : Nat → ClassId} {ad : Nat → Nat} {σ : St} : wd cA ad (addC shC 118 (.inl 5)) (zC σ 118) = wd cA ad shC σ ++ wd cA (sf ad) mS0 z0 := by
  show (List.range 119).map _ = (List.range 118).map _ ++ (List.range 1).map _
  rw [rg119, List.map_append, List.map_map]
  congr 1
theorem P_app {D : va_G} {w1 w2 : va_W} {H : Heap} : va_P D cls (w1 ++ w2) H ↔ va_P D cls w1 H ∧ va_P D cls w2 H := by
  refine ⟨fun h => ⟨fun k q hk => h k q ?_, fun k q hk => h (w1.length + k) q ?_⟩, fun h => h.1.app h.2⟩
  · rw [List.getElem?_append_left (List.getElem?_eq_some_iff.mp hk).1]; exact hk
  · rw [List.getElem?_append_right (by omega), show w1.length + k - w1.length = k by omega]; exact hk
theorem D_l {A : Nat → Prop} {w1 w2 : va_W} (h : va_D A (w1 ++ w2)) : va_D A w1 := by
  have at1 : ∀ {k : Nat} {q : Nat × va_E}, w1[k]? = some q → (w1 ++ w2)[k]? = some q := fun hk => by
    rw [List.getElem?_append_left (List.getElem?_eq_some_iff.mp hk).1]; exact hk
  exact ⟨fun i j p q hi hj e => h.1 i j p q (at1 hi) (at1 hj) e, fun k q hk => h.2 k q (at1 hk)⟩
theorem at2 {w1 w2 : va_W} {k : Nat} {q : Nat × va_E} (hk : w2[k]? = some q) : (w1 ++ w2)[w1.length + k]? = some q := by
  rw [List.getElem?_append_right (by omega), show w1.length + k - w1.length = k by omega]; exact hk
theorem D_r {A : Nat → Prop} {w1 w2 : va_W} (h : va_D A (w1 ++ w2)) : va_D A w2 :=
  ⟨fun i j p q hi hj e => by have := h.1 _ _ p q (at2 hi) (at2 hj) e; omega, fun k q hk => h.2 _ q (at2 hk)⟩
theorem D_ap {A : Nat → Prop} {w1 w2 : va_W} (h : va_D A (w1 ++ w2)) {i j : Nat} {p q : Nat × va_E} (hi : w1[i]? = some p) (hj : w2[j]? = some q) : p.1 ≠ q.1 := by
  intro e
  have l := (List.getElem?_eq_some_iff.mp hi).1
  have h1 : (w1 ++ w2)[i]? = some p := by rw [List.getElem?_append_left l]; exact hi
  have := h.1 i _ p q h1 (at2 hj) e
  omega
theorem D_cat {A : Nat → Prop} {w1 w2 : va_W} (h1 : va_D A w1) (h2 : va_D A w2) (h : ∀ (i j : Nat) (p q : Nat × va_E), w1[i]? = some p → w2[j]? = some q → p.1 ≠ q.1) : va_D A (w1 ++ w2) := by
  have sp : ∀ {k : Nat} {q : Nat × va_E}, (w1 ++ w2)[k]? = some q → (k < w1.length ∧ w1[k]? = some q) ∨ (w1.length ≤ k ∧ w2[k - w1.length]? = some q) := by
    intro k q hk
    rcases Nat.lt_or_ge k w1.length with g | g
    · rw [List.getElem?_append_left g] at hk; exact Or.inl ⟨g, hk⟩
    · rw [List.getElem?_append_right g] at hk; exact Or.inr ⟨g, hk⟩
  refine ⟨fun i j p q hi hj e => ?_, fun k q hk => ?_⟩
  · rcases sp hi with ⟨a, b⟩ | ⟨a, b⟩ <;> rcases sp hj with ⟨c, d⟩ | ⟨c, d⟩
    · exact h1.1 i j p q b d e
    · exact absurd e (h _ _ _ _ b d)
    · exact absurd e.symm (h _ _ _ _ d b)
    · have := h2.1 _ _ p q b d e; omega
  · rcases sp hk with ⟨a, b⟩ | ⟨a, b⟩
    · exact h1.2 _ q b
    · exact h2.2 _ q b
def Lws : List (Nat × Value) := [(0, .ref 1000)]
section LROWS
variable {p : Program} {l : Launch} {e : Env} {R : Room} {s : State} {m : MethodId} {args : Array Value} {below : List Frame} {meth : Method} {c : Code} {cc : ByteArray} {nL : Nat} {own : String} {D : va_G} {cA : Nat → ClassId} {A : Nat → Prop} {Q : State → Prop} {kc ks b : Nat} {sh : SH} {σ τ : St} {loc : List (Nat × Value)} {pc : Nat} {st : List Value}
theorem l_sld (X : Cx p R s m args meth c cc nL own D cA A) {L i : Nat} {xs : Nat → Int32} {x : Int32} (hX : va_X b L xs s s.heap) (hbl : b < s.heap.size) (hbA : ¬ A b) (hd : decode cc pc = .ok (.iaload, 1)) (hx : x = nI i) (hi : i < L) (hL : L < 2147483648)
    (k : G p l e R s m args below meth c nL D cA A Q kc ks (fun ad => ad 1000 = b) sh σ loc (pc + 1) (.int (xs i) :: st)) : G p l e R s m args below meth c nL D cA A Q kc ks (fun ad => ad 1000 = b) sh σ loc pc (.int x :: .ref 1000 :: st) := by
  intro ad H locs ls hAD hP hD hS hl
  subst hx
  show W p l e R s m args below meth c H locs kc ks Q (F0 m pc ls (.int (nI i) :: .ref (ad 1000) :: st.map (vm ad)))
  rw [show ad 1000 = b from hAD]
  refine va_sld (rest := st.map (vm ad)) X.1 X.2.1 hX hbl hbA hS (in_nI hi hL) hd ?_
  rw [show (nI i).toNatClampNeg = i from ix_nI (by omega)]
  exact k ad H locs ls hAD hP hD hS hl
theorem l_slen (X : Cx p R s m args meth c cc nL own D cA A) {L : Nat} {xs : Nat → Int32} (hX : va_X b L xs s s.heap) (hbl : b < s.heap.size) (hbA : ¬ A b) (hd : decode cc pc = .ok (.arraylength, 1))
    (k : G p l e R s m args below meth c nL D cA A Q kc ks (fun ad => ad 1000 = b) sh σ loc (pc + 1) (.int (nI L) :: st)) : G p l e R s m args below meth c nL D cA A Q kc ks (fun ad => ad 1000 = b) sh σ loc pc (.ref 1000 :: st) := by
  intro ad H locs ls hAD hP hD hS hl
  show W p l e R s m args below meth c H locs kc ks Q (F0 m pc ls (.ref (ad 1000) :: st.map (vm ad)))
  rw [show ad 1000 = b from hAD]
  exact va_slen (rest := st.map (vm ad)) X.1 X.2.1 hX hbl hbA hS hd (k ad H locs ls hAD hP hD hS hl)
theorem l_new (X : Cx p R s m args meth c cc nL own D cA A) {C : String} {T : u_T} {N ci index n : Nat} (ty0 : Nat → FieldType) (hd : decode cc pc = .ok (.new index, 3)) (hn : sh.1 = n) (hw : ∀ ad q, wd cA (adu ad n q) (addC sh n (.inl ci)) (zC σ n) = wd cA ad sh σ ++ [(q, ce cA (adu ad n q) (addC sh n (.inl ci)) (zC σ n) n)]) (hn0 : n < 1000) (hc : cls[ci]? = some (C, T, N)) (hN : nf ci = N) (hin : ∀ w ∈ u_ws C T N, w ∈ GW) (hty : ∀ k, k < N → parseFieldDescriptor (T k).2.2.1 = some (ty0 k)) (h1 : Cond.classLink own index C ∈ GW) (h2 : Cond.instantiable C N ∈ GW) (h3 : Cond.initialized C ∈ GW) (hdef : ∀ j, j < N → defaultValue (ty0 j) = defv (ft ci j)) (hlo : ∀ ad q, lm (adu ad n q) loc = lm ad loc) (hkc : kc + 1 ≤ R.cells) (hks : ks + N ≤ R.slots)
    (k : G p l e R s m args below meth c nL D cA A Q (kc + 1) (ks + N) (fun ad => ad 1000 = b) (addC sh n (.inl ci)) (zC σ n) loc (pc + 3) [.ref n]) : G p l e R s m args below meth c nL D cA A Q kc ks (fun ad => ad 1000 = b) sh σ loc pc [] := by
  intro ad H locs ls hAD hP hD hS hl
  subst hN
  have hce : ∀ q, ce cA (adu ad n q) (addC sh n (.inl ci)) (zC σ n) n = .inr (ci, (List.range (nf ci)).map (fun j => defv (ft ci j))) := by
    intro q
    rw [ce_o zK]
    refine congrArg (fun x => Sum.inr (ci, x)) (List.map_congr_left fun j _ => ?_)
    exact zfv _ _ _ _ _ _ _
  refine va_new (ci := ci) (fs := (List.range (nf ci)).map (fun j => defv (ft ci j))) (rest := []) X.1 X.2.1 X.2.2.2.2.1 hin ty0 hty X.2.2.2.1 (X.2.2.2.2.1 _ h1) (X.2.2.2.2.1 _ h2) (X.2.2.2.2.1 _ h3) X.2.2.2.2.2.2.1 hP hD hS X.2.2.2.2.2.2.2.2.1 hc ?_ hkc hks hd (fun q H1 hP1 hD1 hS1 => ?_)
  · intro j hj
    rw [hdef j hj]
    unfold vp_V
    simp [hj]
  · have ew := hw ad q
    rw [hce] at ew
    have := k (adu ad n q) H1 locs ls (by show adu ad n q 1000 = b; unfold adu; rw [if_neg (by omega)]; exact hAD) (by rw [ew]; exact hP1) (by rw [ew]; exact hD1) hS1 (by rw [hlo]; exact hl)
    rw [show [Value.ref n].map (vm (adu ad n q)) = [.ref q] from congrArg (fun x => [Value.ref x]) (adu_at ad n q)] at this
    exact this
theorem l_call1 (X : Cx p R s m args meth c cc nL own D cA A) (hAO : AO2 s) {y : MethodName} {bts : ByteArray} {maxL : Nat} {rm : Room} {index mc ms : Nat} {Qp : St → Prop} (hd : decode cc pc = .ok (.invokespecial index, 3)) (hM : CtN l y bts maxL rm D cA mc ms cS0 shC [.ref 0] σ Qp) (h1 : Cond.methodLink own index y ∈ GW) (h2 : Cond.instanceMethod y ∈ GW) (h4 : Cond.initialized y.cls ∈ GW) (h5 : Cond.code y bts maxL none ∈ GW) (hy : y.cls ≠ "java/lang/invoke/MethodHandle" ∧ y.cls ≠ "java/lang/invoke/VarHandle" ∧ (parseMethodDescriptor y.desc).map (fun d => d.parameters.length) = some 0) (hy1 : y.name = "<init>") (hrc : rm.cells = mc) (hrs : rm.slots = ms) (hR : rm.frames + 1 ≤ R.frames ∧ 8 + (maxL + 11) + rm.locals ≤ R.locals) (hkc : kc + mc ≤ R.cells) (hks : ks + ms ≤ R.slots)
    (kk : ∀ (σ1 : St), Qp σ1 → G p l e R s m args below meth c nL D cA A Q (kc + mc) (ks + ms) (fun ad => ad 1000 = b) shC σ1 [(0, .ref 1000)] (pc + 3) [.ref 0]) : G p l e R s m args below meth c nL D cA A Q kc ks (fun ad => ad 1000 = b) cS0 σ [(0, .ref 1000)] pc [.ref 0, .ref 0] := by
  intro ad H locs ls hAD hP hD hS hl
  have hpre : ∀ U : State, U.heap = H → s.WarmedH U.vm → PcN D cA ad cS0 H.size [.ref 0] σ (([.ref 0] : List Value).map (vm ad)).toArray U := fun U hU hW =>
    ⟨rfl, by rw [hU], by rw [hU]; exact hP, va_K.moved hW.alike X.2.2.2.2.2.2.1, nw_warm hW X.2.2.2.2.2.2.2.1, hD.weaken (fun _ _ _ _ => trivial), hAO.moved hW.alike⟩
  refine va_callv (va_runI (As := []) (b := ad 0) (rest := [.ref (ad 0)]) ⟨X.1, X.2.1, X.2.2.1, X.2.2.2.1, X.2.2.2.2.1⟩ (hM ad H.size) (cwI 0 X.2.2.2.2.1 (gw_wsy h5) rfl hrc hrs (X.2.2.2.2.1 _ h4) (X.2.2.2.2.1 _ h1) (X.2.2.2.2.1 _ h2) hy1 hy hR) ⟨PcN.blind, hpre⟩ rfl rfl hl.1 rfl (lv_room (Nat.le_of_ble_eq_true rfl)) hd ⟨hkc, hks⟩) hS (fun q _ h => aw_in X.2.2.2.2.2.2.2.2.1 hD hS q h) (aw_in X.2.2.2.2.2.2.2.2.1 hD hS) (fun u t H1 locs1 ht hvm hp hb hz hk2 hS1 => ?_)
  have e0 : u.1 0 = ad 0 := hp.1 0 (by decide)
  have hag : agr 118 (fun c => if c < 118 then u.1 c else ad c) u.1 := fun c hc => by show (if c < 118 then _ else _) = _; rw [if_pos hc]
  have ew : wd cA (fun c => if c < 118 then u.1 c else ad c) shC u.2 = wd cA u.1 shC u.2 := wd_agr rfl clC hag
  have hl2 : lm (fun c => if c < 118 then u.1 c else ad c) [(0, .ref 1000)] = lm ad [(0, .ref 1000)] := by
    show [(0, Value.ref (if 1000 < 118 then u.1 1000 else ad 1000))] = [(0, Value.ref (ad 1000))]
    rw [if_neg (by decide)]
  have := kk u.2 hp.2 (fun c => if c < 118 then u.1 c else ad c) H1 locs1 ls (by show (if 1000 < 118 then u.1 1000 else ad 1000) = b; rw [if_neg (by decide)]; exact hAD) (by rw [ew, ← ht]; exact hb.1) (by rw [ew]; exact aw_sub X.2.2.2.2.2.2.2.2.1 hD hS hb.2) hS1 (by rw [hl2]; exact hl)
  rw [show ([Value.ref 0] : List Value).map (vm (fun c => if c < 118 then u.1 c else ad c)) = [.ref (ad 0)] from by
    show [Value.ref (if 0 < 118 then u.1 0 else ad 0)] = _
    rw [if_pos (by decide), e0]] at this
  exact this
theorem kept_r {D : va_G} {w1 w2 : va_W} {H H1 : Heap} {A' : Nat → Prop} (hA' : ∀ q, A' q → (∃ (i : Nat) (p : Nat × va_E), w1[i]? = some p ∧ q = p.1) ∨ H.size ≤ q) (hD : va_D A (w1 ++ w2)) (hP : va_P D cls w2 H) (hk : ∀ q : Nat, q < H.size → ¬ A' q → H1[q]? = H[q]?) : va_P D cls w2 H1 := by
  refine hP.kept fun k x hx => ?_
  have hlt := (hP k x hx).lt
  refine hk x.1 hlt (fun z => ?_)
  rcases hA' _ z with ⟨i, p, hi, e⟩ | g
  · exact D_ap hD hi hx e.symm
  · omega
theorem kept_l {D : va_G} {w1 w2 : va_W} {H H1 : Heap} {A' : Nat → Prop} (hA' : ∀ q, A' q → (∃ (i : Nat) (p : Nat × va_E), w2[i]? = some p ∧ q = p.1) ∨ H.size ≤ q) (hD : va_D A (w1 ++ w2)) (hP : va_P D cls w1 H) (hk : ∀ q : Nat, q < H.size → ¬ A' q → H1[q]? = H[q]?) : va_P D cls w1 H1 := by
  refine hP.kept fun k x hx => ?_
  have hlt := (hP k x hx).lt
  refine hk x.1 hlt (fun z => ?_)
  rcases hA' _ z with ⟨i, p, hi, e⟩ | g
  · exact D_ap hD hx hi e
  · omega
theorem aw_at {ad : Nat → Nat} {H : Heap} : ∀ q, AW ad sh.1 H.size q → (∃ (i : Nat) (p : Nat × va_E), (wd cA ad sh σ)[i]? = some p ∧ q = p.1) ∨ H.size ≤ q := by
  intro q h
  rcases h with ⟨c, hc, e⟩ | h
  · exact Or.inl ⟨c, _, wd_at hc, e⟩
  · exact Or.inr h
theorem l_call2 (X : Cx p R s m args meth c cc nL own D cA A) (hAO : AO2 s) {y : MethodName} {bts : ByteArray} {maxL : Nat} {rm : Room} {index mc ms : Nat} {Qp : St → Prop} (hd : decode cc pc = .ok (.invokespecial index, 3)) (hM : CtN l y bts maxL rm D cA mc ms mS0 shR [.ref 0] z0 Qp) (h1 : Cond.methodLink own index y ∈ GW) (h2 : Cond.instanceMethod y ∈ GW) (h4 : Cond.initialized y.cls ∈ GW) (h5 : Cond.code y bts maxL none ∈ GW) (hy : y.cls ≠ "java/lang/invoke/MethodHandle" ∧ y.cls ≠ "java/lang/invoke/VarHandle" ∧ (parseMethodDescriptor y.desc).map (fun d => d.parameters.length) = some 0) (hy1 : y.name = "<init>") (hrc : rm.cells = mc) (hrs : rm.slots = ms) (hR : rm.frames + 1 ≤ R.frames ∧ 8 + (maxL + 11) + rm.locals ≤ R.locals) (hkc : kc + mc ≤ R.cells) (hks : ks + ms ≤ R.slots)
    (kk : ∀ (σ1 : St), Qp σ1 → G p l e R s m args below meth c nL D cA A Q (kc + mc) (ks + ms) (fun ad => ad 1000 = b) shB (cat σ σ1) [(1, .ref 0), (0, .ref 1000)] (pc + 3) [.ref 118]) : G p l e R s m args below meth c nL D cA A Q kc ks (fun ad => ad 1000 = b) (addC shC 118 (.inl 5)) (zC σ 118) [(1, .ref 0), (0, .ref 1000)] pc [.ref 118, .ref 118] := by
  intro ad H locs ls hAD hP hD hS hl
  rw [wd_new2] at hP hD
  have hP1 := P_app.mp hP
  have hD2 := D_r hD
  have hpre : ∀ U : State, U.heap = H → s.WarmedH U.vm → PcN D cA (sf ad) mS0 H.size [.ref 0] z0 (([.ref 0] : List Value).map (vm (sf ad))).toArray U := fun U hU hW =>
    ⟨rfl, by rw [hU], by rw [hU]; exact hP1.2, va_K.moved hW.alike X.2.2.2.2.2.2.1, nw_warm hW X.2.2.2.2.2.2.2.1, hD2.weaken (fun _ _ _ _ => trivial), hAO.moved hW.alike⟩
  refine va_callv (va_runI (As := []) (b := ad 118) (rest := [.ref (ad 118)]) ⟨X.1, X.2.1, X.2.2.1, X.2.2.2.1, X.2.2.2.2.1⟩ (hM (sf ad) H.size) (cwI 0 X.2.2.2.2.1 (gw_wsy h5) rfl hrc hrs (X.2.2.2.2.1 _ h4) (X.2.2.2.2.1 _ h1) (X.2.2.2.2.1 _ h2) hy1 hy hR) ⟨PcN.blind, hpre⟩ rfl rfl hl.1 rfl (lv_room (Nat.le_of_ble_eq_true rfl)) hd ⟨hkc, hks⟩) hS (fun q _ h => aw_in X.2.2.2.2.2.2.2.2.1 hD2 hS q h) (aw_in X.2.2.2.2.2.2.2.2.1 hD2 hS) (fun u t H1 locs1 ht hvm hp hb hz hk2 hS1 => ?_)
  have e0 : u.1 0 = ad 118 := hp.1 0 (by decide)
  have hPl := kept_l (A := A) (aw_at (sh := mS0)) hD hP1.1 hk2
  generalize hn : (fun c => if c < 118 then ad c else if c < 133 then u.1 (c - 118) else ad c) = ad'
  have a1 : agr 118 ad' ad := fun c hc => by rw [← hn]; show (if c < 118 then _ else _) = _; rw [if_pos hc]
  have a2 : agr 15 (sf ad') u.1 := fun c hc => by
    rw [← hn]
    show (if 118 + c < 118 then _ else if 118 + c < 133 then u.1 (118 + c - 118) else _) = _
    rw [if_neg (by omega), if_pos (by omega), show 118 + c - 118 = c by omega]
  have a3 : ad' 1000 = ad 1000 := by rw [← hn]; show (if 1000 < 118 then _ else if 1000 < 133 then _ else ad 1000) = _; rw [if_neg (by decide), if_neg (by decide)]
  have ew : wd cA ad' shB (cat σ u.2) = wd cA ad shC σ ++ wd cA u.1 shR u.2 := by
    rw [wd_cat, wd_agr (sh := shC) rfl clC a1, wd_agr (sh := shR) rfl clR a2]
  have hD3 : va_D A (wd cA u.1 shR u.2) := aw_sub X.2.2.2.2.2.2.2.2.1 hD2 hS hb.2
  have hap : ∀ (i j : Nat) (p q : Nat × va_E), (wd cA ad shC σ)[i]? = some p → (wd cA u.1 shR u.2)[j]? = some q → p.1 ≠ q.1 := by
    intro i j p q hi hj e
    rcases aw_at (σ := z0) (cA := cA) q.1 (hb.2.2 j q hj) with ⟨k, x, hx, e2⟩ | g
    · exact D_ap hD hi hx (e.trans e2)
    · have := (hP1.1 i p hi).lt
      omega
  have := kk u.2 hp.2 ad' H1 locs1 ls (a3.trans hAD) (by rw [ew]; exact P_app.mpr ⟨hPl, by rw [← ht]; exact hb.1⟩) (by rw [ew]; exact D_cat (D_l hD) hD3 hap) hS1 (by
    rw [show lm ad' [(1, .ref 0), (0, .ref 1000)] = lm ad [(1, .ref 0), (0, .ref 1000)] from by
      show [(1, Value.ref (ad' 0)), (0, Value.ref (ad' 1000))] = [(1, Value.ref (ad 0)), (0, Value.ref (ad 1000))]
      rw [a1 0 (by decide), a3]]
    exact hl)
  rw [show ([Value.ref 118] : List Value).map (vm ad') = [.ref (ad 118)] from by
    show [Value.ref (ad' 118)] = _
    have := a2 0 (by decide)
    rw [show ad' 118 = u.1 0 from this, e0]] at this
  exact this
def nor : List Value → Prop | [] => True | v :: t => (match v with | .ref _ => False | _ => True) ∧ nor t
theorem nor_map {ad : Nat → Nat} : ∀ {As : List Value}, nor As → As.map (vm ad) = As
  | [], _ => rfl
  | v :: t, h => by
    rw [List.map_cons, nor_map h.2]
    cases v <;> first | rfl | exact h.1.elim
theorem l_callIC (X : Cx p R s m args meth c cc nL own D cA A) {y : MethodName} {bts : ByteArray} {maxL : Nat} {ret : Option FieldType} {rm : Room} {C : String} {T : u_T} {N index n : Nat} {Qp : Int32 → St → Prop} (As rest : List Value) (hd : decode cc pc = .ok (.invokevirtual index, 3)) (hM : CtI l y bts maxL ret rm D cA shC (.ref 0 :: As) σ Qp) (h1 : Cond.methodLink own index y ∈ GW) (h2 : Cond.instanceMethod y ∈ GW) (h3 : Cond.selects C y y ∈ GW) (h4 : Cond.initialized C ∈ GW) (h5 : Cond.code y bts maxL ret ∈ GW) (hc : cls[4]? = some (C, T, N)) (hy : y.cls = C ∧ y.cls ≠ "java/lang/invoke/MethodHandle" ∧ y.cls ≠ "java/lang/invoke/VarHandle" ∧ (parseMethodDescriptor y.desc).map (fun d => d.parameters.length) = some n) (hn : As.length = n) (hno : nor As) (hst : st = As.reverse ++ .ref 0 :: rest) (hroom : (rest.map fun v => v.category).sum ≤ 8) (hrc : rm.cells = 0) (hrs : rm.slots = 0) (hR : rm.frames + 1 ≤ R.frames ∧ 8 + (maxL + 11) + rm.locals ≤ R.locals) (hkc : kc ≤ R.cells) (hks : ks ≤ R.slots)
    (kk : ∀ (r : Int32) (σ1 : St), Qp r σ1 → G p l e R s m args below meth c nL D cA A Q kc ks (fun ad => ad 1000 = b) shB (cat σ1 τ) loc (pc + 3) (.int r :: rest)) : G p l e R s m args below meth c nL D cA A Q kc ks (fun ad => ad 1000 = b) shB (cat σ τ) loc pc st := by
  intro ad H locs ls hAD hP hD hS hl
  subst hst
  rw [wd_cat] at hP hD
  have hP1 := P_app.mp hP
  have hD1 := D_l hD
  have hpre : ∀ U : State, U.heap = H → s.WarmedH U.vm → PcW D cA ad shC H.size (.ref 0 :: As) σ (Value.ref (ad 0) :: As).toArray U := fun U hU hW =>
    ⟨congrArg (fun x => (Value.ref (ad 0) :: x).toArray) (nor_map hno).symm, by rw [hU], by rw [hU]; exact hP1.1, va_K.moved hW.alike X.2.2.2.2.2.2.1, nw_warm hW X.2.2.2.2.2.2.2.1, hD1.weaken (fun _ _ _ _ => trivial)⟩
  refine va_calli (va_runV (As := As) (b := ad 0) (rest := rest.map (vm ad)) ⟨X.1, X.2.1, X.2.2.1, X.2.2.2.1, X.2.2.2.2.1⟩ (hM ad H.size) (cwV n X.2.2.2.2.1 (gw_wsV h1 h2 h3 h4 h5) rfl hrc hrs hy hR) ⟨PcW.blind, va_recv X.2.2.2.2.2.2.1 hP1.1 hc ((wd_at (sh := shC) (c := 0) (by decide)).trans (by rw [ce_o (sh := shC) (ci := 4) rfl])), hpre⟩ rfl hn hl.1 (by show ((As.reverse ++ Value.ref 0 :: rest).map (vm ad)) = _; rw [List.map_append, List.map_reverse, nor_map hno]; rfl) (lv_room (by rw [vm_sum]; exact hroom)) hd ⟨hkc, hks⟩) hS (fun q _ h => aw_in X.2.2.2.2.2.2.2.2.1 hD1 hS q h) (aw_in X.2.2.2.2.2.2.2.2.1 hD1 hS) (fun r u t H1 locs1 ht hvm hp hb hz hk2 hS1 => ?_)
  refine kk r u hp ad H1 locs1 ls hAD ?_ ?_ hS1 hl
  · rw [wd_cat]
    exact P_app.mpr ⟨by rw [← ht]; exact hb, kept_r (A := A) aw_at hD hP1.2 hk2⟩
  · rw [← wd_cat] at hD
    exact wd_D _ _ hD
theorem l_callIR (X : Cx p R s m args meth c cc nL own D cA A) {y : MethodName} {bts : ByteArray} {maxL : Nat} {ret : Option FieldType} {rm : Room} {C : String} {T : u_T} {N index n : Nat} {Qp : Int32 → St → Prop} (As rest : List Value) (hd : decode cc pc = .ok (.invokevirtual index, 3)) (hM : CtI l y bts maxL ret rm D cA shR (.ref 0 :: As) τ Qp) (h1 : Cond.methodLink own index y ∈ GW) (h2 : Cond.instanceMethod y ∈ GW) (h3 : Cond.selects C y y ∈ GW) (h4 : Cond.initialized C ∈ GW) (h5 : Cond.code y bts maxL ret ∈ GW) (hc : cls[5]? = some (C, T, N)) (hy : y.cls = C ∧ y.cls ≠ "java/lang/invoke/MethodHandle" ∧ y.cls ≠ "java/lang/invoke/VarHandle" ∧ (parseMethodDescriptor y.desc).map (fun d => d.parameters.length) = some n) (hn : As.length = n) (hno : nor As) (hst : st = As.reverse ++ .ref 118 :: rest) (hroom : (rest.map fun v => v.category).sum ≤ 8) (hrc : rm.cells = 0) (hrs : rm.slots = 0) (hR : rm.frames + 1 ≤ R.frames ∧ 8 + (maxL + 11) + rm.locals ≤ R.locals) (hkc : kc ≤ R.cells) (hks : ks ≤ R.slots)
    (kk : ∀ (r : Int32) (σ1 : St), Qp r σ1 → G p l e R s m args below meth c nL D cA A Q kc ks (fun ad => ad 1000 = b) shB (cat σ σ1) loc (pc + 3) (.int r :: rest)) : G p l e R s m args below meth c nL D cA A Q kc ks (fun ad => ad 1000 = b) shB (cat σ τ) loc pc st := by
  intro ad H locs ls hAD hP hD hS hl
  subst hst
  rw [wd_cat] at hP hD
  have hP1 := P_app.mp hP
  have hD1 := D_r hD
  have hpre : ∀ U : State, U.heap = H → s.WarmedH U.vm → PcW D cA (sf ad) shR H.size (.ref 0 :: As) τ (Value.ref (ad 118) :: As).toArray U := fun U hU hW =>
    ⟨congrArg (fun x => (Value.ref (ad 118) :: x).toArray) (nor_map hno).symm, by rw [hU], by rw [hU]; exact hP1.2, va_K.moved hW.alike X.2.2.2.2.2.2.1, nw_warm hW X.2.2.2.2.2.2.2.1, hD1.weaken (fun _ _ _ _ => trivial)⟩
  refine va_calli (va_runV (As := As) (b := ad 118) (rest := rest.map (vm ad)) ⟨X.1, X.2.1, X.2.2.1, X.2.2.2.1, X.2.2.2.2.1⟩ (hM (sf ad) H.size) (cwV n X.2.2.2.2.1 (gw_wsV h1 h2 h3 h4 h5) rfl hrc hrs hy hR) ⟨PcW.blind, va_recv X.2.2.2.2.2.2.1 hP1.2 hc ((wd_at (sh := shR) (c := 0) (by decide)).trans (by rw [ce_o (sh := shR) (ci := 5) rfl]; rfl)), hpre⟩ rfl hn hl.1 (by show ((As.reverse ++ Value.ref 118 :: rest).map (vm ad)) = _; rw [List.map_append, List.map_reverse, nor_map hno]; rfl) (lv_room (by rw [vm_sum]; exact hroom)) hd ⟨hkc, hks⟩) hS (fun q _ h => aw_in X.2.2.2.2.2.2.2.2.1 hD1 hS q h) (aw_in X.2.2.2.2.2.2.2.2.1 hD1 hS) (fun r u t H1 locs1 ht hvm hp hb hz hk2 hS1 => ?_)
  refine kk r u hp ad H1 locs1 ls hAD ?_ ?_ hS1 hl
  · rw [wd_cat]
    exact P_app.mpr ⟨kept_l (A := A) aw_at hD hP1.1 hk2, by rw [← ht]; exact hb⟩
  · rw [← wd_cat] at hD
    exact wd_D _ _ hD
theorem l_callLC (X : Cx p R s m args meth c cc nL own D cA A) {y : MethodName} {bts : ByteArray} {maxL : Nat} {ret : Option FieldType} {rm : Room} {C : String} {T : u_T} {N index n : Nat} {Qp : Int64 → St → Prop} (As rest : List Value) (hd : decode cc pc = .ok (.invokevirtual index, 3)) (hM : CtL l y bts maxL ret rm D cA shC (.ref 0 :: As) σ Qp) (h1 : Cond.methodLink own index y ∈ GW) (h2 : Cond.instanceMethod y ∈ GW) (h3 : Cond.selects C y y ∈ GW) (h4 : Cond.initialized C ∈ GW) (h5 : Cond.code y bts maxL ret ∈ GW) (hc : cls[4]? = some (C, T, N)) (hy : y.cls = C ∧ y.cls ≠ "java/lang/invoke/MethodHandle" ∧ y.cls ≠ "java/lang/invoke/VarHandle" ∧ (parseMethodDescriptor y.desc).map (fun d => d.parameters.length) = some n) (hn : As.length = n) (hno : nor As) (hst : st = As.reverse ++ .ref 0 :: rest) (hroom : (rest.map fun v => v.category).sum ≤ 8) (hrc : rm.cells = 0) (hrs : rm.slots = 0) (hR : rm.frames + 1 ≤ R.frames ∧ 8 + (maxL + 11) + rm.locals ≤ R.locals) (hkc : kc ≤ R.cells) (hks : ks ≤ R.slots)
    (kk : ∀ (r : Int64) (σ1 : St), Qp r σ1 → G p l e R s m args below meth c nL D cA A Q kc ks (fun ad => ad 1000 = b) shB (cat σ1 τ) loc (pc + 3) (.long r :: rest)) : G p l e R s m args below meth c nL D cA A Q kc ks (fun ad => ad 1000 = b) shB (cat σ τ) loc pc st := by
  intro ad H locs ls hAD hP hD hS hl
  subst hst
  rw [wd_cat] at hP hD
  have hP1 := P_app.mp hP
  have hD1 := D_l hD
  have hpre : ∀ U : State, U.heap = H → s.WarmedH U.vm → PcW D cA ad shC H.size (.ref 0 :: As) σ (Value.ref (ad 0) :: As).toArray U := fun U hU hW =>
    ⟨congrArg (fun x => (Value.ref (ad 0) :: x).toArray) (nor_map hno).symm, by rw [hU], by rw [hU]; exact hP1.1, va_K.moved hW.alike X.2.2.2.2.2.2.1, nw_warm hW X.2.2.2.2.2.2.2.1, hD1.weaken (fun _ _ _ _ => trivial)⟩
  refine va_calll (va_runV (As := As) (b := ad 0) (rest := rest.map (vm ad)) ⟨X.1, X.2.1, X.2.2.1, X.2.2.2.1, X.2.2.2.2.1⟩ (hM ad H.size) (cwV n X.2.2.2.2.1 (gw_wsV h1 h2 h3 h4 h5) rfl hrc hrs hy hR) ⟨PcW.blind, va_recv X.2.2.2.2.2.2.1 hP1.1 hc ((wd_at (sh := shC) (c := 0) (by decide)).trans (by rw [ce_o (sh := shC) (ci := 4) rfl])), hpre⟩ rfl hn hl.1 (by show ((As.reverse ++ Value.ref 0 :: rest).map (vm ad)) = _; rw [List.map_append, List.map_reverse, nor_map hno]; rfl) (lv_room (by rw [vm_sum]; exact hroom)) hd ⟨hkc, hks⟩) hS (fun q _ h => aw_in X.2.2.2.2.2.2.2.2.1 hD1 hS q h) (aw_in X.2.2.2.2.2.2.2.2.1 hD1 hS) (fun r u t H1 locs1 ht hvm hp hb hz hk2 hS1 => ?_)
  refine kk r u hp ad H1 locs1 ls hAD ?_ ?_ hS1 hl
  · rw [wd_cat]
    exact P_app.mpr ⟨by rw [← ht]; exact hb, kept_r (A := A) aw_at hD hP1.2 hk2⟩
  · rw [← wd_cat] at hD
    exact wd_D _ _ hD
theorem l_callLR (X : Cx p R s m args meth c cc nL own D cA A) {y : MethodName} {bts : ByteArray} {maxL : Nat} {ret : Option FieldType} {rm : Room} {C : String} {T : u_T} {N index n : Nat} {Qp : Int64 → St → Prop} (As rest : List Value) (hd : decode cc pc = .ok (.invokevirtual index, 3)) (hM : CtL l y bts maxL ret rm D cA shR (.ref 0 :: As) τ Qp) (h1 : Cond.methodLink own index y ∈ GW) (h2 : Cond.instanceMethod y ∈ GW) (h3 : Cond.selects C y y ∈ GW) (h4 : Cond.initialized C ∈ GW) (h5 : Cond.code y bts maxL ret ∈ GW) (hc : cls[5]? = some (C, T, N)) (hy : y.cls = C ∧ y.cls ≠ "java/lang/invoke/MethodHandle" ∧ y.cls ≠ "java/lang/invoke/VarHandle" ∧ (parseMethodDescriptor y.desc).map (fun d => d.parameters.length) = some n) (hn : As.length = n) (hno : nor As) (hst : st = As.reverse ++ .ref 118 :: rest) (hroom : (rest.map fun v => v.category).sum ≤ 8) (hrc : rm.cells = 0) (hrs : rm.slots = 0) (hR : rm.frames + 1 ≤ R.frames ∧ 8 + (maxL + 11) + rm.locals ≤ R.locals) (hkc : kc ≤ R.cells) (hks : ks ≤ R.slots)
    (kk : ∀ (r : Int64) (σ1 : St), Qp r σ1 → G p l e R s m args below meth c nL D cA A Q kc ks (fun ad => ad 1000 = b) shB (cat σ σ1) loc (pc + 3) (.long r :: rest)) : G p l e R s m args below meth c nL D cA A Q kc ks (fun ad => ad 1000 = b) shB (cat σ τ) loc pc st := by
  intro ad H locs ls hAD hP hD hS hl
  subst hst
  rw [wd_cat] at hP hD
  have hP1 := P_app.mp hP
  have hD1 := D_r hD
  have hpre : ∀ U : State, U.heap = H → s.WarmedH U.vm → PcW D cA (sf ad) shR H.size (.ref 0 :: As) τ (Value.ref (ad 118) :: As).toArray U := fun U hU hW =>
    ⟨congrArg (fun x => (Value.ref (ad 118) :: x).toArray) (nor_map hno).symm, by rw [hU], by rw [hU]; exact hP1.2, va_K.moved hW.alike X.2.2.2.2.2.2.1, nw_warm hW X.2.2.2.2.2.2.2.1, hD1.weaken (fun _ _ _ _ => trivial)⟩
  refine va_calll (va_runV (As := As) (b := ad 118) (rest := rest.map (vm ad)) ⟨X.1, X.2.1, X.2.2.1, X.2.2.2.1, X.2.2.2.2.1⟩ (hM (sf ad) H.size) (cwV n X.2.2.2.2.1 (gw_wsV h1 h2 h3 h4 h5) rfl hrc hrs hy hR) ⟨PcW.blind, va_recv X.2.2.2.2.2.2.1 hP1.2 hc ((wd_at (sh := shR) (c := 0) (by decide)).trans (by rw [ce_o (sh := shR) (ci := 5) rfl]; rfl)), hpre⟩ rfl hn hl.1 (by show ((As.reverse ++ Value.ref 118 :: rest).map (vm ad)) = _; rw [List.map_append, List.map_reverse, nor_map hno]; rfl) (lv_room (by rw [vm_sum]; exact hroom)) hd ⟨hkc, hks⟩) hS (fun q _ h => aw_in X.2.2.2.2.2.2.2.2.1 hD1 hS q h) (aw_in X.2.2.2.2.2.2.2.2.1 hD1 hS) (fun r u t H1 locs1 ht hvm hp hb hz hk2 hS1 => ?_)
  refine kk r u hp ad H1 locs1 ls hAD ?_ ?_ hS1 hl
  · rw [wd_cat]
    exact P_app.mpr ⟨kept_l (A := A) aw_at hD hP1.1 hk2, by rw [← ht]; exact hb⟩
  · rw [← wd_cat] at hD
    exact wd_D _ _ hD
theorem l_callDC (X : Cx p R s m args meth c cc nL own D cA A) {y : MethodName} {bts : ByteArray} {maxL : Nat} {ret : Option FieldType} {rm : Room} {C : String} {T : u_T} {N index n : Nat} {Qp : UInt64 → St → Prop} (As rest : List Value) (hd : decode cc pc = .ok (.invokevirtual index, 3)) (hM : CtD l y bts maxL ret rm D cA shC (.ref 0 :: As) σ Qp) (h1 : Cond.methodLink own index y ∈ GW) (h2 : Cond.instanceMethod y ∈ GW) (h3 : Cond.selects C y y ∈ GW) (h4 : Cond.initialized C ∈ GW) (h5 : Cond.code y bts maxL ret ∈ GW) (hc : cls[4]? = some (C, T, N)) (hy : y.cls = C ∧ y.cls ≠ "java/lang/invoke/MethodHandle" ∧ y.cls ≠ "java/lang/invoke/VarHandle" ∧ (parseMethodDescriptor y.desc).map (fun d => d.parameters.length) = some n) (hn : As.length = n) (hno : nor As) (hst : st = As.reverse ++ .ref 0 :: rest) (hroom : (rest.map fun v => v.category).sum ≤ 8) (hrc : rm.cells = 0) (hrs : rm.slots = 0) (hR : rm.frames + 1 ≤ R.frames ∧ 8 + (maxL + 11) + rm.locals ≤ R.locals) (hkc : kc ≤ R.cells) (hks : ks ≤ R.slots)
    (kk : ∀ (r : UInt64) (σ1 : St), Qp r σ1 → G p l e R s m args below meth c nL D cA A Q kc ks (fun ad => ad 1000 = b) shB (cat σ1 τ) loc (pc + 3) (.double r :: rest)) : G p l e R s m args below meth c nL D cA A Q kc ks (fun ad => ad 1000 = b) shB (cat σ τ) loc pc st := by
  intro ad H locs ls hAD hP hD hS hl
  subst hst
  rw [wd_cat] at hP hD
  have hP1 := P_app.mp hP
  have hD1 := D_l hD
  have hpre : ∀ U : State, U.heap = H → s.WarmedH U.vm → PcW D cA ad shC H.size (.ref 0 :: As) σ (Value.ref (ad 0) :: As).toArray U := fun U hU hW =>
    ⟨congrArg (fun x => (Value.ref (ad 0) :: x).toArray) (nor_map hno).symm, by rw [hU], by rw [hU]; exact hP1.1, va_K.moved hW.alike X.2.2.2.2.2.2.1, nw_warm hW X.2.2.2.2.2.2.2.1, hD1.weaken (fun _ _ _ _ => trivial)⟩
  refine va_calld (va_runV (As := As) (b := ad 0) (rest := rest.map (vm ad)) ⟨X.1, X.2.1, X.2.2.1, X.2.2.2.1, X.2.2.2.2.1⟩ (hM ad H.size) (cwV n X.2.2.2.2.1 (gw_wsV h1 h2 h3 h4 h5) rfl hrc hrs hy hR) ⟨PcW.blind, va_recv X.2.2.2.2.2.2.1 hP1.1 hc ((wd_at (sh := shC) (c := 0) (by decide)).trans (by rw [ce_o (sh := shC) (ci := 4) rfl])), hpre⟩ rfl hn hl.1 (by show ((As.reverse ++ Value.ref 0 :: rest).map (vm ad)) = _; rw [List.map_append, List.map_reverse, nor_map hno]; rfl) (lv_room (by rw [vm_sum]; exact hroom)) hd ⟨hkc, hks⟩) hS (fun q _ h => aw_in X.2.2.2.2.2.2.2.2.1 hD1 hS q h) (aw_in X.2.2.2.2.2.2.2.2.1 hD1 hS) (fun r u t H1 locs1 ht hvm hp hb hz hk2 hS1 => ?_)
  refine kk r u hp ad H1 locs1 ls hAD ?_ ?_ hS1 hl
  · rw [wd_cat]
    exact P_app.mpr ⟨by rw [← ht]; exact hb, kept_r (A := A) aw_at hD hP1.2 hk2⟩
  · rw [← wd_cat] at hD
    exact wd_D _ _ hD
theorem l_callDR (X : Cx p R s m args meth c cc nL own D cA A) {y : MethodName} {bts : ByteArray} {maxL : Nat} {ret : Option FieldType} {rm : Room} {C : String} {T : u_T} {N index n : Nat} {Qp : UInt64 → St → Prop} (As rest : List Value) (hd : decode cc pc = .ok (.invokevirtual index, 3)) (hM : CtD l y bts maxL ret rm D cA shR (.ref 0 :: As) τ Qp) (h1 : Cond.methodLink own index y ∈ GW) (h2 : Cond.instanceMethod y ∈ GW) (h3 : Cond.selects C y y ∈ GW) (h4 : Cond.initialized C ∈ GW) (h5 : Cond.code y bts maxL ret ∈ GW) (hc : cls[5]? = some (C, T, N)) (hy : y.cls = C ∧ y.cls ≠ "java/lang/invoke/MethodHandle" ∧ y.cls ≠ "java/lang/invoke/VarHandle" ∧ (parseMethodDescriptor y.desc).map (fun d => d.parameters.length) = some n) (hn : As.length = n) (hno : nor As) (hst : st = As.reverse ++ .ref 118 :: rest) (hroom : (rest.map fun v => v.category).sum ≤ 8) (hrc : rm.cells = 0) (hrs : rm.slots = 0) (hR : rm.frames + 1 ≤ R.frames ∧ 8 + (maxL + 11) + rm.locals ≤ R.locals) (hkc : kc ≤ R.cells) (hks : ks ≤ R.slots)
    (kk : ∀ (r : UInt64) (σ1 : St), Qp r σ1 → G p l e R s m args below meth c nL D cA A Q kc ks (fun ad => ad 1000 = b) shB (cat σ σ1) loc (pc + 3) (.double r :: rest)) : G p l e R s m args below meth c nL D cA A Q kc ks (fun ad => ad 1000 = b) shB (cat σ τ) loc pc st := by
  intro ad H locs ls hAD hP hD hS hl
  subst hst
  rw [wd_cat] at hP hD
  have hP1 := P_app.mp hP
  have hD1 := D_r hD
  have hpre : ∀ U : State, U.heap = H → s.WarmedH U.vm → PcW D cA (sf ad) shR H.size (.ref 0 :: As) τ (Value.ref (ad 118) :: As).toArray U := fun U hU hW =>
    ⟨congrArg (fun x => (Value.ref (ad 118) :: x).toArray) (nor_map hno).symm, by rw [hU], by rw [hU]; exact hP1.2, va_K.moved hW.alike X.2.2.2.2.2.2.1, nw_warm hW X.2.2.2.2.2.2.2.1, hD1.weaken (fun _ _ _ _ => trivial)⟩
  refine va_calld (va_runV (As := As) (b := ad 118) (rest := rest.map (vm ad)) ⟨X.1, X.2.1, X.2.2.1, X.2.2.2.1, X.2.2.2.2.1⟩ (hM (sf ad) H.size) (cwV n X.2.2.2.2.1 (gw_wsV h1 h2 h3 h4 h5) rfl hrc hrs hy hR) ⟨PcW.blind, va_recv X.2.2.2.2.2.2.1 hP1.2 hc ((wd_at (sh := shR) (c := 0) (by decide)).trans (by rw [ce_o (sh := shR) (ci := 5) rfl]; rfl)), hpre⟩ rfl hn hl.1 (by show ((As.reverse ++ Value.ref 118 :: rest).map (vm ad)) = _; rw [List.map_append, List.map_reverse, nor_map hno]; rfl) (lv_room (by rw [vm_sum]; exact hroom)) hd ⟨hkc, hks⟩) hS (fun q _ h => aw_in X.2.2.2.2.2.2.2.2.1 hD1 hS q h) (aw_in X.2.2.2.2.2.2.2.2.1 hD1 hS) (fun r u t H1 locs1 ht hvm hp hb hz hk2 hS1 => ?_)
  refine kk r u hp ad H1 locs1 ls hAD ?_ ?_ hS1 hl
  · rw [wd_cat]
    exact P_app.mpr ⟨kept_l (A := A) aw_at hD hP1.1 hk2, by rw [← ht]; exact hb⟩
  · rw [← wd_cat] at hD
    exact wd_D _ _ hD
end LROWS
