/-! contracts over the pure picture, and calls -/
def AW (ad : Nat → Nat) (n sz : Nat) : Nat → Prop := fun q => (∃ c, c < n ∧ q = ad c) ∨ sz ≤ q
def PcW (D : va_G) (cA : Nat → ClassId) (ad : Nat → Nat) (sh : SH) (sz : Nat) (av : List Value) (σ : St) : Array Value → State → Prop := va_Pc (av.map (vm ad)) (fun U => U.heap.size = sz ∧ va_P D cls (wd cA ad sh σ) U.heap ∧ va_K D cls (tysA cA) U ∧ (∀ w ∈ NW, va_Nw w U) ∧ va_D (fun _ => True) (wd cA ad sh σ))
def EndW (D : va_G) (cA : Nat → ClassId) (ad : Nat → Nat) (sh : SH) (σ' : St) (t : State) : Prop := va_P D cls (wd cA ad sh σ') t.heap
theorem PcW.blind {D : va_G} {cA : Nat → ClassId} {ad : Nat → Nat} {sh : SH} {sz : Nat} {av : List Value} {σ : St} : FrameBlind (PcW D cA ad sh sz av σ) := by
  intro a U g mk h
  obtain ⟨h1, h2, h3, h4, h5, h6⟩ := h
  exact ⟨h1, h2, h3, va_K.moved (u := U) (U := U.calling g mk a) (Vm.Alike.refl U.vm) h4, nw_call h5, h6⟩
theorem lm_args (ad : Nat → Nat) (av : List Value) : ∀ i, lv_args i (av.map (vm ad)) = lm ad (lv_args i av) := by
  induction av with
  | nil => intro i; rfl
  | cons v t ih =>
    intro i
    show (i, vm ad v) :: lv_args (if (vm ad v).category = 2 then i + 2 else i + 1) (t.map (vm ad)) = (i, vm ad v) :: lm ad (lv_args (if v.category = 2 then i + 2 else i + 1) t)
    rw [vm_cat, ih]
theorem sl_len (ad : Nat → Nat) (av : List Value) : (lg_sl (av.map (vm ad))).length = (lg_sl av).length := by
  induction av with
  | nil => rfl
  | cons v t ih =>
    have h1 : (lg_sl ((v :: t).map (vm ad))).length = (if (vm ad v).category = 2 then [Slot.val (vm ad v), Slot.second] else [Slot.val (vm ad v)]).length + (lg_sl (t.map (vm ad))).length := by simp [lg_sl]
    have h2 : (lg_sl (v :: t)).length = (if v.category = 2 then [Slot.val v, Slot.second] else [Slot.val v]).length + (lg_sl t).length := by simp [lg_sl]
    rw [h1, h2, ih, vm_cat]
    split <;> rfl
/-- a method's walk as its contract, also where only the method, not its whole class, is one that no native runs for -/
theorem met_ofF {l : Launch} {y : MethodName} {ws ws' : List Cond} {rm : Room} {Pc : Array Value → State → Prop} {Qc : Array Value → State → Outcome → State → Prop} {mc ms : Nat} {free : Addr → Prop} {cc : ByteArray} {maxL : Nat} {ret : Option FieldType}
    (hy : plainFor y = true) (hw : ws = Cond.code y cc maxL ret :: ws')
    (body : ∀ p e s m args below meth c s₁, BodyLoose p l y (headSpec ws rm) cc maxL ret e s m args below meth c s₁ → c.maxLocals = maxL → Pc args s → W p l e (headSpec ws rm).room s m args below meth c s.heap [] 0 0 (MQ below Qc args s mc ms free) (entryFrame m args maxL)) : Met l y ws rm Pc Qc mc ms free := by
  refine MetFree.of_bodySF (code := cc) (maxLocals := maxL) (ret := ret) hy (fun args s m h hn => ?_) (fun p e s m args below meth c s₁ B hml hP _ => ?_)
  · obtain ⟨meth, c, h1, h2, h3, h4, h5, h6, -, -⟩ := Cond.code_spec hn (atoms_spec (ws := ws) h _ (by rw [hw]; exact List.mem_cons_self))
    exact ⟨meth, c, h1, h2, h3, h4, h5, h6⟩
  · obtain ⟨t, a1, o, b1, b2, b3⟩ := body p e s m args below meth c s₁ B hml hP s₁ (by rw [B.state]; rfl) (Stand.of_body B)
    exact ⟨t, o, a1, b1, b2, ⟨b3.1, b3.2⟩⟩
def CtI (l : Launch) (y : MethodName) (b : ByteArray) (n : Nat) (ret : Option FieldType) (rm : Room) (D : va_G) (cA : Nat → ClassId) (sh : SH) (av : List Value) (σ : St) (Qp : Int32 → St → Prop) : Prop := ∀ ad sz, Met l y (wsy y b n ret) rm (PcW D cA ad sh sz av σ) (va_Qi Qp (EndW D cA ad sh) (AW ad sh.1 sz)) 0 0 (AW ad sh.1 sz)
theorem CtI.of {l : Launch} {y : MethodName} {cc : ByteArray} {n : Nat} {ret : Option FieldType} {rm : Room} {D : va_G} {cA : Nat → ClassId} {sh : SH} {av : List Value} {σ : St} {Qp : Int32 → St → Prop} {own : String} (hown : y.cls = own) (hpl : plainFor y = true) (loc : List (Nat × Value)) (hloc : lv_args 0 av = loc) (hlen : (lg_sl av).length ≤ n)
    (body : ∀ (p : Program) (e : Env) (s : State) (m : MethodId) (args : Array Value) (below : List Frame) (meth : Method) (c : Code) (ad0 : Nat → Nat) (A : Nat → Prop), Cx p rm s m args meth c cc n own D cA A → meth.sig.returnType = ret → G p l e rm s m args below meth c n D cA A (MQ below (va_Qi Qp (EndW D cA ad0 sh) A) args s 0 0 A) 0 0 (fun ad => ad = ad0) sh σ loc 0 []) : CtI l y cc n ret rm D cA sh av σ Qp := by
  subst hown
  intro ad sz
  refine met_ofF (cc := cc) (maxL := n) (ret := ret) hpl rfl ?_
  intro p e s m args below meth c s₁ B hml hv
  obtain ⟨rfl, hsz, hP, hK, hN, hD0⟩ := hv
  subst hsz
  have hts := atoms_spec (ws := wsy y cc n ret) B.pre
  have X : Cx p rm s m ((av.map (vm ad)).toArray) meth c cc n y.cls D cA (AW ad sh.1 s.heap.size) := ⟨B.exec, B.bytes, hml, findClass_of_methodNamed B.named, fun w hw => hts w (List.mem_cons_of_mem _ hw), B.notSynchronized, hK, hN, fun q h => Or.inr h, Nat.le_add_left _ _⟩
  have hk := body p e s m _ below meth c ad (AW ad sh.1 s.heap.size) X B.returns
  rw [lg_entry_eq]
  have hD : va_D (AW ad sh.1 s.heap.size) (wd cA ad sh σ) := ⟨hD0.1, fun k q hq => by obtain ⟨lk, rfl⟩ := wd_inv hq; exact Or.inl ⟨k, lk, rfl⟩⟩
  refine hk ad s.heap [] _ rfl hP hD va_S.rf ?_
  have h1 := lv_entry (av.map (vm ad)) (n := n) (by rw [sl_len]; exact hlen)
  rw [lm_args, hloc] at h1
  exact h1
def CtL (l : Launch) (y : MethodName) (b : ByteArray) (n : Nat) (ret : Option FieldType) (rm : Room) (D : va_G) (cA : Nat → ClassId) (sh : SH) (av : List Value) (σ : St) (Qp : Int64 → St → Prop) : Prop := ∀ ad sz, Met l y (wsy y b n ret) rm (PcW D cA ad sh sz av σ) (va_Ql Qp (EndW D cA ad sh) (AW ad sh.1 sz)) 0 0 (AW ad sh.1 sz)
theorem CtL.of {l : Launch} {y : MethodName} {cc : ByteArray} {n : Nat} {ret : Option FieldType} {rm : Room} {D : va_G} {cA : Nat → ClassId} {sh : SH} {av : List Value} {σ : St} {Qp : Int64 → St → Prop} {own : String} (hown : y.cls = own) (hpl : plainFor y = true) (loc : List (Nat × Value)) (hloc : lv_args 0 av = loc) (hlen : (lg_sl av).length ≤ n)
    (body : ∀ (p : Program) (e : Env) (s : State) (m : MethodId) (args : Array Value) (below : List Frame) (meth : Method) (c : Code) (ad0 : Nat → Nat) (A : Nat → Prop), Cx p rm s m args meth c cc n own D cA A → meth.sig.returnType = ret → G p l e rm s m args below meth c n D cA A (MQ below (va_Ql Qp (EndW D cA ad0 sh) A) args s 0 0 A) 0 0 (fun ad => ad = ad0) sh σ loc 0 []) : CtL l y cc n ret rm D cA sh av σ Qp := by
  subst hown
  intro ad sz
  refine met_ofF (cc := cc) (maxL := n) (ret := ret) hpl rfl ?_
  intro p e s m args below meth c s₁ B hml hv
  obtain ⟨rfl, hsz, hP, hK, hN, hD0⟩ := hv
  subst hsz
  have hts := atoms_spec (ws := wsy y cc n ret) B.pre
  have X : Cx p rm s m ((av.map (vm ad)).toArray) meth c cc n y.cls D cA (AW ad sh.1 s.heap.size) := ⟨B.exec, B.bytes, hml, findClass_of_methodNamed B.named, fun w hw => hts w (List.mem_cons_of_mem _ hw), B.notSynchronized, hK, hN, fun q h => Or.inr h, Nat.le_add_left _ _⟩
  have hk := body p e s m _ below meth c ad (AW ad sh.1 s.heap.size) X B.returns
  rw [lg_entry_eq]
  have hD : va_D (AW ad sh.1 s.heap.size) (wd cA ad sh σ) := ⟨hD0.1, fun k q hq => by obtain ⟨lk, rfl⟩ := wd_inv hq; exact Or.inl ⟨k, lk, rfl⟩⟩
  refine hk ad s.heap [] _ rfl hP hD va_S.rf ?_
  have h1 := lv_entry (av.map (vm ad)) (n := n) (by rw [sl_len]; exact hlen)
  rw [lm_args, hloc] at h1
  exact h1
def CtD (l : Launch) (y : MethodName) (b : ByteArray) (n : Nat) (ret : Option FieldType) (rm : Room) (D : va_G) (cA : Nat → ClassId) (sh : SH) (av : List Value) (σ : St) (Qp : UInt64 → St → Prop) : Prop := ∀ ad sz, Met l y (wsy y b n ret) rm (PcW D cA ad sh sz av σ) (va_Qd Qp (EndW D cA ad sh) (AW ad sh.1 sz)) 0 0 (AW ad sh.1 sz)
theorem CtD.of {l : Launch} {y : MethodName} {cc : ByteArray} {n : Nat} {ret : Option FieldType} {rm : Room} {D : va_G} {cA : Nat → ClassId} {sh : SH} {av : List Value} {σ : St} {Qp : UInt64 → St → Prop} {own : String} (hown : y.cls = own) (hpl : plainFor y = true) (loc : List (Nat × Value)) (hloc : lv_args 0 av = loc) (hlen : (lg_sl av).length ≤ n)
    (body : ∀ (p : Program) (e : Env) (s : State) (m : MethodId) (args : Array Value) (below : List Frame) (meth : Method) (c : Code) (ad0 : Nat → Nat) (A : Nat → Prop), Cx p rm s m args meth c cc n own D cA A → meth.sig.returnType = ret → G p l e rm s m args below meth c n D cA A (MQ below (va_Qd Qp (EndW D cA ad0 sh) A) args s 0 0 A) 0 0 (fun ad => ad = ad0) sh σ loc 0 []) : CtD l y cc n ret rm D cA sh av σ Qp := by
  subst hown
  intro ad sz
  refine met_ofF (cc := cc) (maxL := n) (ret := ret) hpl rfl ?_
  intro p e s m args below meth c s₁ B hml hv
  obtain ⟨rfl, hsz, hP, hK, hN, hD0⟩ := hv
  subst hsz
  have hts := atoms_spec (ws := wsy y cc n ret) B.pre
  have X : Cx p rm s m ((av.map (vm ad)).toArray) meth c cc n y.cls D cA (AW ad sh.1 s.heap.size) := ⟨B.exec, B.bytes, hml, findClass_of_methodNamed B.named, fun w hw => hts w (List.mem_cons_of_mem _ hw), B.notSynchronized, hK, hN, fun q h => Or.inr h, Nat.le_add_left _ _⟩
  have hk := body p e s m _ below meth c ad (AW ad sh.1 s.heap.size) X B.returns
  rw [lg_entry_eq]
  have hD : va_D (AW ad sh.1 s.heap.size) (wd cA ad sh σ) := ⟨hD0.1, fun k q hq => by obtain ⟨lk, rfl⟩ := wd_inv hq; exact Or.inl ⟨k, lk, rfl⟩⟩
  refine hk ad s.heap [] _ rfl hP hD va_S.rf ?_
  have h1 := lv_entry (av.map (vm ad)) (n := n) (by rw [sl_len]; exact hlen)
  rw [lm_args, hloc] at h1
  exact h1
def CtV (l : Launch) (y : MethodName) (b : ByteArray) (n : Nat) (ret : Option FieldType) (rm : Room) (D : va_G) (cA : Nat → ClassId) (sh : SH) (av : List Value) (σ : St) (Qp : St → Prop) : Prop := ∀ ad sz, Met l y (wsy y b n ret) rm (PcW D cA ad sh sz av σ) (va_Qv Qp (EndW D cA ad sh) (AW ad sh.1 sz)) 0 0 (AW ad sh.1 sz)
theorem CtV.of {l : Launch} {y : MethodName} {cc : ByteArray} {n : Nat} {ret : Option FieldType} {rm : Room} {D : va_G} {cA : Nat → ClassId} {sh : SH} {av : List Value} {σ : St} {Qp : St → Prop} {own : String} (hown : y.cls = own) (hpl : plainFor y = true) (loc : List (Nat × Value)) (hloc : lv_args 0 av = loc) (hlen : (lg_sl av).length ≤ n)
    (body : ∀ (p : Program) (e : Env) (s : State) (m : MethodId) (args : Array Value) (below : List Frame) (meth : Method) (c : Code) (ad0 : Nat → Nat) (A : Nat → Prop), Cx p rm s m args meth c cc n own D cA A → meth.sig.returnType = ret → G p l e rm s m args below meth c n D cA A (MQ below (va_Qv Qp (EndW D cA ad0 sh) A) args s 0 0 A) 0 0 (fun ad => ad = ad0) sh σ loc 0 []) : CtV l y cc n ret rm D cA sh av σ Qp := by
  subst hown
  intro ad sz
  refine met_ofF (cc := cc) (maxL := n) (ret := ret) hpl rfl ?_
  intro p e s m args below meth c s₁ B hml hv
  obtain ⟨rfl, hsz, hP, hK, hN, hD0⟩ := hv
  subst hsz
  have hts := atoms_spec (ws := wsy y cc n ret) B.pre
  have X : Cx p rm s m ((av.map (vm ad)).toArray) meth c cc n y.cls D cA (AW ad sh.1 s.heap.size) := ⟨B.exec, B.bytes, hml, findClass_of_methodNamed B.named, fun w hw => hts w (List.mem_cons_of_mem _ hw), B.notSynchronized, hK, hN, fun q h => Or.inr h, Nat.le_add_left _ _⟩
  have hk := body p e s m _ below meth c ad (AW ad sh.1 s.heap.size) X B.returns
  rw [lg_entry_eq]
  have hD : va_D (AW ad sh.1 s.heap.size) (wd cA ad sh σ) := ⟨hD0.1, fun k q hq => by obtain ⟨lk, rfl⟩ := wd_inv hq; exact Or.inl ⟨k, lk, rfl⟩⟩
  refine hk ad s.heap [] _ rfl hP hD va_S.rf ?_
  have h1 := lv_entry (av.map (vm ad)) (n := n) (by rw [sl_len]; exact hlen)
  rw [lm_args, hloc] at h1
  exact h1
section GCALL
variable {p : Program} {l : Launch} {e : Env} {R : Room} {s : State} {m : MethodId} {args : Array Value} {below : List Frame} {meth : Method} {c : Code} {cc : ByteArray} {nL : Nat} {own : String} {D : va_G} {cA : Nat → ClassId} {A : Nat → Prop} {Q : State → Prop} {kc ks : Nat} {AD : (Nat → Nat) → Prop} {sh : SH} {σ : St} {loc : List (Nat × Value)} {pc : Nat} {st : List Value}
theorem aw_in {ad : Nat → Nat} {H0 H : Heap} {locs : List Loc} (hA : ∀ q, H0.size ≤ q → A q) (hD : va_D A (wd cA ad sh σ)) (hS : va_S A H0 H locs) : ∀ q, AW ad sh.1 H.size q → A q := by
  intro q h
  rcases h with ⟨k, hk, rfl⟩ | h
  · exact hD.2 k (ad k, ce cA ad sh σ k) (wd_at hk)
  · exact hA q (Nat.le_trans hS.1 h)
theorem pre_in (X : Cx p R s m args meth c cc nL own D cA A) {ad : Nat → Nat} {H : Heap} {av : List Value} (hP : va_P D cls (wd cA ad sh σ) H) (hD : va_D A (wd cA ad sh σ)) : ∀ U : State, U.heap = H → s.WarmedH U.vm → PcW D cA ad sh H.size av σ (av.map (vm ad)).toArray U := fun U hU hW =>
  ⟨rfl, by rw [hU], by rw [hU]; exact hP, va_K.moved hW.alike X.2.2.2.2.2.2.1, nw_warm hW X.2.2.2.2.2.2.2.1, hD.weaken (fun _ _ _ _ => trivial)⟩
theorem g_callVI (X : Cx p R s m args meth c cc nL own D cA A) {y : MethodName} {bts : ByteArray} {maxL : Nat} {ret : Option FieldType} {rm : Room} {C : String} {T : u_T} {N b0 ci index n : Nat} {Qp : Int32 → St → Prop} (As rest : List Value) (hd : decode cc pc = .ok (.invokevirtual index, 3)) (hM : CtI l y bts maxL ret rm D cA sh (.ref b0 :: As) σ Qp) (h1 : Cond.methodLink own index y ∈ GW) (h2 : Cond.instanceMethod y ∈ GW) (h3 : Cond.selects C y y ∈ GW) (h4 : Cond.initialized C ∈ GW) (h5 : Cond.code y bts maxL ret ∈ GW) (hb : b0 < sh.1) (hk : sh.2.1 b0 = .inl ci) (hc : cls[ci]? = some (C, T, N)) (hy : y.cls = C ∧ y.cls ≠ "java/lang/invoke/MethodHandle" ∧ y.cls ≠ "java/lang/invoke/VarHandle" ∧ (parseMethodDescriptor y.desc).map (fun d => d.parameters.length) = some n) (hn : As.length = n) (hst : st = As.reverse ++ .ref b0 :: rest) (hroom : (rest.map fun v => v.category).sum ≤ 8) (hrc : rm.cells = 0) (hrs : rm.slots = 0) (hR : rm.frames + 1 ≤ R.frames ∧ 8 + (maxL + 11) + rm.locals ≤ R.locals) (hkc : kc ≤ R.cells) (hks : ks ≤ R.slots)
    (kk : ∀ (r : Int32) (σ1 : St), Qp r σ1 → G p l e R s m args below meth c nL D cA A Q kc ks AD sh σ1 loc (pc + 3) (.int r :: rest)) : G p l e R s m args below meth c nL D cA A Q kc ks AD sh σ loc pc st := by
  intro ad H locs ls hAD hP hD hS hl
  subst hst
  refine va_calli (va_runV (As := As.map (vm ad)) (b := ad b0) (rest := rest.map (vm ad)) ⟨X.1, X.2.1, X.2.2.1, X.2.2.2.1, X.2.2.2.2.1⟩ (hM ad H.size) (cwV n X.2.2.2.2.1 (gw_wsV h1 h2 h3 h4 h5) rfl hrc hrs hy hR) ⟨PcW.blind, va_recv X.2.2.2.2.2.2.1 hP hc ((wd_at hb).trans (by rw [ce_o hk])), pre_in X hP hD⟩ rfl (by rw [List.length_map]; exact hn) hl.1 (by show ((As.reverse ++ Value.ref b0 :: rest).map (vm ad)) = _; simp [List.map_append, List.map_reverse, vm]) (lv_room (by rw [vm_sum]; exact hroom)) hd ⟨hkc, hks⟩) hS (fun q _ h => aw_in X.2.2.2.2.2.2.2.2.1 hD hS q h) (aw_in X.2.2.2.2.2.2.2.2.1 hD hS) (fun r u t H1 locs1 ht hvm hp hb hz hk2 hS1 => kk r u hp ad H1 locs1 ls hAD (by rw [← ht]; exact hb) (wd_D _ _ hD) hS1 hl)
theorem g_callSI (X : Cx p R s m args meth c cc nL own D cA A) {y : MethodName} {bts : ByteArray} {maxL : Nat} {ret : Option FieldType} {rm : Room} {index n : Nat} {Qp : Int32 → St → Prop} (As rest : List Value) (hd : decode cc pc = .ok (.invokestatic index, 3)) (hM : CtI l y bts maxL ret rm D cA sh As σ Qp) (h1 : Cond.methodLink own index y ∈ GW) (h2 : Cond.static y ∈ GW) (h4 : Cond.initialized y.cls ∈ GW) (h5 : Cond.code y bts maxL ret ∈ GW) (hy : y.cls ≠ "java/lang/invoke/MethodHandle" ∧ y.cls ≠ "java/lang/invoke/VarHandle" ∧ (parseMethodDescriptor y.desc).map (fun d => d.parameters.length) = some n) (hn : As.length = n) (hst : st = As.reverse ++ rest) (hroom : (rest.map fun v => v.category).sum ≤ 8) (hrc : rm.cells = 0) (hrs : rm.slots = 0) (hR : rm.frames + 1 ≤ R.frames ∧ 8 + (maxL + 11) + rm.locals ≤ R.locals) (hkc : kc ≤ R.cells) (hks : ks ≤ R.slots)
    (kk : ∀ (r : Int32) (σ1 : St), Qp r σ1 → G p l e R s m args below meth c nL D cA A Q kc ks AD sh σ1 loc (pc + 3) (.int r :: rest)) : G p l e R s m args below meth c nL D cA A Q kc ks AD sh σ loc pc st := by
  intro ad H locs ls hAD hP hD hS hl
  subst hst
  refine va_calli (va_runS (As := As.map (vm ad)) (rest := rest.map (vm ad)) ⟨X.1, X.2.1, X.2.2.1, X.2.2.2.1, X.2.2.2.2.1⟩ (hM ad H.size) (va_cwS n X.2.2.2.2.1 (gw_wsS h1 h2 h4 h5) rfl hrc hrs hy hR) ⟨PcW.blind, pre_in X hP hD⟩ rfl (by rw [List.length_map]; exact hn) hl.1 (by show ((As.reverse ++ rest).map (vm ad)) = _; simp [List.map_append, List.map_reverse]) (lv_room (by rw [vm_sum]; exact hroom)) hd ⟨hkc, hks⟩) hS (fun q _ h => aw_in X.2.2.2.2.2.2.2.2.1 hD hS q h) (aw_in X.2.2.2.2.2.2.2.2.1 hD hS) (fun r u t H1 locs1 ht hvm hp hb hz hk2 hS1 => kk r u hp ad H1 locs1 ls hAD (by rw [← ht]; exact hb) (wd_D _ _ hD) hS1 hl)
theorem g_callNI (X : Cx p R s m args meth c cc nL own D cA A) {y : MethodName} {bts : ByteArray} {maxL : Nat} {ret : Option FieldType} {rm : Room} {host : String} {index n : Nat} {Qp : Int32 → St → Prop} (As rest : List Value) (hd : decode cc pc = .ok (.invokestatic index, 3)) (hM : CtI l y bts maxL ret rm D cA sh As σ Qp) (h1 : Cond.methodLinkNest own index y host ∈ NW) (h2 : Cond.static y ∈ GW) (h4 : Cond.initialized y.cls ∈ GW) (h5 : Cond.code y bts maxL ret ∈ GW) (hy : y.cls ≠ "java/lang/invoke/MethodHandle" ∧ y.cls ≠ "java/lang/invoke/VarHandle" ∧ (parseMethodDescriptor y.desc).map (fun d => d.parameters.length) = some n) (hn : As.length = n) (hst : st = As.reverse ++ rest) (hroom : (rest.map fun v => v.category).sum ≤ 8) (hrc : rm.cells = 0) (hrs : rm.slots = 0) (hR : rm.frames + 1 ≤ R.frames ∧ 8 + (maxL + 11) + rm.locals ≤ R.locals) (hkc : kc ≤ R.cells) (hks : ks ≤ R.slots)
    (kk : ∀ (r : Int32) (σ1 : St), Qp r σ1 → G p l e R s m args below meth c nL D cA A Q kc ks AD sh σ1 loc (pc + 3) (.int r :: rest)) : G p l e R s m args below meth c nL D cA A Q kc ks AD sh σ loc pc st := by
  intro ad H locs ls hAD hP hD hS hl
  subst hst
  refine va_calli (va_runSN (As := As.map (vm ad)) (rest := rest.map (vm ad)) ⟨X.1, X.2.1, X.2.2.1, X.2.2.2.1, X.2.2.2.2.1⟩ (hM ad H.size) ⟨va_cnB n X.2.2.2.2.1 (gw_wsy h5) rfl hrc hrs (X.2.2.2.2.2.2.2.1 _ h1) (X.2.2.2.2.1 _ h4) hy hR, X.2.2.2.2.1 _ h2, trivial⟩ ⟨PcW.blind, pre_in X hP hD⟩ rfl (by rw [List.length_map]; exact hn) hl.1 (by show ((As.reverse ++ rest).map (vm ad)) = _; simp [List.map_append, List.map_reverse]) (lv_room (by rw [vm_sum]; exact hroom)) hd ⟨hkc, hks⟩) hS (fun q _ h => aw_in X.2.2.2.2.2.2.2.2.1 hD hS q h) (aw_in X.2.2.2.2.2.2.2.2.1 hD hS) (fun r u t H1 locs1 ht hvm hp hb hz hk2 hS1 => kk r u hp ad H1 locs1 ls hAD (by rw [← ht]; exact hb) (wd_D _ _ hD) hS1 hl)
theorem g_callVL (X : Cx p R s m args meth c cc nL own D cA A) {y : MethodName} {bts : ByteArray} {maxL : Nat} {ret : Option FieldType} {rm : Room} {C : String} {T : u_T} {N b0 ci index n : Nat} {Qp : Int64 → St → Prop} (As rest : List Value) (hd : decode cc pc = .ok (.invokevirtual index, 3)) (hM : CtL l y bts maxL ret rm D cA sh (.ref b0 :: As) σ Qp) (h1 : Cond.methodLink own index y ∈ GW) (h2 : Cond.instanceMethod y ∈ GW) (h3 : Cond.selects C y y ∈ GW) (h4 : Cond.initialized C ∈ GW) (h5 : Cond.code y bts maxL ret ∈ GW) (hb : b0 < sh.1) (hk : sh.2.1 b0 = .inl ci) (hc : cls[ci]? = some (C, T, N)) (hy : y.cls = C ∧ y.cls ≠ "java/lang/invoke/MethodHandle" ∧ y.cls ≠ "java/lang/invoke/VarHandle" ∧ (parseMethodDescriptor y.desc).map (fun d => d.parameters.length) = some n) (hn : As.length = n) (hst : st = As.reverse ++ .ref b0 :: rest) (hroom : (rest.map fun v => v.category).sum ≤ 8) (hrc : rm.cells = 0) (hrs : rm.slots = 0) (hR : rm.frames + 1 ≤ R.frames ∧ 8 + (maxL + 11) + rm.locals ≤ R.locals) (hkc : kc ≤ R.cells) (hks : ks ≤ R.slots)
    (kk : ∀ (r : Int64) (σ1 : St), Qp r σ1 → G p l e R s m args below meth c nL D cA A Q kc ks AD sh σ1 loc (pc + 3) (.long r :: rest)) : G p l e R s m args below meth c nL D cA A Q kc ks AD sh σ loc pc st := by
  intro ad H locs ls hAD hP hD hS hl
  subst hst
  refine va_calll (va_runV (As := As.map (vm ad)) (b := ad b0) (rest := rest.map (vm ad)) ⟨X.1, X.2.1, X.2.2.1, X.2.2.2.1, X.2.2.2.2.1⟩ (hM ad H.size) (cwV n X.2.2.2.2.1 (gw_wsV h1 h2 h3 h4 h5) rfl hrc hrs hy hR) ⟨PcW.blind, va_recv X.2.2.2.2.2.2.1 hP hc ((wd_at hb).trans (by rw [ce_o hk])), pre_in X hP hD⟩ rfl (by rw [List.length_map]; exact hn) hl.1 (by show ((As.reverse ++ Value.ref b0 :: rest).map (vm ad)) = _; simp [List.map_append, List.map_reverse, vm]) (lv_room (by rw [vm_sum]; exact hroom)) hd ⟨hkc, hks⟩) hS (fun q _ h => aw_in X.2.2.2.2.2.2.2.2.1 hD hS q h) (aw_in X.2.2.2.2.2.2.2.2.1 hD hS) (fun r u t H1 locs1 ht hvm hp hb hz hk2 hS1 => kk r u hp ad H1 locs1 ls hAD (by rw [← ht]; exact hb) (wd_D _ _ hD) hS1 hl)
theorem g_callSL (X : Cx p R s m args meth c cc nL own D cA A) {y : MethodName} {bts : ByteArray} {maxL : Nat} {ret : Option FieldType} {rm : Room} {index n : Nat} {Qp : Int64 → St → Prop} (As rest : List Value) (hd : decode cc pc = .ok (.invokestatic index, 3)) (hM : CtL l y bts maxL ret rm D cA sh As σ Qp) (h1 : Cond.methodLink own index y ∈ GW) (h2 : Cond.static y ∈ GW) (h4 : Cond.initialized y.cls ∈ GW) (h5 : Cond.code y bts maxL ret ∈ GW) (hy : y.cls ≠ "java/lang/invoke/MethodHandle" ∧ y.cls ≠ "java/lang/invoke/VarHandle" ∧ (parseMethodDescriptor y.desc).map (fun d => d.parameters.length) = some n) (hn : As.length = n) (hst : st = As.reverse ++ rest) (hroom : (rest.map fun v => v.category).sum ≤ 8) (hrc : rm.cells = 0) (hrs : rm.slots = 0) (hR : rm.frames + 1 ≤ R.frames ∧ 8 + (maxL + 11) + rm.locals ≤ R.locals) (hkc : kc ≤ R.cells) (hks : ks ≤ R.slots)
    (kk : ∀ (r : Int64) (σ1 : St), Qp r σ1 → G p l e R s m args below meth c nL D cA A Q kc ks AD sh σ1 loc (pc + 3) (.long r :: rest)) : G p l e R s m args below meth c nL D cA A Q kc ks AD sh σ loc pc st := by
  intro ad H locs ls hAD hP hD hS hl
  subst hst
  refine va_calll (va_runS (As := As.map (vm ad)) (rest := rest.map (vm ad)) ⟨X.1, X.2.1, X.2.2.1, X.2.2.2.1, X.2.2.2.2.1⟩ (hM ad H.size) (va_cwS n X.2.2.2.2.1 (gw_wsS h1 h2 h4 h5) rfl hrc hrs hy hR) ⟨PcW.blind, pre_in X hP hD⟩ rfl (by rw [List.length_map]; exact hn) hl.1 (by show ((As.reverse ++ rest).map (vm ad)) = _; simp [List.map_append, List.map_reverse]) (lv_room (by rw [vm_sum]; exact hroom)) hd ⟨hkc, hks⟩) hS (fun q _ h => aw_in X.2.2.2.2.2.2.2.2.1 hD hS q h) (aw_in X.2.2.2.2.2.2.2.2.1 hD hS) (fun r u t H1 locs1 ht hvm hp hb hz hk2 hS1 => kk r u hp ad H1 locs1 ls hAD (by rw [← ht]; exact hb) (wd_D _ _ hD) hS1 hl)
theorem g_callNL (X : Cx p R s m args meth c cc nL own D cA A) {y : MethodName} {bts : ByteArray} {maxL : Nat} {ret : Option FieldType} {rm : Room} {host : String} {index n : Nat} {Qp : Int64 → St → Prop} (As rest : List Value) (hd : decode cc pc = .ok (.invokestatic index, 3)) (hM : CtL l y bts maxL ret rm D cA sh As σ Qp) (h1 : Cond.methodLinkNest own index y host ∈ NW) (h2 : Cond.static y ∈ GW) (h4 : Cond.initialized y.cls ∈ GW) (h5 : Cond.code y bts maxL ret ∈ GW) (hy : y.cls ≠ "java/lang/invoke/MethodHandle" ∧ y.cls ≠ "java/lang/invoke/VarHandle" ∧ (parseMethodDescriptor y.desc).map (fun d => d.parameters.length) = some n) (hn : As.length = n) (hst : st = As.reverse ++ rest) (hroom : (rest.map fun v => v.category).sum ≤ 8) (hrc : rm.cells = 0) (hrs : rm.slots = 0) (hR : rm.frames + 1 ≤ R.frames ∧ 8 + (maxL + 11) + rm.locals ≤ R.locals) (hkc : kc ≤ R.cells) (hks : ks ≤ R.slots)
    (kk : ∀ (r : Int64) (σ1 : St), Qp r σ1 → G p l e R s m args below meth c nL D cA A Q kc ks AD sh σ1 loc (pc + 3) (.long r :: rest)) : G p l e R s m args below meth c nL D cA A Q kc ks AD sh σ loc pc st := by
  intro ad H locs ls hAD hP hD hS hl
  subst hst
  refine va_calll (va_runSN (As := As.map (vm ad)) (rest := rest.map (vm ad)) ⟨X.1, X.2.1, X.2.2.1, X.2.2.2.1, X.2.2.2.2.1⟩ (hM ad H.size) ⟨va_cnB n X.2.2.2.2.1 (gw_wsy h5) rfl hrc hrs (X.2.2.2.2.2.2.2.1 _ h1) (X.2.2.2.2.1 _ h4) hy hR, X.2.2.2.2.1 _ h2, trivial⟩ ⟨PcW.blind, pre_in X hP hD⟩ rfl (by rw [List.length_map]; exact hn) hl.1 (by show ((As.reverse ++ rest).map (vm ad)) = _; simp [List.map_append, List.map_reverse]) (lv_room (by rw [vm_sum]; exact hroom)) hd ⟨hkc, hks⟩) hS (fun q _ h => aw_in X.2.2.2.2.2.2.2.2.1 hD hS q h) (aw_in X.2.2.2.2.2.2.2.2.1 hD hS) (fun r u t H1 locs1 ht hvm hp hb hz hk2 hS1 => kk r u hp ad H1 locs1 ls hAD (by rw [← ht]; exact hb) (wd_D _ _ hD) hS1 hl)
theorem g_callVD (X : Cx p R s m args meth c cc nL own D cA A) {y : MethodName} {bts : ByteArray} {maxL : Nat} {ret : Option FieldType} {rm : Room} {C : String} {T : u_T} {N b0 ci index n : Nat} {Qp : UInt64 → St → Prop} (As rest : List Value) (hd : decode cc pc = .ok (.invokevirtual index, 3)) (hM : CtD l y bts maxL ret rm D cA sh (.ref b0 :: As) σ Qp) (h1 : Cond.methodLink own index y ∈ GW) (h2 : Cond.instanceMethod y ∈ GW) (h3 : Cond.selects C y y ∈ GW) (h4 : Cond.initialized C ∈ GW) (h5 : Cond.code y bts maxL ret ∈ GW) (hb : b0 < sh.1) (hk : sh.2.1 b0 = .inl ci) (hc : cls[ci]? = some (C, T, N)) (hy : y.cls = C ∧ y.cls ≠ "java/lang/invoke/MethodHandle" ∧ y.cls ≠ "java/lang/invoke/VarHandle" ∧ (parseMethodDescriptor y.desc).map (fun d => d.parameters.length) = some n) (hn : As.length = n) (hst : st = As.reverse ++ .ref b0 :: rest) (hroom : (rest.map fun v => v.category).sum ≤ 8) (hrc : rm.cells = 0) (hrs : rm.slots = 0) (hR : rm.frames + 1 ≤ R.frames ∧ 8 + (maxL + 11) + rm.locals ≤ R.locals) (hkc : kc ≤ R.cells) (hks : ks ≤ R.slots)
    (kk : ∀ (r : UInt64) (σ1 : St), Qp r σ1 → G p l e R s m args below meth c nL D cA A Q kc ks AD sh σ1 loc (pc + 3) (.double r :: rest)) : G p l e R s m args below meth c nL D cA A Q kc ks AD sh σ loc pc st := by
  intro ad H locs ls hAD hP hD hS hl
  subst hst
  refine va_calld (va_runV (As := As.map (vm ad)) (b := ad b0) (rest := rest.map (vm ad)) ⟨X.1, X.2.1, X.2.2.1, X.2.2.2.1, X.2.2.2.2.1⟩ (hM ad H.size) (cwV n X.2.2.2.2.1 (gw_wsV h1 h2 h3 h4 h5) rfl hrc hrs hy hR) ⟨PcW.blind, va_recv X.2.2.2.2.2.2.1 hP hc ((wd_at hb).trans (by rw [ce_o hk])), pre_in X hP hD⟩ rfl (by rw [List.length_map]; exact hn) hl.1 (by show ((As.reverse ++ Value.ref b0 :: rest).map (vm ad)) = _; simp [List.map_append, List.map_reverse, vm]) (lv_room (by rw [vm_sum]; exact hroom)) hd ⟨hkc, hks⟩) hS (fun q _ h => aw_in X.2.2.2.2.2.2.2.2.1 hD hS q h) (aw_in X.2.2.2.2.2.2.2.2.1 hD hS) (fun r u t H1 locs1 ht hvm hp hb hz hk2 hS1 => kk r u hp ad H1 locs1 ls hAD (by rw [← ht]; exact hb) (wd_D _ _ hD) hS1 hl)
theorem g_callSD (X : Cx p R s m args meth c cc nL own D cA A) {y : MethodName} {bts : ByteArray} {maxL : Nat} {ret : Option FieldType} {rm : Room} {index n : Nat} {Qp : UInt64 → St → Prop} (As rest : List Value) (hd : decode cc pc = .ok (.invokestatic index, 3)) (hM : CtD l y bts maxL ret rm D cA sh As σ Qp) (h1 : Cond.methodLink own index y ∈ GW) (h2 : Cond.static y ∈ GW) (h4 : Cond.initialized y.cls ∈ GW) (h5 : Cond.code y bts maxL ret ∈ GW) (hy : y.cls ≠ "java/lang/invoke/MethodHandle" ∧ y.cls ≠ "java/lang/invoke/VarHandle" ∧ (parseMethodDescriptor y.desc).map (fun d => d.parameters.length) = some n) (hn : As.length = n) (hst : st = As.reverse ++ rest) (hroom : (rest.map fun v => v.category).sum ≤ 8) (hrc : rm.cells = 0) (hrs : rm.slots = 0) (hR : rm.frames + 1 ≤ R.frames ∧ 8 + (maxL + 11) + rm.locals ≤ R.locals) (hkc : kc ≤ R.cells) (hks : ks ≤ R.slots)
    (kk : ∀ (r : UInt64) (σ1 : St), Qp r σ1 → G p l e R s m args below meth c nL D cA A Q kc ks AD sh σ1 loc (pc + 3) (.double r :: rest)) : G p l e R s m args below meth c nL D cA A Q kc ks AD sh σ loc pc st := by
  intro ad H locs ls hAD hP hD hS hl
  subst hst
  refine va_calld (va_runS (As := As.map (vm ad)) (rest := rest.map (vm ad)) ⟨X.1, X.2.1, X.2.2.1, X.2.2.2.1, X.2.2.2.2.1⟩ (hM ad H.size) (va_cwS n X.2.2.2.2.1 (gw_wsS h1 h2 h4 h5) rfl hrc hrs hy hR) ⟨PcW.blind, pre_in X hP hD⟩ rfl (by rw [List.length_map]; exact hn) hl.1 (by show ((As.reverse ++ rest).map (vm ad)) = _; simp [List.map_append, List.map_reverse]) (lv_room (by rw [vm_sum]; exact hroom)) hd ⟨hkc, hks⟩) hS (fun q _ h => aw_in X.2.2.2.2.2.2.2.2.1 hD hS q h) (aw_in X.2.2.2.2.2.2.2.2.1 hD hS) (fun r u t H1 locs1 ht hvm hp hb hz hk2 hS1 => kk r u hp ad H1 locs1 ls hAD (by rw [← ht]; exact hb) (wd_D _ _ hD) hS1 hl)
theorem g_callND (X : Cx p R s m args meth c cc nL own D cA A) {y : MethodName} {bts : ByteArray} {maxL : Nat} {ret : Option FieldType} {rm : Room} {host : String} {index n : Nat} {Qp : UInt64 → St → Prop} (As rest : List Value) (hd : decode cc pc = .ok (.invokestatic index, 3)) (hM : CtD l y bts maxL ret rm D cA sh As σ Qp) (h1 : Cond.methodLinkNest own index y host ∈ NW) (h2 : Cond.static y ∈ GW) (h4 : Cond.initialized y.cls ∈ GW) (h5 : Cond.code y bts maxL ret ∈ GW) (hy : y.cls ≠ "java/lang/invoke/MethodHandle" ∧ y.cls ≠ "java/lang/invoke/VarHandle" ∧ (parseMethodDescriptor y.desc).map (fun d => d.parameters.length) = some n) (hn : As.length = n) (hst : st = As.reverse ++ rest) (hroom : (rest.map fun v => v.category).sum ≤ 8) (hrc : rm.cells = 0) (hrs : rm.slots = 0) (hR : rm.frames + 1 ≤ R.frames ∧ 8 + (maxL + 11) + rm.locals ≤ R.locals) (hkc : kc ≤ R.cells) (hks : ks ≤ R.slots)
    (kk : ∀ (r : UInt64) (σ1 : St), Qp r σ1 → G p l e R s m args below meth c nL D cA A Q kc ks AD sh σ1 loc (pc + 3) (.double r :: rest)) : G p l e R s m args below meth c nL D cA A Q kc ks AD sh σ loc pc st := by
  intro ad H locs ls hAD hP hD hS hl
  subst hst
  refine va_calld (va_runSN (As := As.map (vm ad)) (rest := rest.map (vm ad)) ⟨X.1, X.2.1, X.2.2.1, X.2.2.2.1, X.2.2.2.2.1⟩ (hM ad H.size) ⟨va_cnB n X.2.2.2.2.1 (gw_wsy h5) rfl hrc hrs (X.2.2.2.2.2.2.2.1 _ h1) (X.2.2.2.2.1 _ h4) hy hR, X.2.2.2.2.1 _ h2, trivial⟩ ⟨PcW.blind, pre_in X hP hD⟩ rfl (by rw [List.length_map]; exact hn) hl.1 (by show ((As.reverse ++ rest).map (vm ad)) = _; simp [List.map_append, List.map_reverse]) (lv_room (by rw [vm_sum]; exact hroom)) hd ⟨hkc, hks⟩) hS (fun q _ h => aw_in X.2.2.2.2.2.2.2.2.1 hD hS q h) (aw_in X.2.2.2.2.2.2.2.2.1 hD hS) (fun r u t H1 locs1 ht hvm hp hb hz hk2 hS1 => kk r u hp ad H1 locs1 ls hAD (by rw [← ht]; exact hb) (wd_D _ _ hD) hS1 hl)
theorem g_callVV (X : Cx p R s m args meth c cc nL own D cA A) {y : MethodName} {bts : ByteArray} {maxL : Nat} {ret : Option FieldType} {rm : Room} {C : String} {T : u_T} {N b0 ci index n : Nat} {Qp : St → Prop} (As rest : List Value) (hd : decode cc pc = .ok (.invokevirtual index, 3)) (hM : CtV l y bts maxL ret rm D cA sh (.ref b0 :: As) σ Qp) (h1 : Cond.methodLink own index y ∈ GW) (h2 : Cond.instanceMethod y ∈ GW) (h3 : Cond.selects C y y ∈ GW) (h4 : Cond.initialized C ∈ GW) (h5 : Cond.code y bts maxL ret ∈ GW) (hb : b0 < sh.1) (hk : sh.2.1 b0 = .inl ci) (hc : cls[ci]? = some (C, T, N)) (hy : y.cls = C ∧ y.cls ≠ "java/lang/invoke/MethodHandle" ∧ y.cls ≠ "java/lang/invoke/VarHandle" ∧ (parseMethodDescriptor y.desc).map (fun d => d.parameters.length) = some n) (hn : As.length = n) (hst : st = As.reverse ++ .ref b0 :: rest) (hroom : (rest.map fun v => v.category).sum ≤ 8) (hrc : rm.cells = 0) (hrs : rm.slots = 0) (hR : rm.frames + 1 ≤ R.frames ∧ 8 + (maxL + 11) + rm.locals ≤ R.locals) (hkc : kc ≤ R.cells) (hks : ks ≤ R.slots)
    (kk : ∀ (σ1 : St), Qp σ1 → G p l e R s m args below meth c nL D cA A Q kc ks AD sh σ1 loc (pc + 3) rest) : G p l e R s m args below meth c nL D cA A Q kc ks AD sh σ loc pc st := by
  intro ad H locs ls hAD hP hD hS hl
  subst hst
  refine va_callv (va_runV (As := As.map (vm ad)) (b := ad b0) (rest := rest.map (vm ad)) ⟨X.1, X.2.1, X.2.2.1, X.2.2.2.1, X.2.2.2.2.1⟩ (hM ad H.size) (cwV n X.2.2.2.2.1 (gw_wsV h1 h2 h3 h4 h5) rfl hrc hrs hy hR) ⟨PcW.blind, va_recv X.2.2.2.2.2.2.1 hP hc ((wd_at hb).trans (by rw [ce_o hk])), pre_in X hP hD⟩ rfl (by rw [List.length_map]; exact hn) hl.1 (by show ((As.reverse ++ Value.ref b0 :: rest).map (vm ad)) = _; simp [List.map_append, List.map_reverse, vm]) (lv_room (by rw [vm_sum]; exact hroom)) hd ⟨hkc, hks⟩) hS (fun q _ h => aw_in X.2.2.2.2.2.2.2.2.1 hD hS q h) (aw_in X.2.2.2.2.2.2.2.2.1 hD hS) (fun u t H1 locs1 ht hvm hp hb hz hk2 hS1 => kk u hp ad H1 locs1 ls hAD (by rw [← ht]; exact hb) (wd_D _ _ hD) hS1 hl)
theorem g_callSV (X : Cx p R s m args meth c cc nL own D cA A) {y : MethodName} {bts : ByteArray} {maxL : Nat} {ret : Option FieldType} {rm : Room} {index n : Nat} {Qp : St → Prop} (As rest : List Value) (hd : decode cc pc = .ok (.invokestatic index, 3)) (hM : CtV l y bts maxL ret rm D cA sh As σ Qp) (h1 : Cond.methodLink own index y ∈ GW) (h2 : Cond.static y ∈ GW) (h4 : Cond.initialized y.cls ∈ GW) (h5 : Cond.code y bts maxL ret ∈ GW) (hy : y.cls ≠ "java/lang/invoke/MethodHandle" ∧ y.cls ≠ "java/lang/invoke/VarHandle" ∧ (parseMethodDescriptor y.desc).map (fun d => d.parameters.length) = some n) (hn : As.length = n) (hst : st = As.reverse ++ rest) (hroom : (rest.map fun v => v.category).sum ≤ 8) (hrc : rm.cells = 0) (hrs : rm.slots = 0) (hR : rm.frames + 1 ≤ R.frames ∧ 8 + (maxL + 11) + rm.locals ≤ R.locals) (hkc : kc ≤ R.cells) (hks : ks ≤ R.slots)
    (kk : ∀ (σ1 : St), Qp σ1 → G p l e R s m args below meth c nL D cA A Q kc ks AD sh σ1 loc (pc + 3) rest) : G p l e R s m args below meth c nL D cA A Q kc ks AD sh σ loc pc st := by
  intro ad H locs ls hAD hP hD hS hl
  subst hst
  refine va_callv (va_runS (As := As.map (vm ad)) (rest := rest.map (vm ad)) ⟨X.1, X.2.1, X.2.2.1, X.2.2.2.1, X.2.2.2.2.1⟩ (hM ad H.size) (va_cwS n X.2.2.2.2.1 (gw_wsS h1 h2 h4 h5) rfl hrc hrs hy hR) ⟨PcW.blind, pre_in X hP hD⟩ rfl (by rw [List.length_map]; exact hn) hl.1 (by show ((As.reverse ++ rest).map (vm ad)) = _; simp [List.map_append, List.map_reverse]) (lv_room (by rw [vm_sum]; exact hroom)) hd ⟨hkc, hks⟩) hS (fun q _ h => aw_in X.2.2.2.2.2.2.2.2.1 hD hS q h) (aw_in X.2.2.2.2.2.2.2.2.1 hD hS) (fun u t H1 locs1 ht hvm hp hb hz hk2 hS1 => kk u hp ad H1 locs1 ls hAD (by rw [← ht]; exact hb) (wd_D _ _ hD) hS1 hl)
theorem g_callNV (X : Cx p R s m args meth c cc nL own D cA A) {y : MethodName} {bts : ByteArray} {maxL : Nat} {ret : Option FieldType} {rm : Room} {host : String} {index n : Nat} {Qp : St → Prop} (As rest : List Value) (hd : decode cc pc = .ok (.invokestatic index, 3)) (hM : CtV l y bts maxL ret rm D cA sh As σ Qp) (h1 : Cond.methodLinkNest own index y host ∈ NW) (h2 : Cond.static y ∈ GW) (h4 : Cond.initialized y.cls ∈ GW) (h5 : Cond.code y bts maxL ret ∈ GW) (hy : y.cls ≠ "java/lang/invoke/MethodHandle" ∧ y.cls ≠ "java/lang/invoke/VarHandle" ∧ (parseMethodDescriptor y.desc).map (fun d => d.parameters.length) = some n) (hn : As.length = n) (hst : st = As.reverse ++ rest) (hroom : (rest.map fun v => v.category).sum ≤ 8) (hrc : rm.cells = 0) (hrs : rm.slots = 0) (hR : rm.frames + 1 ≤ R.frames ∧ 8 + (maxL + 11) + rm.locals ≤ R.locals) (hkc : kc ≤ R.cells) (hks : ks ≤ R.slots)
    (kk : ∀ (σ1 : St), Qp σ1 → G p l e R s m args below meth c nL D cA A Q kc ks AD sh σ1 loc (pc + 3) rest) : G p l e R s m args below meth c nL D cA A Q kc ks AD sh σ loc pc st := by
  intro ad H locs ls hAD hP hD hS hl
  subst hst
  refine va_callv (va_runSN (As := As.map (vm ad)) (rest := rest.map (vm ad)) ⟨X.1, X.2.1, X.2.2.1, X.2.2.2.1, X.2.2.2.2.1⟩ (hM ad H.size) ⟨va_cnB n X.2.2.2.2.1 (gw_wsy h5) rfl hrc hrs (X.2.2.2.2.2.2.2.1 _ h1) (X.2.2.2.2.1 _ h4) hy hR, X.2.2.2.2.1 _ h2, trivial⟩ ⟨PcW.blind, pre_in X hP hD⟩ rfl (by rw [List.length_map]; exact hn) hl.1 (by show ((As.reverse ++ rest).map (vm ad)) = _; simp [List.map_append, List.map_reverse]) (lv_room (by rw [vm_sum]; exact hroom)) hd ⟨hkc, hks⟩) hS (fun q _ h => aw_in X.2.2.2.2.2.2.2.2.1 hD hS q h) (aw_in X.2.2.2.2.2.2.2.2.1 hD hS) (fun u t H1 locs1 ht hvm hp hb hz hk2 hS1 => kk u hp ad H1 locs1 ls hAD (by rw [← ht]; exact hb) (wd_D _ _ hD) hS1 hl)
end GCALL
section GRET
variable {p : Program} {l : Launch} {e : Env} {R : Room} {s : State} {m : MethodId} {args : Array Value} {below : List Frame} {meth : Method} {c : Code} {cc : ByteArray} {nL : Nat} {own : String} {D : va_G} {cA : Nat → ClassId} {A : Nat → Prop} {sh : SH} {σ : St} {loc : List (Nat × Value)} {pc : Nat}
theorem g_iret (X : Cx p R s m args meth c cc nL own D cA A) {Qp : Int32 → St → Prop} {ad0 : Nat → Nat} {v : Int32} {ty : FieldType} (hr : meth.sig.returnType = some ty) (hd : decode cc pc = .ok (.ireturn, 1)) (hn : narrow ty (.int v) = .int v) (h : Qp v σ) : G p l e R s m args below meth c nL D cA A (MQ below (va_Qi Qp (EndW D cA ad0 sh) A) args s 0 0 A) 0 0 (fun ad => ad = ad0) sh σ loc pc [.int v] := by
  intro ad H locs ls hAD hP hD hS hl
  subst hAD
  exact W.zret X.1 X.2.1 hr hn (fun t ht hW => ⟨⟨v, σ, rfl, h, by rw [EndW, ht]; exact hP⟩, hS.F ht⟩) hS.2.2 hd X.2.2.2.2.2.1
theorem g_lret (X : Cx p R s m args meth c cc nL own D cA A) {Qp : Int64 → St → Prop} {ad0 : Nat → Nat} {v : Int64} (hr : meth.sig.returnType = some .long) (hd : decode cc pc = .ok (.lreturn, 1)) (h : Qp v σ) : G p l e R s m args below meth c nL D cA A (MQ below (va_Ql Qp (EndW D cA ad0 sh) A) args s 0 0 A) 0 0 (fun ad => ad = ad0) sh σ loc pc [.long v] := by
  intro ad H locs ls hAD hP hD hS hl
  subst hAD
  exact W.lret X.1 X.2.1 hr (fun t ht hW => ⟨⟨v, σ, rfl, h, by rw [EndW, ht]; exact hP⟩, hS.F ht⟩) hS.2.2 hd X.2.2.2.2.2.1
theorem g_dret (X : Cx p R s m args meth c cc nL own D cA A) {Qp : UInt64 → St → Prop} {ad0 : Nat → Nat} {v : UInt64} (hr : meth.sig.returnType = some .double) (hd : decode cc pc = .ok (.dreturn, 1)) (h : Qp v σ) : G p l e R s m args below meth c nL D cA A (MQ below (va_Qd Qp (EndW D cA ad0 sh) A) args s 0 0 A) 0 0 (fun ad => ad = ad0) sh σ loc pc [.double v] := by
  intro ad H locs ls hAD hP hD hS hl
  subst hAD
  exact W.dret X.1 X.2.1 hr (fun t ht hW => ⟨⟨v, σ, rfl, h, by rw [EndW, ht]; exact hP⟩, hS.F ht⟩) hS.2.2 hd X.2.2.2.2.2.1
theorem g_vret (X : Cx p R s m args meth c cc nL own D cA A) {Qp : St → Prop} {ad0 : Nat → Nat} (hr : meth.sig.returnType = none) (hd : decode cc pc = .ok (.return_, 1)) (h : Qp σ) : G p l e R s m args below meth c nL D cA A (MQ below (va_Qv Qp (EndW D cA ad0 sh) A) args s 0 0 A) 0 0 (fun ad => ad = ad0) sh σ loc pc [] := by
  intro ad H locs ls hAD hP hD hS hl
  subst hAD
  exact W.vret X.1 X.2.1 hr (fun t ht hW => ⟨⟨σ, rfl, h, by rw [EndW, ht]; exact hP⟩, hS.F ht⟩) hS.2.2 hd X.2.2.2.2.2.1
end GRET
