/-! THE PURE PICTURE. A world is cells 0 .. n-1; a cell's number is its pure reference. SH: how many cells, the kind of each (an object of a class, or an array of an element type and a length), and where the references lead. St: what the cells hold of ints, longs and doubles. -/
abbrev SH : Type := Nat × (Nat → Nat ⊕ (Nat × Nat)) × (Nat → Nat → Option Nat)
abbrev St : Type := (Nat → Nat → Int32) × (Nat → Nat → Int64) × (Nat → Nat → UInt64)
def gI (σ : St) (c j : Nat) : Int32 := σ.1 c j
def gJ (σ : St) (c j : Nat) : Int64 := σ.2.1 c j
def gD (σ : St) (c j : Nat) : UInt64 := σ.2.2 c j
def u2 {α : Type} (f : Nat → Nat → α) (c j : Nat) (v : α) : Nat → Nat → α := fun a b => if a = c ∧ b = j then v else f a b
def u1 {α : Type} (f : Nat → Nat → α) (c : Nat) (g : Nat → α) : Nat → Nat → α := fun a b => if a = c then g b else f a b
def uI (σ : St) (c j : Nat) (v : Int32) : St := (u2 σ.1 c j v, σ.2)
def uJ (σ : St) (c j : Nat) (v : Int64) : St := (σ.1, u2 σ.2.1 c j v, σ.2.2)
def uD (σ : St) (c j : Nat) (v : UInt64) : St := (σ.1, σ.2.1, u2 σ.2.2 c j v)
def wI (σ : St) (c : Nat) (g : Nat → Int32) : St := (u1 σ.1 c g, σ.2)
def wJ (σ : St) (c : Nat) (g : Nat → Int64) : St := (σ.1, u1 σ.2.1 c g, σ.2.2)
abbrev cls : List vw_C := [(RX0, TX0, 4), (RX1, TX1, 4), (RX2, TX2, 6), (RX3, TX3, 1), (RX4, TX4, 7), (RX5, TX5, 23)]
def nf (ci : Nat) : Nat := match ci with | 0 => 4 | 1 => 4 | 2 => 6 | 3 => 1 | 4 => 7 | _ => 23
def fk : FieldType → Nat | .long => 1 | .double => 2 | .object _ => 3 | .array _ => 3 | _ => 0
def ft (ci j : Nat) : Nat := match ci with | 0 => fk (tyX0 j) | 1 => fk (tyX1 j) | 2 => fk (tyX2 j) | 3 => fk (tyX3 j) | 4 => fk (tyX4 j) | _ => fk (tyX5 j)
def fv (ad : Nat → Nat) (sh : SH) (σ : St) (c t j : Nat) : Value := match t with | 0 => .int (gI σ c j) | 1 => .long (gJ σ c j) | 2 => .double (gD σ c j) | _ => va_rf ((sh.2.2 c j).map ad)
def ce (cA : Nat → ClassId) (ad : Nat → Nat) (sh : SH) (σ : St) (c : Nat) : va_E := match sh.2.1 c with
  | .inl ci => .inr (ci, (List.range (nf ci)).map (fun j => fv ad sh σ c (ft ci j) j))
  | .inr (0, n) => .inl (cA 0, n, .inl (gI σ c))
  | .inr (1, n) => .inl (cA 1, n, .inr (.inl (gJ σ c)))
  | .inr (2, n) => .inl (cA 2, n, .inr (.inr (.inr (.inl (gD σ c)))))
  | .inr (t + 3, n) => .inl (cA (t + 3), n, .inr (.inr (.inr (.inr (fun j => (sh.2.2 c j).map ad)))))
def wd (cA : Nat → ClassId) (ad : Nat → Nat) (sh : SH) (σ : St) : va_W := (List.range sh.1).map (fun c => (ad c, ce cA ad sh σ c))
def tysA (cA : Nat → ClassId) : List (ClassId × FieldType) := [(cA 0, .int), (cA 1, .long), (cA 2, .double), (cA 3, .object RX2), (cA 4, .object RX1)]
def vm (ad : Nat → Nat) : Value → Value | .ref k => .ref (ad k) | v => v
def lm (ad : Nat → Nat) (loc : List (Nat × Value)) : List (Nat × Value) := loc.map (fun q => (q.1, vm ad q.2))
theorem vm_cat (ad : Nat → Nat) (v : Value) : (vm ad v).category = v.category := by cases v <;> rfl
theorem vm_sum (ad : Nat → Nat) (st : List Value) : ((st.map (vm ad)).map fun v => v.category).sum = (st.map fun v => v.category).sum := by
  induction st with
  | nil => rfl
  | cons a t ih => simp only [List.map_cons, List.sum_cons, vm_cat, ih]
theorem lm_at {ad : Nat → Nat} {loc : List (Nat × Value)} {k i : Nat} {v : Value} (h : loc[k]? = some (i, v)) : (lm ad loc)[k]? = some (i, vm ad v) := by
  simp only [lm, List.getElem?_map, h, Option.map_some]
theorem lm_filter (ad : Nat → Nat) (p : Nat → Nat → Bool) (loc : List (Nat × Value)) : (lm ad loc).filter (fun q => p q.1 q.2.category) = lm ad (loc.filter (fun q => p q.1 q.2.category)) := by
  simp only [lm, List.filter_map]
  congr 2
  funext q
  simp only [Function.comp, vm_cat]
theorem lm_has {ad : Nat → Nat} {ls : Array Slot} {nL k i : Nat} {loc : List (Nat × Value)} {v : Value} (h : lv_has ls nL (lm ad loc)) (hk : loc[k]? = some (i, v)) : ls[i]? = some (.val (vm ad v)) := lv_at h k (lm_at hk)
theorem lm_sub {ad : Nat → Nat} {ls : Array Slot} {nL : Nat} {loc loc' : List (Nat × Value)} (ks : List Nat) (hk : lv_pick loc ks = loc') (h : lv_has ls nL (lm ad loc)) : lv_has ls nL (lm ad loc') := by
  refine lv_sub h ks ?_
  subst hk
  simp only [lv_pick, lm, List.map_filterMap, List.getElem?_map]
/-! lookups -/
theorem wd_at {cA : Nat → ClassId} {ad : Nat → Nat} {sh : SH} {σ : St} {c : Nat} (h : c < sh.1) : (wd cA ad sh σ)[c]? = some (ad c, ce cA ad sh σ c) := by
  simp only [wd, List.getElem?_map, List.getElem?_range h, Option.map_some]
theorem wd_len (cA : Nat → ClassId) (ad : Nat → Nat) (sh : SH) (σ : St) : (wd cA ad sh σ).length = sh.1 := by simp [wd]
theorem wd_inv {cA : Nat → ClassId} {ad : Nat → Nat} {sh : SH} {σ : St} {c : Nat} {q : Nat × va_E} (h : (wd cA ad sh σ)[c]? = some q) : c < sh.1 ∧ q = (ad c, ce cA ad sh σ c) := by
  have hl : c < sh.1 := by have := (List.getElem?_eq_some_iff.mp h).1; rwa [wd_len] at this
  rw [wd_at hl] at h
  exact ⟨hl, (Option.some.inj h).symm⟩
theorem wd_D {cA : Nat → ClassId} {ad : Nat → Nat} {sh : SH} {A : Nat → Prop} (σ σ' : St) (h : va_D A (wd cA ad sh σ)) : va_D A (wd cA ad sh σ') := by
  refine ⟨fun i j p q hi hj e => ?_, fun k q hk => ?_⟩
  · obtain ⟨li, rfl⟩ := wd_inv hi
    obtain ⟨lj, rfl⟩ := wd_inv hj
    exact h.1 i j _ _ (wd_at li) (wd_at lj) e
  · obtain ⟨lk, rfl⟩ := wd_inv hk
    exact h.2 k (ad k, ce cA ad sh σ k) (wd_at lk)
theorem ce_congr {cA : Nat → ClassId} {ad : Nat → Nat} {sh : SH} {σ σ' : St} {c : Nat} (h1 : gI σ' c = gI σ c) (h2 : gJ σ' c = gJ σ c) (h3 : gD σ' c = gD σ c) : ce cA ad sh σ' c = ce cA ad sh σ c := by
  have e : ∀ t j, fv ad sh σ' c t j = fv ad sh σ c t j := by
    intro t j
    simp only [fv, h1, h2, h3]
  simp only [ce, h1, h2, h3, e]
theorem wd_set {cA : Nat → ClassId} {ad : Nat → Nat} {sh : SH} {σ σ' : St} {b : Nat} {e : va_E} (he : ce cA ad sh σ' b = e) (ho : ∀ c, c ≠ b → ce cA ad sh σ' c = ce cA ad sh σ c) : (wd cA ad sh σ).set b (ad b, e) = wd cA ad sh σ' := by
  refine List.ext_getElem? fun i => ?_
  by_cases hi : i < sh.1
  · by_cases hb : i = b
    · subst hb
      rw [List.getElem?_set_self (by rw [wd_len]; exact hi), wd_at hi, he]
    · rw [List.getElem?_set_ne (Ne.symm hb), wd_at hi, wd_at hi, ho i hb]
  · have h1 : (wd cA ad sh σ').length ≤ i := by rw [wd_len]; omega
    have h2 : ((wd cA ad sh σ).set b (ad b, e)).length ≤ i := by rw [List.length_set, wd_len]; omega
    rw [List.getElem?_eq_none h1, List.getElem?_eq_none h2]
theorem gI_uI (σ : St) (c j : Nat) (v : Int32) (a b : Nat) : gI (uI σ c j v) a b = if a = c ∧ b = j then v else gI σ a b := rfl
theorem gJ_uJ (σ : St) (c j : Nat) (v : Int64) (a b : Nat) : gJ (uJ σ c j v) a b = if a = c ∧ b = j then v else gJ σ a b := rfl
theorem gD_uD (σ : St) (c j : Nat) (v : UInt64) (a b : Nat) : gD (uD σ c j v) a b = if a = c ∧ b = j then v else gD σ a b := rfl
theorem gI_uJ (σ : St) (c j : Nat) (v : Int64) : gI (uJ σ c j v) = gI σ := rfl
theorem gI_uD (σ : St) (c j : Nat) (v : UInt64) : gI (uD σ c j v) = gI σ := rfl
theorem gJ_uI (σ : St) (c j : Nat) (v : Int32) : gJ (uI σ c j v) = gJ σ := rfl
theorem gJ_uD (σ : St) (c j : Nat) (v : UInt64) : gJ (uD σ c j v) = gJ σ := rfl
theorem gD_uI (σ : St) (c j : Nat) (v : Int32) : gD (uI σ c j v) = gD σ := rfl
theorem gD_uJ (σ : St) (c j : Nat) (v : Int64) : gD (uJ σ c j v) = gD σ := rfl
theorem gI_wI (σ : St) (c : Nat) (g : Nat → Int32) (a b : Nat) : gI (wI σ c g) a b = if a = c then g b else gI σ a b := rfl
theorem gJ_wJ (σ : St) (c : Nat) (g : Nat → Int64) (a b : Nat) : gJ (wJ σ c g) a b = if a = c then g b else gJ σ a b := rfl
theorem gI_wJ (σ : St) (c : Nat) (g : Nat → Int64) : gI (wJ σ c g) = gI σ := rfl
theorem gD_wJ (σ : St) (c : Nat) (g : Nat → Int64) : gD (wJ σ c g) = gD σ := rfl
theorem gJ_wI (σ : St) (c : Nat) (g : Nat → Int32) : gJ (wI σ c g) = gJ σ := rfl
theorem gD_wI (σ : St) (c : Nat) (g : Nat → Int32) : gD (wI σ c g) = gD σ := rfl
theorem ce_oI {cA : Nat → ClassId} {ad : Nat → Nat} {sh : SH} {σ : St} {b j : Nat} {v : Int32} : ∀ c, c ≠ b → ce cA ad sh (uI σ b j v) c = ce cA ad sh σ c := fun c h => ce_congr (funext fun k => by rw [gI_uI, if_neg (fun q => h q.1)]) rfl rfl
theorem ce_oJ {cA : Nat → ClassId} {ad : Nat → Nat} {sh : SH} {σ : St} {b j : Nat} {v : Int64} : ∀ c, c ≠ b → ce cA ad sh (uJ σ b j v) c = ce cA ad sh σ c := fun c h => ce_congr rfl (funext fun k => by rw [gJ_uJ, if_neg (fun q => h q.1)]) rfl
theorem ce_oD {cA : Nat → ClassId} {ad : Nat → Nat} {sh : SH} {σ : St} {b j : Nat} {v : UInt64} : ∀ c, c ≠ b → ce cA ad sh (uD σ b j v) c = ce cA ad sh σ c := fun c h => ce_congr rfl rfl (funext fun k => by rw [gD_uD, if_neg (fun q => h q.1)])
theorem ce_wI {cA : Nat → ClassId} {ad : Nat → Nat} {sh : SH} {σ : St} {b : Nat} {g : Nat → Int32} : ∀ c, c ≠ b → ce cA ad sh (wI σ b g) c = ce cA ad sh σ c := fun c h => ce_congr (funext fun k => by rw [gI_wI, if_neg h]) rfl rfl
theorem ce_wJ {cA : Nat → ClassId} {ad : Nat → Nat} {sh : SH} {σ : St} {b : Nat} {g : Nat → Int64} : ∀ c, c ≠ b → ce cA ad sh (wJ σ b g) c = ce cA ad sh σ c := fun c h => ce_congr rfl (funext fun k => by rw [gJ_wJ, if_neg h]) rfl
theorem ce_o {cA : Nat → ClassId} {ad : Nat → Nat} {sh : SH} {σ : St} {c ci : Nat} (h : sh.2.1 c = .inl ci) : ce cA ad sh σ c = .inr (ci, (List.range (nf ci)).map (fun j => fv ad sh σ c (ft ci j) j)) := by simp only [ce, h]
theorem ce_i {cA : Nat → ClassId} {ad : Nat → Nat} {sh : SH} {σ : St} {c n : Nat} (h : sh.2.1 c = .inr (0, n)) : ce cA ad sh σ c = .inl (cA 0, n, .inl (gI σ c)) := by simp only [ce, h]
theorem ce_l {cA : Nat → ClassId} {ad : Nat → Nat} {sh : SH} {σ : St} {c n : Nat} (h : sh.2.1 c = .inr (1, n)) : ce cA ad sh σ c = .inl (cA 1, n, .inr (.inl (gJ σ c))) := by simp only [ce, h]
theorem ce_d {cA : Nat → ClassId} {ad : Nat → Nat} {sh : SH} {σ : St} {c n : Nat} (h : sh.2.1 c = .inr (2, n)) : ce cA ad sh σ c = .inl (cA 2, n, .inr (.inr (.inr (.inl (gD σ c))))) := by simp only [ce, h]
theorem ce_q {cA : Nat → ClassId} {ad : Nat → Nat} {sh : SH} {σ : St} {c n t : Nat} (h : sh.2.1 c = .inr (t + 3, n)) : ce cA ad sh σ c = .inl (cA (t + 3), n, .inr (.inr (.inr (.inr (fun j => (sh.2.2 c j).map ad))))) := by simp only [ce, h]
theorem fl_at {ad : Nat → Nat} {sh : SH} {σ : St} {c ci j : Nat} (h : j < nf ci) : ((List.range (nf ci)).map (fun j => fv ad sh σ c (ft ci j) j))[j]? = some (fv ad sh σ c (ft ci j) j) := by
  simp only [List.getElem?_map, List.getElem?_range h, Option.map_some]
theorem fl_set {ad : Nat → Nat} {sh sh' : SH} {σ σ' : St} {c ci j : Nat} (h : j < nf ci) (ho : ∀ k, k ≠ j → fv ad sh' σ' c (ft ci k) k = fv ad sh σ c (ft ci k) k) : ((List.range (nf ci)).map (fun j => fv ad sh σ c (ft ci j) j)).set j (fv ad sh' σ' c (ft ci j) j) = (List.range (nf ci)).map (fun j => fv ad sh' σ' c (ft ci j) j) := by
  refine List.ext_getElem? fun i => ?_
  by_cases hi : i < nf ci
  · by_cases hb : i = j
    · subst hb
      rw [List.getElem?_set_self (by simp; exact hi), fl_at hi]
    · rw [List.getElem?_set_ne (Ne.symm hb), fl_at hi, fl_at hi, ho i hb]
  · rw [List.getElem?_eq_none (by simp; omega), List.getElem?_eq_none (by simp; omega)]
/-! the words: all good ones of the tables -/
def GW : List Cond := lw_tbl.filter goodWord
theorem gw (i : Nat) {w : Cond} (h : lw_tbl[i]? = some w) (g : goodWord w = true) : w ∈ GW := List.mem_filter.mpr ⟨List.mem_of_getElem? h, g⟩
theorem gw_in {w : Cond} (h : w ∈ GW) : w ∈ GW ∧ ((w.onTables && w.keeps) = true ∨ ∃ ty, w = .arrayClass ty) := ⟨h, good_of_word (List.mem_filter.mp h).2⟩
def wsy (y : MethodName) (b : ByteArray) (n : Nat) (ret : Option FieldType) : List Cond := .code y b n ret :: GW
theorem gw_wsy {y : MethodName} {b : ByteArray} {n : Nat} {ret : Option FieldType} (h : Cond.code y b n ret ∈ GW) : GoodIn GW (wsy y b n ret) := by
  intro w hw
  rcases List.mem_cons.mp hw with rfl | hw
  · exact gw_in h
  · exact gw_in hw
theorem gw_wsV {own C : String} {idx : Nat} {y : MethodName} {b : ByteArray} {n : Nat} {ret : Option FieldType} (h1 : Cond.methodLink own idx y ∈ GW) (h2 : Cond.instanceMethod y ∈ GW) (h3 : Cond.selects C y y ∈ GW) (h4 : Cond.initialized C ∈ GW) (h5 : Cond.code y b n ret ∈ GW) : GoodIn GW (wsV own idx C y (wsy y b n ret)) := by
  intro w hw
  rcases List.mem_append.mp hw with hw | hw
  · simp only [List.mem_cons, List.not_mem_nil, or_false] at hw
    rcases hw with rfl | rfl | rfl | rfl
    · exact gw_in h1
    · exact gw_in h2
    · exact gw_in h3
    · exact gw_in h4
  · exact gw_wsy h5 w hw
theorem gw_wsS {own : String} {idx : Nat} {y : MethodName} {b : ByteArray} {n : Nat} {ret : Option FieldType} (h1 : Cond.methodLink own idx y ∈ GW) (h2 : Cond.static y ∈ GW) (h4 : Cond.initialized y.cls ∈ GW) (h5 : Cond.code y b n ret ∈ GW) : GoodIn GW (va_wsS own idx y (wsy y b n ret)) := by
  intro w hw
  rcases List.mem_append.mp hw with hw | hw
  · simp only [List.mem_cons, List.not_mem_nil, or_false] at hw
    rcases hw with rfl | rfl | rfl
    · exact gw_in h1
    · exact gw_in h2
    · exact gw_in h4
  · exact gw_wsy h5 w hw
def isNest : Cond → Bool
  | .methodLinkNest .. => true
  | _ => false
def NW : List Cond := lw_tbl.filter isNest
theorem nw (i : Nat) {w : Cond} (h : lw_tbl[i]? = some w) (g : isNest w = true) : w ∈ NW := List.mem_filter.mpr ⟨List.mem_of_getElem? h, g⟩
theorem nw_warm {s U : State} (hW : s.WarmedH U.vm) (h : ∀ w ∈ NW, va_Nw w s) : ∀ w ∈ NW, va_Nw w U := by
  intro w hw
  have h1 := h w hw
  have h2 := (List.mem_filter.mp hw).2
  cases w <;> first | exact va_Nw.warmM hW h1 | exact (Bool.false_ne_true h2).elim
theorem nw_tabs : ∀ w ∈ NW, w.onTables = true := by
  intro w hw
  have h2 := (List.mem_filter.mp hw).2
  cases w <;> first | rfl | exact (Bool.false_ne_true h2).elim
theorem nw_call {U : State} {g : JFrame} {mk : MethodId} {a : Array Value} (h : ∀ w ∈ NW, va_Nw w U) : ∀ w ∈ NW, va_Nw w (U.calling g mk a) := fun w hw => va_Nw.same (u := U) (U := U.calling g mk a) (nw_tabs w hw) rfl (h w hw)
/-! what a method's body stands on, and the judgement -/
def Cx (p : Program) (R : Room) (s : State) (m : MethodId) (args : Array Value) (meth : Method) (c : Code) (cc : ByteArray) (nL : Nat) (own : String) (D : va_G) (cA : Nat → ClassId) (A : Nat → Prop) : Prop :=
  p.tables.exec = Jvm.exec ∧ c.code = cc ∧ c.maxLocals = nL ∧ s.vm.findClass own = some m.cls ∧ (∀ w ∈ GW, w.before args s = true) ∧ meth.locks = false ∧ va_K D cls (tysA cA) s ∧ (∀ w ∈ NW, va_Nw w s) ∧ (∀ q, s.heap.size ≤ q → A q) ∧ 1 ≤ R.frames + 1
def G (p : Program) (l : Launch) (e : Env) (R : Room) (s : State) (m : MethodId) (args : Array Value) (below : List Frame) (meth : Method) (c : Code) (nL : Nat) (D : va_G) (cA : Nat → ClassId) (A : Nat → Prop) (Q : State → Prop) (kc ks : Nat) (AD : (Nat → Nat) → Prop) (sh : SH) (σ : St) (loc : List (Nat × Value)) (pc : Nat) (st : List Value) : Prop :=
  ∀ (ad : Nat → Nat) (H : Heap) (locs : List Loc) (ls : Array Slot), AD ad → va_P D cls (wd cA ad sh σ) H → va_D A (wd cA ad sh σ) → va_S A s.heap H locs → lv_has ls nL (lm ad loc) → W p l e R s m args below meth c H locs kc ks Q (F0 m pc ls (st.map (vm ad)))
section GROWS
variable {p : Program} {l : Launch} {e : Env} {R : Room} {s : State} {m : MethodId} {args : Array Value} {below : List Frame} {meth : Method} {c : Code} {cc : ByteArray} {nL : Nat} {own : String} {D : va_G} {cA : Nat → ClassId} {A : Nat → Prop} {Q : State → Prop} {kc ks : Nat} {AD : (Nat → Nat) → Prop} {sh : SH} {σ : St} {loc : List (Nat × Value)} {pc : Nat} {st : List Value}
theorem g_iconst (X : Cx p R s m args meth c cc nL own D cA A) {n : Int} (v : Int32) (hd : decode cc pc = .ok (.iconst n, 1)) (hv : Int32.ofInt n = v) (k : G p l e R s m args below meth c nL D cA A Q kc ks AD sh σ loc (pc + 1) (.int v :: st)) : G p l e R s m args below meth c nL D cA A Q kc ks AD sh σ loc pc (st) :=
  fun ad H locs ls hAD hP hD hS hl => lv_iconst (rest := st.map (vm ad)) X.1 X.2.1 hd hv (k ad H locs ls hAD hP hD hS hl)
theorem g_bipush (X : Cx p R s m args meth c cc nL own D cA A) {n : Int} (v : Int32) (hd : decode cc pc = .ok (.bipush n, 2)) (hv : (Int8.ofInt n).toInt32 = v) (k : G p l e R s m args below meth c nL D cA A Q kc ks AD sh σ loc (pc + 2) (.int v :: st)) : G p l e R s m args below meth c nL D cA A Q kc ks AD sh σ loc pc (st) :=
  fun ad H locs ls hAD hP hD hS hl => lv_bipush (rest := st.map (vm ad)) X.1 X.2.1 hd hv (k ad H locs ls hAD hP hD hS hl)
theorem g_sipush (X : Cx p R s m args meth c cc nL own D cA A) {n : Int} (v : Int32) (hd : decode cc pc = .ok (.sipush n, 3)) (hv : (Int16.ofInt n).toInt32 = v) (k : G p l e R s m args below meth c nL D cA A Q kc ks AD sh σ loc (pc + 3) (.int v :: st)) : G p l e R s m args below meth c nL D cA A Q kc ks AD sh σ loc pc (st) :=
  fun ad H locs ls hAD hP hD hS hl => lv_sipush (rest := st.map (vm ad)) X.1 X.2.1 hd hv (k ad H locs ls hAD hP hD hS hl)
theorem g_lconst (X : Cx p R s m args meth c cc nL own D cA A) {n : Fin 2} (v : Int64) (hd : decode cc pc = .ok (.lconst n, 1)) (hv : Int64.ofNat (n : Nat) = v) (k : G p l e R s m args below meth c nL D cA A Q kc ks AD sh σ loc (pc + 1) (.long v :: st)) : G p l e R s m args below meth c nL D cA A Q kc ks AD sh σ loc pc (st) :=
  fun ad H locs ls hAD hP hD hS hl => lv_lconst (rest := st.map (vm ad)) X.1 X.2.1 hd hv (k ad H locs ls hAD hP hD hS hl)
theorem g_dconst0 (X : Cx p R s m args meth c cc nL own D cA A) (hd : decode cc pc = .ok (.dconst 0, 1)) (k : G p l e R s m args below meth c nL D cA A Q kc ks AD sh σ loc (pc + 1) (.double FP.dconst0 :: st)) : G p l e R s m args below meth c nL D cA A Q kc ks AD sh σ loc pc (st) :=
  fun ad H locs ls hAD hP hD hS hl => lv_dconst0 (rest := st.map (vm ad)) X.1 X.2.1 hd (k ad H locs ls hAD hP hD hS hl)
theorem g_dconst1 (X : Cx p R s m args meth c cc nL own D cA A) (hd : decode cc pc = .ok (.dconst 1, 1)) (k : G p l e R s m args below meth c nL D cA A Q kc ks AD sh σ loc (pc + 1) (.double FP.dconst1 :: st)) : G p l e R s m args below meth c nL D cA A Q kc ks AD sh σ loc pc (st) :=
  fun ad H locs ls hAD hP hD hS hl => lv_dconst1 (rest := st.map (vm ad)) X.1 X.2.1 hd (k ad H locs ls hAD hP hD hS hl)
theorem g_ldc (X : Cx p R s m args meth c cc nL own D cA A) {index : Nat} {v : Int32} (hc : Cond.constant own index v ∈ GW) (hd : decode cc pc = .ok (.ldc index, 2)) (k : G p l e R s m args below meth c nL D cA A Q kc ks AD sh σ loc (pc + 2) (.int v :: st)) : G p l e R s m args below meth c nL D cA A Q kc ks AD sh σ loc pc (st) :=
  fun ad H locs ls hAD hP hD hS hl => lv_ldc (rest := st.map (vm ad)) X.1 X.2.1 X.2.2.2.1 (X.2.2.2.2.1 _ hc) hd (k ad H locs ls hAD hP hD hS hl)
theorem g_ldcw (X : Cx p R s m args meth c cc nL own D cA A) {index : Nat} {v : Int32} (hc : Cond.constant own index v ∈ GW) (hd : decode cc pc = .ok (.ldc_w index, 3)) (k : G p l e R s m args below meth c nL D cA A Q kc ks AD sh σ loc (pc + 3) (.int v :: st)) : G p l e R s m args below meth c nL D cA A Q kc ks AD sh σ loc pc (st) :=
  fun ad H locs ls hAD hP hD hS hl => lv_ldcw (rest := st.map (vm ad)) X.1 X.2.1 X.2.2.2.1 (X.2.2.2.2.1 _ hc) hd (k ad H locs ls hAD hP hD hS hl)
theorem g_ldc2 (X : Cx p R s m args meth c cc nL own D cA A) {index : Nat} {v : Int64} (hc : Cond.constantLong own index v ∈ GW) (hd : decode cc pc = .ok (.ldc2_w index, 3)) (k : G p l e R s m args below meth c nL D cA A Q kc ks AD sh σ loc (pc + 3) (.long v :: st)) : G p l e R s m args below meth c nL D cA A Q kc ks AD sh σ loc pc (st) :=
  fun ad H locs ls hAD hP hD hS hl => lv_ldc2 (rest := st.map (vm ad)) X.1 X.2.1 X.2.2.2.1 (X.2.2.2.2.1 _ hc) hd (k ad H locs ls hAD hP hD hS hl)
theorem g_ldc2d (X : Cx p R s m args meth c cc nL own D cA A) {index : Nat} {v : UInt64} (hc : Cond.constantDouble own index v ∈ GW) (hd : decode cc pc = .ok (.ldc2_w index, 3)) (k : G p l e R s m args below meth c nL D cA A Q kc ks AD sh σ loc (pc + 3) (.double v :: st)) : G p l e R s m args below meth c nL D cA A Q kc ks AD sh σ loc pc (st) :=
  fun ad H locs ls hAD hP hD hS hl => lv_ldc2d (rest := st.map (vm ad)) X.1 X.2.1 X.2.2.2.1 (X.2.2.2.2.1 _ hc) hd (k ad H locs ls hAD hP hD hS hl)
theorem g_iadd (X : Cx p R s m args meth c cc nL own D cA A) {x y : Int32} (hd : decode cc pc = .ok (.iadd, 1)) (k : G p l e R s m args below meth c nL D cA A Q kc ks AD sh σ loc (pc + 1) (.int (x + y) :: st)) : G p l e R s m args below meth c nL D cA A Q kc ks AD sh σ loc pc (.int y :: .int x :: st) :=
  fun ad H locs ls hAD hP hD hS hl => lv_iadd (rest := st.map (vm ad)) X.1 X.2.1 hd (k ad H locs ls hAD hP hD hS hl)
theorem g_isub (X : Cx p R s m args meth c cc nL own D cA A) {x y : Int32} (hd : decode cc pc = .ok (.isub, 1)) (k : G p l e R s m args below meth c nL D cA A Q kc ks AD sh σ loc (pc + 1) (.int (x - y) :: st)) : G p l e R s m args below meth c nL D cA A Q kc ks AD sh σ loc pc (.int y :: .int x :: st) :=
  fun ad H locs ls hAD hP hD hS hl => lv_isub (rest := st.map (vm ad)) X.1 X.2.1 hd (k ad H locs ls hAD hP hD hS hl)
theorem g_imul (X : Cx p R s m args meth c cc nL own D cA A) {x y : Int32} (hd : decode cc pc = .ok (.imul, 1)) (k : G p l e R s m args below meth c nL D cA A Q kc ks AD sh σ loc (pc + 1) (.int (x * y) :: st)) : G p l e R s m args below meth c nL D cA A Q kc ks AD sh σ loc pc (.int y :: .int x :: st) :=
  fun ad H locs ls hAD hP hD hS hl => lv_imul (rest := st.map (vm ad)) X.1 X.2.1 hd (k ad H locs ls hAD hP hD hS hl)
theorem g_iand (X : Cx p R s m args meth c cc nL own D cA A) {x y : Int32} (hd : decode cc pc = .ok (.iand, 1)) (k : G p l e R s m args below meth c nL D cA A Q kc ks AD sh σ loc (pc + 1) (.int (x &&& y) :: st)) : G p l e R s m args below meth c nL D cA A Q kc ks AD sh σ loc pc (.int y :: .int x :: st) :=
  fun ad H locs ls hAD hP hD hS hl => lv_iand (rest := st.map (vm ad)) X.1 X.2.1 hd (k ad H locs ls hAD hP hD hS hl)
theorem g_ior (X : Cx p R s m args meth c cc nL own D cA A) {x y : Int32} (hd : decode cc pc = .ok (.ior, 1)) (k : G p l e R s m args below meth c nL D cA A Q kc ks AD sh σ loc (pc + 1) (.int (x ||| y) :: st)) : G p l e R s m args below meth c nL D cA A Q kc ks AD sh σ loc pc (.int y :: .int x :: st) :=
  fun ad H locs ls hAD hP hD hS hl => lv_ior (rest := st.map (vm ad)) X.1 X.2.1 hd (k ad H locs ls hAD hP hD hS hl)
theorem g_ixor (X : Cx p R s m args meth c cc nL own D cA A) {x y : Int32} (hd : decode cc pc = .ok (.ixor, 1)) (k : G p l e R s m args below meth c nL D cA A Q kc ks AD sh σ loc (pc + 1) (.int (x ^^^ y) :: st)) : G p l e R s m args below meth c nL D cA A Q kc ks AD sh σ loc pc (.int y :: .int x :: st) :=
  fun ad H locs ls hAD hP hD hS hl => lv_ixor (rest := st.map (vm ad)) X.1 X.2.1 hd (k ad H locs ls hAD hP hD hS hl)
theorem g_ishl (X : Cx p R s m args meth c cc nL own D cA A) {x y : Int32} (hd : decode cc pc = .ok (.ishl, 1)) (k : G p l e R s m args below meth c nL D cA A Q kc ks AD sh σ loc (pc + 1) (.int (x <<< (y &&& 31)) :: st)) : G p l e R s m args below meth c nL D cA A Q kc ks AD sh σ loc pc (.int y :: .int x :: st) :=
  fun ad H locs ls hAD hP hD hS hl => lv_ishl (rest := st.map (vm ad)) X.1 X.2.1 hd (k ad H locs ls hAD hP hD hS hl)
theorem g_ishr (X : Cx p R s m args meth c cc nL own D cA A) {x y : Int32} (hd : decode cc pc = .ok (.ishr, 1)) (k : G p l e R s m args below meth c nL D cA A Q kc ks AD sh σ loc (pc + 1) (.int (x >>> (y &&& 31)) :: st)) : G p l e R s m args below meth c nL D cA A Q kc ks AD sh σ loc pc (.int y :: .int x :: st) :=
  fun ad H locs ls hAD hP hD hS hl => lv_ishr (rest := st.map (vm ad)) X.1 X.2.1 hd (k ad H locs ls hAD hP hD hS hl)
theorem g_idiv (X : Cx p R s m args meth c cc nL own D cA A) {x y : Int32} (hd : decode cc pc = .ok (.idiv, 1)) (hne : ¬ y = 0) (k : G p l e R s m args below meth c nL D cA A Q kc ks AD sh σ loc (pc + 1) (.int (x / y) :: st)) : G p l e R s m args below meth c nL D cA A Q kc ks AD sh σ loc pc (.int y :: .int x :: st) :=
  fun ad H locs ls hAD hP hD hS hl => lv_idiv (rest := st.map (vm ad)) X.1 X.2.1 hd hne (k ad H locs ls hAD hP hD hS hl)
theorem g_irem (X : Cx p R s m args meth c cc nL own D cA A) {x y : Int32} (hd : decode cc pc = .ok (.irem, 1)) (hne : ¬ y = 0) (k : G p l e R s m args below meth c nL D cA A Q kc ks AD sh σ loc (pc + 1) (.int (x - x / y * y) :: st)) : G p l e R s m args below meth c nL D cA A Q kc ks AD sh σ loc pc (.int y :: .int x :: st) :=
  fun ad H locs ls hAD hP hD hS hl => lv_irem (rest := st.map (vm ad)) X.1 X.2.1 hd hne (k ad H locs ls hAD hP hD hS hl)
theorem g_ladd (X : Cx p R s m args meth c cc nL own D cA A) {x y : Int64} (hd : decode cc pc = .ok (.ladd, 1)) (k : G p l e R s m args below meth c nL D cA A Q kc ks AD sh σ loc (pc + 1) (.long (x + y) :: st)) : G p l e R s m args below meth c nL D cA A Q kc ks AD sh σ loc pc (.long y :: .long x :: st) :=
  fun ad H locs ls hAD hP hD hS hl => lv_ladd (rest := st.map (vm ad)) X.1 X.2.1 hd (k ad H locs ls hAD hP hD hS hl)
theorem g_lsub (X : Cx p R s m args meth c cc nL own D cA A) {x y : Int64} (hd : decode cc pc = .ok (.lsub, 1)) (k : G p l e R s m args below meth c nL D cA A Q kc ks AD sh σ loc (pc + 1) (.long (x - y) :: st)) : G p l e R s m args below meth c nL D cA A Q kc ks AD sh σ loc pc (.long y :: .long x :: st) :=
  fun ad H locs ls hAD hP hD hS hl => lv_lsub (rest := st.map (vm ad)) X.1 X.2.1 hd (k ad H locs ls hAD hP hD hS hl)
theorem g_lmul (X : Cx p R s m args meth c cc nL own D cA A) {x y : Int64} (hd : decode cc pc = .ok (.lmul, 1)) (k : G p l e R s m args below meth c nL D cA A Q kc ks AD sh σ loc (pc + 1) (.long (x * y) :: st)) : G p l e R s m args below meth c nL D cA A Q kc ks AD sh σ loc pc (.long y :: .long x :: st) :=
  fun ad H locs ls hAD hP hD hS hl => lv_lmul (rest := st.map (vm ad)) X.1 X.2.1 hd (k ad H locs ls hAD hP hD hS hl)
theorem g_land (X : Cx p R s m args meth c cc nL own D cA A) {x y : Int64} (hd : decode cc pc = .ok (.land, 1)) (k : G p l e R s m args below meth c nL D cA A Q kc ks AD sh σ loc (pc + 1) (.long (x &&& y) :: st)) : G p l e R s m args below meth c nL D cA A Q kc ks AD sh σ loc pc (.long y :: .long x :: st) :=
  fun ad H locs ls hAD hP hD hS hl => lv_land (rest := st.map (vm ad)) X.1 X.2.1 hd (k ad H locs ls hAD hP hD hS hl)
theorem g_lor (X : Cx p R s m args meth c cc nL own D cA A) {x y : Int64} (hd : decode cc pc = .ok (.lor, 1)) (k : G p l e R s m args below meth c nL D cA A Q kc ks AD sh σ loc (pc + 1) (.long (x ||| y) :: st)) : G p l e R s m args below meth c nL D cA A Q kc ks AD sh σ loc pc (.long y :: .long x :: st) :=
  fun ad H locs ls hAD hP hD hS hl => lv_lor (rest := st.map (vm ad)) X.1 X.2.1 hd (k ad H locs ls hAD hP hD hS hl)
theorem g_lxor (X : Cx p R s m args meth c cc nL own D cA A) {x y : Int64} (hd : decode cc pc = .ok (.lxor, 1)) (k : G p l e R s m args below meth c nL D cA A Q kc ks AD sh σ loc (pc + 1) (.long (x ^^^ y) :: st)) : G p l e R s m args below meth c nL D cA A Q kc ks AD sh σ loc pc (.long y :: .long x :: st) :=
  fun ad H locs ls hAD hP hD hS hl => lv_lxor (rest := st.map (vm ad)) X.1 X.2.1 hd (k ad H locs ls hAD hP hD hS hl)
theorem g_ldiv (X : Cx p R s m args meth c cc nL own D cA A) {x y : Int64} (hd : decode cc pc = .ok (.ldiv, 1)) (hne : ¬ y = 0) (k : G p l e R s m args below meth c nL D cA A Q kc ks AD sh σ loc (pc + 1) (.long (x / y) :: st)) : G p l e R s m args below meth c nL D cA A Q kc ks AD sh σ loc pc (.long y :: .long x :: st) :=
  fun ad H locs ls hAD hP hD hS hl => lv_ldiv (rest := st.map (vm ad)) X.1 X.2.1 hd hne (k ad H locs ls hAD hP hD hS hl)
theorem g_lrem (X : Cx p R s m args meth c cc nL own D cA A) {x y : Int64} (hd : decode cc pc = .ok (.lrem, 1)) (hne : ¬ y = 0) (k : G p l e R s m args below meth c nL D cA A Q kc ks AD sh σ loc (pc + 1) (.long (x - x / y * y) :: st)) : G p l e R s m args below meth c nL D cA A Q kc ks AD sh σ loc pc (.long y :: .long x :: st) :=
  fun ad H locs ls hAD hP hD hS hl => lv_lrem (rest := st.map (vm ad)) X.1 X.2.1 hd hne (k ad H locs ls hAD hP hD hS hl)
theorem g_ineg (X : Cx p R s m args meth c cc nL own D cA A) {x : Int32} (hd : decode cc pc = .ok (.ineg, 1)) (k : G p l e R s m args below meth c nL D cA A Q kc ks AD sh σ loc (pc + 1) (.int (-x) :: st)) : G p l e R s m args below meth c nL D cA A Q kc ks AD sh σ loc pc (.int x :: st) :=
  fun ad H locs ls hAD hP hD hS hl => lv_ineg (rest := st.map (vm ad)) X.1 X.2.1 hd (k ad H locs ls hAD hP hD hS hl)
theorem g_lneg (X : Cx p R s m args meth c cc nL own D cA A) {x : Int64} (hd : decode cc pc = .ok (.lneg, 1)) (k : G p l e R s m args below meth c nL D cA A Q kc ks AD sh σ loc (pc + 1) (.long (-x) :: st)) : G p l e R s m args below meth c nL D cA A Q kc ks AD sh σ loc pc (.long x :: st) :=
  fun ad H locs ls hAD hP hD hS hl => lv_lneg (rest := st.map (vm ad)) X.1 X.2.1 hd (k ad H locs ls hAD hP hD hS hl)
theorem g_i2l (X : Cx p R s m args meth c cc nL own D cA A) {x : Int32} (hd : decode cc pc = .ok (.i2l, 1)) (k : G p l e R s m args below meth c nL D cA A Q kc ks AD sh σ loc (pc + 1) (.long x.toInt64 :: st)) : G p l e R s m args below meth c nL D cA A Q kc ks AD sh σ loc pc (.int x :: st) :=
  fun ad H locs ls hAD hP hD hS hl => lv_i2l (rest := st.map (vm ad)) X.1 X.2.1 hd rfl (k ad H locs ls hAD hP hD hS hl)
theorem g_l2i (X : Cx p R s m args meth c cc nL own D cA A) {x : Int64} (hd : decode cc pc = .ok (.l2i, 1)) (k : G p l e R s m args below meth c nL D cA A Q kc ks AD sh σ loc (pc + 1) (.int x.toInt32 :: st)) : G p l e R s m args below meth c nL D cA A Q kc ks AD sh σ loc pc (.long x :: st) :=
  fun ad H locs ls hAD hP hD hS hl => lv_l2i (rest := st.map (vm ad)) X.1 X.2.1 hd rfl (k ad H locs ls hAD hP hD hS hl)
theorem g_i2b (X : Cx p R s m args meth c cc nL own D cA A) {x : Int32} (hd : decode cc pc = .ok (.i2b, 1)) (k : G p l e R s m args below meth c nL D cA A Q kc ks AD sh σ loc (pc + 1) (.int x.toInt8.toInt32 :: st)) : G p l e R s m args below meth c nL D cA A Q kc ks AD sh σ loc pc (.int x :: st) :=
  fun ad H locs ls hAD hP hD hS hl => lv_i2b (rest := st.map (vm ad)) X.1 X.2.1 hd rfl (k ad H locs ls hAD hP hD hS hl)
theorem g_i2s (X : Cx p R s m args meth c cc nL own D cA A) {x : Int32} (hd : decode cc pc = .ok (.i2s, 1)) (k : G p l e R s m args below meth c nL D cA A Q kc ks AD sh σ loc (pc + 1) (.int x.toInt16.toInt32 :: st)) : G p l e R s m args below meth c nL D cA A Q kc ks AD sh σ loc pc (.int x :: st) :=
  fun ad H locs ls hAD hP hD hS hl => lv_i2s (rest := st.map (vm ad)) X.1 X.2.1 hd rfl (k ad H locs ls hAD hP hD hS hl)
def iushrF (x y : Int32) : Int32 := (x.toUInt32 >>> (y.toUInt32 &&& Int32.toUInt32 31)).toInt32
def lushrF (x : Int64) (y : Int32) : Int64 := (x.toUInt64 >>> (y.toInt64.toUInt64 &&& Int64.toUInt64 63)).toInt64
def lshlF (x : Int64) (y : Int32) : Int64 := x <<< (y.toInt64 &&& 63)
def lshrF (x : Int64) (y : Int32) : Int64 := x >>> (y.toInt64 &&& 63)
def iremF (x y : Int32) : Int32 := x - x / y * y
def lremF (x y : Int64) : Int64 := x - x / y * y
theorem g_iushr (X : Cx p R s m args meth c cc nL own D cA A) {x y : Int32} (hd : decode cc pc = .ok (.iushr, 1)) (k : G p l e R s m args below meth c nL D cA A Q kc ks AD sh σ loc (pc + 1) (.int (iushrF x y) :: st)) : G p l e R s m args below meth c nL D cA A Q kc ks AD sh σ loc pc (.int y :: .int x :: st) :=
  fun ad H locs ls hAD hP hD hS hl => lv_iushr (rest := st.map (vm ad)) X.1 X.2.1 hd rfl (k ad H locs ls hAD hP hD hS hl)
theorem g_lushr (X : Cx p R s m args meth c cc nL own D cA A) {x : Int64} {y : Int32} (hd : decode cc pc = .ok (.lushr, 1)) (k : G p l e R s m args below meth c nL D cA A Q kc ks AD sh σ loc (pc + 1) (.long (lushrF x y) :: st)) : G p l e R s m args below meth c nL D cA A Q kc ks AD sh σ loc pc (.int y :: .long x :: st) :=
  fun ad H locs ls hAD hP hD hS hl => lv_lushr (rest := st.map (vm ad)) X.1 X.2.1 hd rfl (k ad H locs ls hAD hP hD hS hl)
theorem g_lshl (X : Cx p R s m args meth c cc nL own D cA A) {x : Int64} {y : Int32} (hd : decode cc pc = .ok (.lshl, 1)) (k : G p l e R s m args below meth c nL D cA A Q kc ks AD sh σ loc (pc + 1) (.long (lshlF x y) :: st)) : G p l e R s m args below meth c nL D cA A Q kc ks AD sh σ loc pc (.int y :: .long x :: st) :=
  fun ad H locs ls hAD hP hD hS hl => lv_lshl (rest := st.map (vm ad)) X.1 X.2.1 hd rfl (k ad H locs ls hAD hP hD hS hl)
theorem g_lshr (X : Cx p R s m args meth c cc nL own D cA A) {x : Int64} {y : Int32} (hd : decode cc pc = .ok (.lshr, 1)) (k : G p l e R s m args below meth c nL D cA A Q kc ks AD sh σ loc (pc + 1) (.long (lshrF x y) :: st)) : G p l e R s m args below meth c nL D cA A Q kc ks AD sh σ loc pc (.int y :: .long x :: st) :=
  fun ad H locs ls hAD hP hD hS hl => lv_lshr (rest := st.map (vm ad)) X.1 X.2.1 hd rfl (k ad H locs ls hAD hP hD hS hl)
theorem g_lcmp (X : Cx p R s m args meth c cc nL own D cA A) {x y : Int64} (hd : decode cc pc = .ok (.lcmp, 1)) (k : G p l e R s m args below meth c nL D cA A Q kc ks AD sh σ loc (pc + 1) (.int (lg_cmp x y) :: st)) : G p l e R s m args below meth c nL D cA A Q kc ks AD sh σ loc pc (.long y :: .long x :: st) :=
  fun ad H locs ls hAD hP hD hS hl => W.lcmp (rest := st.map (vm ad)) X.1 X.2.1 hd (k ad H locs ls hAD hP hD hS hl)
theorem g_dadd (X : Cx p R s m args meth c cc nL own D cA A) {x y : UInt64} (hd : decode cc pc = .ok (.dadd, 1)) (hne : vf_n64 (FP.dadd x y)) (k : G p l e R s m args below meth c nL D cA A Q kc ks AD sh σ loc (pc + 1) (.double (FP.dadd x y) :: st)) : G p l e R s m args below meth c nL D cA A Q kc ks AD sh σ loc pc (.double y :: .double x :: st) :=
  fun ad H locs ls hAD hP hD hS hl => lv_dadd (rest := st.map (vm ad)) X.1 X.2.1 hd hne (k ad H locs ls hAD hP hD hS hl)
theorem g_dmul (X : Cx p R s m args meth c cc nL own D cA A) {x y : UInt64} (hd : decode cc pc = .ok (.dmul, 1)) (hne : vf_n64 (FP.dmul x y)) (k : G p l e R s m args below meth c nL D cA A Q kc ks AD sh σ loc (pc + 1) (.double (FP.dmul x y) :: st)) : G p l e R s m args below meth c nL D cA A Q kc ks AD sh σ loc pc (.double y :: .double x :: st) :=
  fun ad H locs ls hAD hP hD hS hl => lv_dmul (rest := st.map (vm ad)) X.1 X.2.1 hd hne (k ad H locs ls hAD hP hD hS hl)
theorem g_ddiv (X : Cx p R s m args meth c cc nL own D cA A) {x y : UInt64} (hd : decode cc pc = .ok (.ddiv, 1)) (hne : vf_n64 (FP.ddiv x y)) (k : G p l e R s m args below meth c nL D cA A Q kc ks AD sh σ loc (pc + 1) (.double (FP.ddiv x y) :: st)) : G p l e R s m args below meth c nL D cA A Q kc ks AD sh σ loc pc (.double y :: .double x :: st) :=
  fun ad H locs ls hAD hP hD hS hl => lv_ddiv (rest := st.map (vm ad)) X.1 X.2.1 hd hne (k ad H locs ls hAD hP hD hS hl)
theorem g_dneg (X : Cx p R s m args meth c cc nL own D cA A) {x : UInt64} (hd : decode cc pc = .ok (.dneg, 1)) (k : G p l e R s m args below meth c nL D cA A Q kc ks AD sh σ loc (pc + 1) (.double (FP.dneg x) :: st)) : G p l e R s m args below meth c nL D cA A Q kc ks AD sh σ loc pc (.double x :: st) :=
  fun ad H locs ls hAD hP hD hS hl => lv_dneg (rest := st.map (vm ad)) X.1 X.2.1 hd (k ad H locs ls hAD hP hD hS hl)
def dcmpF (x y : UInt64) (op : CmpOp) : Int32 := Op.cmpValue (FP.dcmp x y) op
theorem g_dcmp (X : Cx p R s m args meth c cc nL own D cA A) {x y : UInt64} {op : CmpOp} (hd : decode cc pc = .ok (.dcmp op, 1)) (k : G p l e R s m args below meth c nL D cA A Q kc ks AD sh σ loc (pc + 1) (.int (dcmpF x y op) :: st)) : G p l e R s m args below meth c nL D cA A Q kc ks AD sh σ loc pc (.double y :: .double x :: st) :=
  fun ad H locs ls hAD hP hD hS hl => lv_dcmp (rest := st.map (vm ad)) X.1 X.2.1 hd (k ad H locs ls hAD hP hD hS hl)
theorem g_i2d (X : Cx p R s m args meth c cc nL own D cA A) {x : Int32} (hd : decode cc pc = .ok (.i2d, 1)) (k : G p l e R s m args below meth c nL D cA A Q kc ks AD sh σ loc (pc + 1) (.double (FP.i2d x) :: st)) : G p l e R s m args below meth c nL D cA A Q kc ks AD sh σ loc pc (.int x :: st) :=
  fun ad H locs ls hAD hP hD hS hl => lv_i2d (rest := st.map (vm ad)) X.1 X.2.1 hd (k ad H locs ls hAD hP hD hS hl)
theorem g_l2d (X : Cx p R s m args meth c cc nL own D cA A) {x : Int64} (hd : decode cc pc = .ok (.l2d, 1)) (k : G p l e R s m args below meth c nL D cA A Q kc ks AD sh σ loc (pc + 1) (.double (FP.l2d x) :: st)) : G p l e R s m args below meth c nL D cA A Q kc ks AD sh σ loc pc (.long x :: st) :=
  fun ad H locs ls hAD hP hD hS hl => lv_l2d (rest := st.map (vm ad)) X.1 X.2.1 hd (k ad H locs ls hAD hP hD hS hl)
theorem g_d2l (X : Cx p R s m args meth c cc nL own D cA A) {x : UInt64} (hd : decode cc pc = .ok (.d2l, 1)) (k : G p l e R s m args below meth c nL D cA A Q kc ks AD sh σ loc (pc + 1) (.long (FP.d2l x) :: st)) : G p l e R s m args below meth c nL D cA A Q kc ks AD sh σ loc pc (.double x :: st) :=
  fun ad H locs ls hAD hP hD hS hl => lv_d2l (rest := st.map (vm ad)) X.1 X.2.1 hd (k ad H locs ls hAD hP hD hS hl)
theorem g_f2d (X : Cx p R s m args meth c cc nL own D cA A) {x : UInt32} (hd : decode cc pc = .ok (.f2d, 1)) (hne : vf_n64 (FP.f2d x)) (k : G p l e R s m args below meth c nL D cA A Q kc ks AD sh σ loc (pc + 1) (.double (FP.f2d x) :: st)) : G p l e R s m args below meth c nL D cA A Q kc ks AD sh σ loc pc (.float x :: st) :=
  fun ad H locs ls hAD hP hD hS hl => lv_f2d (rest := st.map (vm ad)) X.1 X.2.1 hd hne (k ad H locs ls hAD hP hD hS hl)
theorem g_d2f (X : Cx p R s m args meth c cc nL own D cA A) {x : UInt64} (hd : decode cc pc = .ok (.d2f, 1)) (hne : vf_n32 (FP.d2f x)) (k : G p l e R s m args below meth c nL D cA A Q kc ks AD sh σ loc (pc + 1) (.float (FP.d2f x) :: st)) : G p l e R s m args below meth c nL D cA A Q kc ks AD sh σ loc pc (.double x :: st) :=
  fun ad H locs ls hAD hP hD hS hl => lv_d2f (rest := st.map (vm ad)) X.1 X.2.1 hd hne (k ad H locs ls hAD hP hD hS hl)
theorem g_dup (X : Cx p R s m args meth c cc nL own D cA A) {v : Value} (hd : decode cc pc = .ok (.dup, 1)) (hv : v.category = 1) (k : G p l e R s m args below meth c nL D cA A Q kc ks AD sh σ loc (pc + 1) (v :: v :: st)) : G p l e R s m args below meth c nL D cA A Q kc ks AD sh σ loc pc (v :: st) :=
  fun ad H locs ls hAD hP hD hS hl => lv_dup (va := vm ad v) (rest := st.map (vm ad)) X.1 X.2.1 hd ((vm_cat ad v).trans hv) (k ad H locs ls hAD hP hD hS hl)
theorem g_dup2 (X : Cx p R s m args meth c cc nL own D cA A) {v u : Value} (hd : decode cc pc = .ok (.dup2, 1)) (hv : v.category = 1) (hu : u.category = 1) (k : G p l e R s m args below meth c nL D cA A Q kc ks AD sh σ loc (pc + 1) (v :: u :: v :: u :: st)) : G p l e R s m args below meth c nL D cA A Q kc ks AD sh σ loc pc (v :: u :: st) :=
  fun ad H locs ls hAD hP hD hS hl => lv_dup2_11 (va := vm ad v) (vb := vm ad u) (rest := st.map (vm ad)) X.1 X.2.1 hd ((vm_cat ad v).trans hv) ((vm_cat ad u).trans hu) (k ad H locs ls hAD hP hD hS hl)
theorem g_dup2_2 (X : Cx p R s m args meth c cc nL own D cA A) {v : Value} (hd : decode cc pc = .ok (.dup2, 1)) (hv : v.category = 2) (k : G p l e R s m args below meth c nL D cA A Q kc ks AD sh σ loc (pc + 1) (v :: v :: st)) : G p l e R s m args below meth c nL D cA A Q kc ks AD sh σ loc pc (v :: st) :=
  fun ad H locs ls hAD hP hD hS hl => lv_dup2_2 (va := vm ad v) (rest := st.map (vm ad)) X.1 X.2.1 hd ((vm_cat ad v).trans hv) (k ad H locs ls hAD hP hD hS hl)
theorem g_iload_n (X : Cx p R s m args meth c cc nL own D cA A) {n : Fin 4} {i : Nat} {x : Int32} (j : Nat) (hd : decode cc pc = .ok (.iload_n n, 1)) (hi : (n : Nat) = i) (hj : loc[j]? = some (i, .int x)) (k : G p l e R s m args below meth c nL D cA A Q kc ks AD sh σ loc (pc + 1) (.int x :: st)) : G p l e R s m args below meth c nL D cA A Q kc ks AD sh σ loc pc st :=
  fun ad H locs ls hAD hP hD hS hl => lv_iload_n (rest := st.map (vm ad)) X.1 X.2.1 hd hi (lm_has hl hj) (k ad H locs ls hAD hP hD hS hl)
theorem g_iload (X : Cx p R s m args meth c cc nL own D cA A) {i : Nat} {x : Int32} (j : Nat) (hd : decode cc pc = .ok (.iload i, 2)) (hj : loc[j]? = some (i, .int x)) (k : G p l e R s m args below meth c nL D cA A Q kc ks AD sh σ loc (pc + 2) (.int x :: st)) : G p l e R s m args below meth c nL D cA A Q kc ks AD sh σ loc pc st :=
  fun ad H locs ls hAD hP hD hS hl => lv_iload (rest := st.map (vm ad)) X.1 X.2.1 hd (lm_has hl hj) (k ad H locs ls hAD hP hD hS hl)
theorem g_lload_n (X : Cx p R s m args meth c cc nL own D cA A) {n : Fin 4} {i : Nat} {x : Int64} (j : Nat) (hd : decode cc pc = .ok (.lload_n n, 1)) (hi : (n : Nat) = i) (hj : loc[j]? = some (i, .long x)) (k : G p l e R s m args below meth c nL D cA A Q kc ks AD sh σ loc (pc + 1) (.long x :: st)) : G p l e R s m args below meth c nL D cA A Q kc ks AD sh σ loc pc st :=
  fun ad H locs ls hAD hP hD hS hl => lv_lload_n (rest := st.map (vm ad)) X.1 X.2.1 hd hi (lm_has hl hj) (k ad H locs ls hAD hP hD hS hl)
theorem g_lload (X : Cx p R s m args meth c cc nL own D cA A) {i : Nat} {x : Int64} (j : Nat) (hd : decode cc pc = .ok (.lload i, 2)) (hj : loc[j]? = some (i, .long x)) (k : G p l e R s m args below meth c nL D cA A Q kc ks AD sh σ loc (pc + 2) (.long x :: st)) : G p l e R s m args below meth c nL D cA A Q kc ks AD sh σ loc pc st :=
  fun ad H locs ls hAD hP hD hS hl => lv_lload (rest := st.map (vm ad)) X.1 X.2.1 hd (lm_has hl hj) (k ad H locs ls hAD hP hD hS hl)
theorem g_dload_n (X : Cx p R s m args meth c cc nL own D cA A) {n : Fin 4} {i : Nat} {x : UInt64} (j : Nat) (hd : decode cc pc = .ok (.dload_n n, 1)) (hi : (n : Nat) = i) (hj : loc[j]? = some (i, .double x)) (k : G p l e R s m args below meth c nL D cA A Q kc ks AD sh σ loc (pc + 1) (.double x :: st)) : G p l e R s m args below meth c nL D cA A Q kc ks AD sh σ loc pc st :=
  fun ad H locs ls hAD hP hD hS hl => lv_dload_n (rest := st.map (vm ad)) X.1 X.2.1 hd hi (lm_has hl hj) (k ad H locs ls hAD hP hD hS hl)
theorem g_dload (X : Cx p R s m args meth c cc nL own D cA A) {i : Nat} {x : UInt64} (j : Nat) (hd : decode cc pc = .ok (.dload i, 2)) (hj : loc[j]? = some (i, .double x)) (k : G p l e R s m args below meth c nL D cA A Q kc ks AD sh σ loc (pc + 2) (.double x :: st)) : G p l e R s m args below meth c nL D cA A Q kc ks AD sh σ loc pc st :=
  fun ad H locs ls hAD hP hD hS hl => lv_dload (rest := st.map (vm ad)) X.1 X.2.1 hd (lm_has hl hj) (k ad H locs ls hAD hP hD hS hl)
theorem g_aload_n (X : Cx p R s m args meth c cc nL own D cA A) {n : Fin 4} {i : Nat} {x : Nat} (j : Nat) (hd : decode cc pc = .ok (.aload_n n, 1)) (hi : (n : Nat) = i) (hj : loc[j]? = some (i, .ref x)) (k : G p l e R s m args below meth c nL D cA A Q kc ks AD sh σ loc (pc + 1) (.ref x :: st)) : G p l e R s m args below meth c nL D cA A Q kc ks AD sh σ loc pc st :=
  fun ad H locs ls hAD hP hD hS hl => lv_aload_n (rest := st.map (vm ad)) X.1 X.2.1 hd hi (lm_has hl hj) (k ad H locs ls hAD hP hD hS hl)
theorem g_aload (X : Cx p R s m args meth c cc nL own D cA A) {i : Nat} {x : Nat} (j : Nat) (hd : decode cc pc = .ok (.aload i, 2)) (hj : loc[j]? = some (i, .ref x)) (k : G p l e R s m args below meth c nL D cA A Q kc ks AD sh σ loc (pc + 2) (.ref x :: st)) : G p l e R s m args below meth c nL D cA A Q kc ks AD sh σ loc pc st :=
  fun ad H locs ls hAD hP hD hS hl => lv_aload (rest := st.map (vm ad)) X.1 X.2.1 hd (lm_has hl hj) (k ad H locs ls hAD hP hD hS hl)
theorem g_istore_n (X : Cx p R s m args meth c cc nL own D cA A) {n : Fin 4} {i : Nat} {x : Int32} (loc' : List (Nat × Value)) (hd : decode cc pc = .ok (.istore_n n, 1)) (hi : (n : Nat) = i) (hb : i < nL) (hn' : (i, .int x) :: loc.filter (fun q => !(q.1 == i) && !(q.1 + 1 == i && q.2.category == 2)) = loc') (k : G p l e R s m args below meth c nL D cA A Q kc ks AD sh σ loc' (pc + 1) st) : G p l e R s m args below meth c nL D cA A Q kc ks AD sh σ loc pc (.int x :: st) :=
  fun ad H locs ls hAD hP hD hS hl => lv_istore_n (rest := st.map (vm ad)) (lv' := lm ad loc') X.1 X.2.1 hd hi hl hb (by rw [← hn']; show (i, Value.int x) :: (lm ad loc).filter (fun q => !(q.1 == i) && !(q.1 + 1 == i && q.2.category == 2)) = lm ad ((i, .int x) :: loc.filter (fun q => !(q.1 == i) && !(q.1 + 1 == i && q.2.category == 2))); rw [lm_filter ad (fun a b => !(a == i) && !(a + 1 == i && b == 2)) loc]; rfl) (fun ls' hl' => k ad H locs ls' hAD hP hD hS hl')
theorem g_istore (X : Cx p R s m args meth c cc nL own D cA A) {i : Nat} {x : Int32} (loc' : List (Nat × Value)) (hd : decode cc pc = .ok (.istore i, 2)) (hb : i < nL) (hn' : (i, .int x) :: loc.filter (fun q => !(q.1 == i) && !(q.1 + 1 == i && q.2.category == 2)) = loc') (k : G p l e R s m args below meth c nL D cA A Q kc ks AD sh σ loc' (pc + 2) st) : G p l e R s m args below meth c nL D cA A Q kc ks AD sh σ loc pc (.int x :: st) :=
  fun ad H locs ls hAD hP hD hS hl => lv_istore (rest := st.map (vm ad)) (lv' := lm ad loc') X.1 X.2.1 hd hl hb (by rw [← hn']; show (i, Value.int x) :: (lm ad loc).filter (fun q => !(q.1 == i) && !(q.1 + 1 == i && q.2.category == 2)) = lm ad ((i, .int x) :: loc.filter (fun q => !(q.1 == i) && !(q.1 + 1 == i && q.2.category == 2))); rw [lm_filter ad (fun a b => !(a == i) && !(a + 1 == i && b == 2)) loc]; rfl) (fun ls' hl' => k ad H locs ls' hAD hP hD hS hl')
theorem g_lstore_n (X : Cx p R s m args meth c cc nL own D cA A) {n : Fin 4} {i : Nat} {x : Int64} (loc' : List (Nat × Value)) (hd : decode cc pc = .ok (.lstore_n n, 1)) (hi : (n : Nat) = i) (hb : i + 1 < nL) (hn' : (i, .long x) :: loc.filter (fun q => !(q.1 == i) && (!(q.1 == i + 1) && !(q.1 + 1 == i && q.2.category == 2))) = loc') (k : G p l e R s m args below meth c nL D cA A Q kc ks AD sh σ loc' (pc + 1) st) : G p l e R s m args below meth c nL D cA A Q kc ks AD sh σ loc pc (.long x :: st) :=
  fun ad H locs ls hAD hP hD hS hl => lv_lstore_n (rest := st.map (vm ad)) (lv' := lm ad loc') X.1 X.2.1 hd hi hl hb (by rw [← hn']; show (i, Value.long x) :: (lm ad loc).filter (fun q => !(q.1 == i) && (!(q.1 == i + 1) && !(q.1 + 1 == i && q.2.category == 2))) = lm ad ((i, .long x) :: loc.filter (fun q => !(q.1 == i) && (!(q.1 == i + 1) && !(q.1 + 1 == i && q.2.category == 2)))); rw [lm_filter ad (fun a b => !(a == i) && (!(a == i + 1) && !(a + 1 == i && b == 2))) loc]; rfl) (fun ls' hl' => k ad H locs ls' hAD hP hD hS hl')
theorem g_lstore (X : Cx p R s m args meth c cc nL own D cA A) {i : Nat} {x : Int64} (loc' : List (Nat × Value)) (hd : decode cc pc = .ok (.lstore i, 2)) (hb : i + 1 < nL) (hn' : (i, .long x) :: loc.filter (fun q => !(q.1 == i) && (!(q.1 == i + 1) && !(q.1 + 1 == i && q.2.category == 2))) = loc') (k : G p l e R s m args below meth c nL D cA A Q kc ks AD sh σ loc' (pc + 2) st) : G p l e R s m args below meth c nL D cA A Q kc ks AD sh σ loc pc (.long x :: st) :=
  fun ad H locs ls hAD hP hD hS hl => lv_lstore (rest := st.map (vm ad)) (lv' := lm ad loc') X.1 X.2.1 hd hl hb (by rw [← hn']; show (i, Value.long x) :: (lm ad loc).filter (fun q => !(q.1 == i) && (!(q.1 == i + 1) && !(q.1 + 1 == i && q.2.category == 2))) = lm ad ((i, .long x) :: loc.filter (fun q => !(q.1 == i) && (!(q.1 == i + 1) && !(q.1 + 1 == i && q.2.category == 2)))); rw [lm_filter ad (fun a b => !(a == i) && (!(a == i + 1) && !(a + 1 == i && b == 2))) loc]; rfl) (fun ls' hl' => k ad H locs ls' hAD hP hD hS hl')
theorem g_dstore_n (X : Cx p R s m args meth c cc nL own D cA A) {n : Fin 4} {i : Nat} {x : UInt64} (loc' : List (Nat × Value)) (hd : decode cc pc = .ok (.dstore_n n, 1)) (hi : (n : Nat) = i) (hb : i + 1 < nL) (hn' : (i, .double x) :: loc.filter (fun q => !(q.1 == i) && (!(q.1 == i + 1) && !(q.1 + 1 == i && q.2.category == 2))) = loc') (k : G p l e R s m args below meth c nL D cA A Q kc ks AD sh σ loc' (pc + 1) st) : G p l e R s m args below meth c nL D cA A Q kc ks AD sh σ loc pc (.double x :: st) :=
  fun ad H locs ls hAD hP hD hS hl => lv_dstore_n (rest := st.map (vm ad)) (lv' := lm ad loc') X.1 X.2.1 hd hi hl hb (by rw [← hn']; show (i, Value.double x) :: (lm ad loc).filter (fun q => !(q.1 == i) && (!(q.1 == i + 1) && !(q.1 + 1 == i && q.2.category == 2))) = lm ad ((i, .double x) :: loc.filter (fun q => !(q.1 == i) && (!(q.1 == i + 1) && !(q.1 + 1 == i && q.2.category == 2)))); rw [lm_filter ad (fun a b => !(a == i) && (!(a == i + 1) && !(a + 1 == i && b == 2))) loc]; rfl) (fun ls' hl' => k ad H locs ls' hAD hP hD hS hl')
theorem g_dstore (X : Cx p R s m args meth c cc nL own D cA A) {i : Nat} {x : UInt64} (loc' : List (Nat × Value)) (hd : decode cc pc = .ok (.dstore i, 2)) (hb : i + 1 < nL) (hn' : (i, .double x) :: loc.filter (fun q => !(q.1 == i) && (!(q.1 == i + 1) && !(q.1 + 1 == i && q.2.category == 2))) = loc') (k : G p l e R s m args below meth c nL D cA A Q kc ks AD sh σ loc' (pc + 2) st) : G p l e R s m args below meth c nL D cA A Q kc ks AD sh σ loc pc (.double x :: st) :=
  fun ad H locs ls hAD hP hD hS hl => lv_dstore (rest := st.map (vm ad)) (lv' := lm ad loc') X.1 X.2.1 hd hl hb (by rw [← hn']; show (i, Value.double x) :: (lm ad loc).filter (fun q => !(q.1 == i) && (!(q.1 == i + 1) && !(q.1 + 1 == i && q.2.category == 2))) = lm ad ((i, .double x) :: loc.filter (fun q => !(q.1 == i) && (!(q.1 == i + 1) && !(q.1 + 1 == i && q.2.category == 2)))); rw [lm_filter ad (fun a b => !(a == i) && (!(a == i + 1) && !(a + 1 == i && b == 2))) loc]; rfl) (fun ls' hl' => k ad H locs ls' hAD hP hD hS hl')
theorem g_astore_n (X : Cx p R s m args meth c cc nL own D cA A) {n : Fin 4} {i : Nat} {x : Nat} (loc' : List (Nat × Value)) (hd : decode cc pc = .ok (.astore_n n, 1)) (hi : (n : Nat) = i) (hb : i < nL) (hn' : (i, .ref x) :: loc.filter (fun q => !(q.1 == i) && !(q.1 + 1 == i && q.2.category == 2)) = loc') (k : G p l e R s m args below meth c nL D cA A Q kc ks AD sh σ loc' (pc + 1) st) : G p l e R s m args below meth c nL D cA A Q kc ks AD sh σ loc pc (.ref x :: st) :=
  fun ad H locs ls hAD hP hD hS hl => lv_astore_n (rest := st.map (vm ad)) (lv' := lm ad loc') X.1 X.2.1 hd hi hl hb (by rw [← hn']; show (i, Value.ref (ad x)) :: (lm ad loc).filter (fun q => !(q.1 == i) && !(q.1 + 1 == i && q.2.category == 2)) = lm ad ((i, .ref x) :: loc.filter (fun q => !(q.1 == i) && !(q.1 + 1 == i && q.2.category == 2))); rw [lm_filter ad (fun a b => !(a == i) && !(a + 1 == i && b == 2)) loc]; rfl) (fun ls' hl' => k ad H locs ls' hAD hP hD hS hl')
theorem g_astore (X : Cx p R s m args meth c cc nL own D cA A) {i : Nat} {x : Nat} (loc' : List (Nat × Value)) (hd : decode cc pc = .ok (.astore i, 2)) (hb : i < nL) (hn' : (i, .ref x) :: loc.filter (fun q => !(q.1 == i) && !(q.1 + 1 == i && q.2.category == 2)) = loc') (k : G p l e R s m args below meth c nL D cA A Q kc ks AD sh σ loc' (pc + 2) st) : G p l e R s m args below meth c nL D cA A Q kc ks AD sh σ loc pc (.ref x :: st) :=
  fun ad H locs ls hAD hP hD hS hl => lv_astore (rest := st.map (vm ad)) (lv' := lm ad loc') X.1 X.2.1 hd hl hb (by rw [← hn']; show (i, Value.ref (ad x)) :: (lm ad loc).filter (fun q => !(q.1 == i) && !(q.1 + 1 == i && q.2.category == 2)) = lm ad ((i, .ref x) :: loc.filter (fun q => !(q.1 == i) && !(q.1 + 1 == i && q.2.category == 2))); rw [lm_filter ad (fun a b => !(a == i) && !(a + 1 == i && b == 2)) loc]; rfl) (fun ls' hl' => k ad H locs ls' hAD hP hD hS hl')
theorem g_iinc (X : Cx p R s m args meth c cc nL own D cA A) {i : Nat} {n : Int} {x : Int32} (j : Nat) (v : Int32) (loc' : List (Nat × Value)) (hd : decode cc pc = .ok (.iinc i n, 3)) (hj : loc[j]? = some (i, .int x)) (hv : Int32.ofInt n = v) (hb : i < nL) (hn' : (i, .int (x + v)) :: loc.filter (fun q => !(q.1 == i) && !(q.1 + 1 == i && q.2.category == 2)) = loc') (k : G p l e R s m args below meth c nL D cA A Q kc ks AD sh σ loc' (pc + 3) st) : G p l e R s m args below meth c nL D cA A Q kc ks AD sh σ loc pc st :=
  fun ad H locs ls hAD hP hD hS hl => lv_iinc (rest := st.map (vm ad)) (lv' := lm ad loc') X.1 X.2.1 hd hl (lm_at hj) (by rw [hv]) hb (by rw [← hn']; show (i, Value.int (x + v)) :: (lm ad loc).filter (fun q => !(q.1 == i) && !(q.1 + 1 == i && q.2.category == 2)) = lm ad ((i, .int (x + v)) :: loc.filter (fun q => !(q.1 == i) && !(q.1 + 1 == i && q.2.category == 2))); rw [lm_filter ad (fun a b => !(a == i) && !(a + 1 == i && b == 2)) loc]; rfl) (fun ls' hl' => k ad H locs ls' hAD hP hD hS hl')
theorem g_if_eq (X : Cx p R s m args meth c cc nL own D cA A) {x : Int32} {off : Int} (tgt : Nat) (hd : decode cc pc = .ok (.ifCond .eq off, 3)) (ht : (pc : Int) + off = (tgt : Int)) (kt : x = 0 → G p l e R s m args below meth c nL D cA A Q kc ks AD sh σ loc tgt st) (kf : ¬ x = 0 → G p l e R s m args below meth c nL D cA A Q kc ks AD sh σ loc (pc + 3) st) : G p l e R s m args below meth c nL D cA A Q kc ks AD sh σ loc pc (.int x :: st) :=
  fun ad H locs ls hAD hP hD hS hl => lv_if_eq (rest := st.map (vm ad)) X.1 X.2.1 hd ht (fun q => kt q ad H locs ls hAD hP hD hS hl) (fun q => kf q ad H locs ls hAD hP hD hS hl)
theorem g_icmp_eq (X : Cx p R s m args meth c cc nL own D cA A) {x y : Int32} {off : Int} (tgt : Nat) (hd : decode cc pc = .ok (.if_icmp .eq off, 3)) (ht : (pc : Int) + off = (tgt : Int)) (kt : x = y → G p l e R s m args below meth c nL D cA A Q kc ks AD sh σ loc tgt st) (kf : ¬ x = y → G p l e R s m args below meth c nL D cA A Q kc ks AD sh σ loc (pc + 3) st) : G p l e R s m args below meth c nL D cA A Q kc ks AD sh σ loc pc (.int y :: .int x :: st) :=
  fun ad H locs ls hAD hP hD hS hl => lv_icmp_eq (rest := st.map (vm ad)) X.1 X.2.1 hd ht (fun q => kt q ad H locs ls hAD hP hD hS hl) (fun q => kf q ad H locs ls hAD hP hD hS hl)
theorem g_if_ne (X : Cx p R s m args meth c cc nL own D cA A) {x : Int32} {off : Int} (tgt : Nat) (hd : decode cc pc = .ok (.ifCond .ne off, 3)) (ht : (pc : Int) + off = (tgt : Int)) (kt : ¬ x = 0 → G p l e R s m args below meth c nL D cA A Q kc ks AD sh σ loc tgt st) (kf : x = 0 → G p l e R s m args below meth c nL D cA A Q kc ks AD sh σ loc (pc + 3) st) : G p l e R s m args below meth c nL D cA A Q kc ks AD sh σ loc pc (.int x :: st) :=
  fun ad H locs ls hAD hP hD hS hl => lv_if_ne (rest := st.map (vm ad)) X.1 X.2.1 hd ht (fun q => kt q ad H locs ls hAD hP hD hS hl) (fun q => kf q ad H locs ls hAD hP hD hS hl)
theorem g_icmp_ne (X : Cx p R s m args meth c cc nL own D cA A) {x y : Int32} {off : Int} (tgt : Nat) (hd : decode cc pc = .ok (.if_icmp .ne off, 3)) (ht : (pc : Int) + off = (tgt : Int)) (kt : ¬ x = y → G p l e R s m args below meth c nL D cA A Q kc ks AD sh σ loc tgt st) (kf : x = y → G p l e R s m args below meth c nL D cA A Q kc ks AD sh σ loc (pc + 3) st) : G p l e R s m args below meth c nL D cA A Q kc ks AD sh σ loc pc (.int y :: .int x :: st) :=
  fun ad H locs ls hAD hP hD hS hl => lv_icmp_ne (rest := st.map (vm ad)) X.1 X.2.1 hd ht (fun q => kt q ad H locs ls hAD hP hD hS hl) (fun q => kf q ad H locs ls hAD hP hD hS hl)
theorem g_if_lt (X : Cx p R s m args meth c cc nL own D cA A) {x : Int32} {off : Int} (tgt : Nat) (hd : decode cc pc = .ok (.ifCond .lt off, 3)) (ht : (pc : Int) + off = (tgt : Int)) (kt : x < 0 → G p l e R s m args below meth c nL D cA A Q kc ks AD sh σ loc tgt st) (kf : ¬ x < 0 → G p l e R s m args below meth c nL D cA A Q kc ks AD sh σ loc (pc + 3) st) : G p l e R s m args below meth c nL D cA A Q kc ks AD sh σ loc pc (.int x :: st) :=
  fun ad H locs ls hAD hP hD hS hl => lv_if_lt (rest := st.map (vm ad)) X.1 X.2.1 hd ht (fun q => kt q ad H locs ls hAD hP hD hS hl) (fun q => kf q ad H locs ls hAD hP hD hS hl)
theorem g_icmp_lt (X : Cx p R s m args meth c cc nL own D cA A) {x y : Int32} {off : Int} (tgt : Nat) (hd : decode cc pc = .ok (.if_icmp .lt off, 3)) (ht : (pc : Int) + off = (tgt : Int)) (kt : x < y → G p l e R s m args below meth c nL D cA A Q kc ks AD sh σ loc tgt st) (kf : ¬ x < y → G p l e R s m args below meth c nL D cA A Q kc ks AD sh σ loc (pc + 3) st) : G p l e R s m args below meth c nL D cA A Q kc ks AD sh σ loc pc (.int y :: .int x :: st) :=
  fun ad H locs ls hAD hP hD hS hl => lv_icmp_lt (rest := st.map (vm ad)) X.1 X.2.1 hd ht (fun q => kt q ad H locs ls hAD hP hD hS hl) (fun q => kf q ad H locs ls hAD hP hD hS hl)
theorem g_if_ge (X : Cx p R s m args meth c cc nL own D cA A) {x : Int32} {off : Int} (tgt : Nat) (hd : decode cc pc = .ok (.ifCond .ge off, 3)) (ht : (pc : Int) + off = (tgt : Int)) (kt : 0 ≤ x → G p l e R s m args below meth c nL D cA A Q kc ks AD sh σ loc tgt st) (kf : ¬ 0 ≤ x → G p l e R s m args below meth c nL D cA A Q kc ks AD sh σ loc (pc + 3) st) : G p l e R s m args below meth c nL D cA A Q kc ks AD sh σ loc pc (.int x :: st) :=
  fun ad H locs ls hAD hP hD hS hl => lv_if_ge (rest := st.map (vm ad)) X.1 X.2.1 hd ht (fun q => kt q ad H locs ls hAD hP hD hS hl) (fun q => kf q ad H locs ls hAD hP hD hS hl)
theorem g_icmp_ge (X : Cx p R s m args meth c cc nL own D cA A) {x y : Int32} {off : Int} (tgt : Nat) (hd : decode cc pc = .ok (.if_icmp .ge off, 3)) (ht : (pc : Int) + off = (tgt : Int)) (kt : y ≤ x → G p l e R s m args below meth c nL D cA A Q kc ks AD sh σ loc tgt st) (kf : ¬ y ≤ x → G p l e R s m args below meth c nL D cA A Q kc ks AD sh σ loc (pc + 3) st) : G p l e R s m args below meth c nL D cA A Q kc ks AD sh σ loc pc (.int y :: .int x :: st) :=
  fun ad H locs ls hAD hP hD hS hl => lv_icmp_ge (rest := st.map (vm ad)) X.1 X.2.1 hd ht (fun q => kt q ad H locs ls hAD hP hD hS hl) (fun q => kf q ad H locs ls hAD hP hD hS hl)
theorem g_if_gt (X : Cx p R s m args meth c cc nL own D cA A) {x : Int32} {off : Int} (tgt : Nat) (hd : decode cc pc = .ok (.ifCond .gt off, 3)) (ht : (pc : Int) + off = (tgt : Int)) (kt : 0 < x → G p l e R s m args below meth c nL D cA A Q kc ks AD sh σ loc tgt st) (kf : ¬ 0 < x → G p l e R s m args below meth c nL D cA A Q kc ks AD sh σ loc (pc + 3) st) : G p l e R s m args below meth c nL D cA A Q kc ks AD sh σ loc pc (.int x :: st) :=
  fun ad H locs ls hAD hP hD hS hl => lv_if_gt (rest := st.map (vm ad)) X.1 X.2.1 hd ht (fun q => kt q ad H locs ls hAD hP hD hS hl) (fun q => kf q ad H locs ls hAD hP hD hS hl)
theorem g_icmp_gt (X : Cx p R s m args meth c cc nL own D cA A) {x y : Int32} {off : Int} (tgt : Nat) (hd : decode cc pc = .ok (.if_icmp .gt off, 3)) (ht : (pc : Int) + off = (tgt : Int)) (kt : y < x → G p l e R s m args below meth c nL D cA A Q kc ks AD sh σ loc tgt st) (kf : ¬ y < x → G p l e R s m args below meth c nL D cA A Q kc ks AD sh σ loc (pc + 3) st) : G p l e R s m args below meth c nL D cA A Q kc ks AD sh σ loc pc (.int y :: .int x :: st) :=
  fun ad H locs ls hAD hP hD hS hl => lv_icmp_gt (rest := st.map (vm ad)) X.1 X.2.1 hd ht (fun q => kt q ad H locs ls hAD hP hD hS hl) (fun q => kf q ad H locs ls hAD hP hD hS hl)
theorem g_if_le (X : Cx p R s m args meth c cc nL own D cA A) {x : Int32} {off : Int} (tgt : Nat) (hd : decode cc pc = .ok (.ifCond .le off, 3)) (ht : (pc : Int) + off = (tgt : Int)) (kt : x ≤ 0 → G p l e R s m args below meth c nL D cA A Q kc ks AD sh σ loc tgt st) (kf : ¬ x ≤ 0 → G p l e R s m args below meth c nL D cA A Q kc ks AD sh σ loc (pc + 3) st) : G p l e R s m args below meth c nL D cA A Q kc ks AD sh σ loc pc (.int x :: st) :=
  fun ad H locs ls hAD hP hD hS hl => lv_if_le (rest := st.map (vm ad)) X.1 X.2.1 hd ht (fun q => kt q ad H locs ls hAD hP hD hS hl) (fun q => kf q ad H locs ls hAD hP hD hS hl)
theorem g_icmp_le (X : Cx p R s m args meth c cc nL own D cA A) {x y : Int32} {off : Int} (tgt : Nat) (hd : decode cc pc = .ok (.if_icmp .le off, 3)) (ht : (pc : Int) + off = (tgt : Int)) (kt : x ≤ y → G p l e R s m args below meth c nL D cA A Q kc ks AD sh σ loc tgt st) (kf : ¬ x ≤ y → G p l e R s m args below meth c nL D cA A Q kc ks AD sh σ loc (pc + 3) st) : G p l e R s m args below meth c nL D cA A Q kc ks AD sh σ loc pc (.int y :: .int x :: st) :=
  fun ad H locs ls hAD hP hD hS hl => lv_icmp_le (rest := st.map (vm ad)) X.1 X.2.1 hd ht (fun q => kt q ad H locs ls hAD hP hD hS hl) (fun q => kf q ad H locs ls hAD hP hD hS hl)
theorem g_goto (X : Cx p R s m args meth c cc nL own D cA A) {off : Int} (tgt : Nat) (hd : decode cc pc = .ok (.goto off, 3)) (ht : (pc : Int) + off = (tgt : Int)) (k : G p l e R s m args below meth c nL D cA A Q kc ks AD sh σ loc tgt st) : G p l e R s m args below meth c nL D cA A Q kc ks AD sh σ loc pc st :=
  fun ad H locs ls hAD hP hD hS hl => lv_goto (rest := st.map (vm ad)) X.1 X.2.1 hd ht (k ad H locs ls hAD hP hD hS hl)
theorem g_tabOut (X : Cx p R s m args meth c cc nL own D cA A) {dflt lo hi : Int} {offs : Array Int} {len : Nat} {x : Int32} (tgt : Nat) (hd : decode cc pc = .ok (.tableswitch dflt lo hi offs, len)) (h : x.toInt < lo ∨ hi < x.toInt) (ht : (pc : Int) + dflt = (tgt : Int)) (k : G p l e R s m args below meth c nL D cA A Q kc ks AD sh σ loc tgt st) : G p l e R s m args below meth c nL D cA A Q kc ks AD sh σ loc pc (.int x :: st) :=
  fun ad H locs ls hAD hP hD hS hl => lv_tableOut (rest := st.map (vm ad)) X.1 X.2.1 hd h ht (k ad H locs ls hAD hP hD hS hl)
theorem g_tabIn (X : Cx p R s m args meth c cc nL own D cA A) {dflt lo hi : Int} {offs : Array Int} {len : Nat} {x : Int32} (tgt : Nat) (off : Int) (hd : decode cc pc = .ok (.tableswitch dflt lo hi offs, len)) (h1 : ¬ x.toInt < lo) (h2 : ¬ hi < x.toInt) (ho : offs[(x.toInt - lo).toNat]? = some off) (ht : (pc : Int) + off = (tgt : Int)) (k : G p l e R s m args below meth c nL D cA A Q kc ks AD sh σ loc tgt st) : G p l e R s m args below meth c nL D cA A Q kc ks AD sh σ loc pc (.int x :: st) :=
  fun ad H locs ls hAD hP hD hS hl => lv_tableIn (rest := st.map (vm ad)) X.1 X.2.1 hd h1 h2 ho ht (k ad H locs ls hAD hP hD hS hl)
theorem g_weak (ks' : List Nat) {loc' : List (Nat × Value)} (h : lv_pick loc ks' = loc') (k : G p l e R s m args below meth c nL D cA A Q kc ks AD sh σ loc' pc st) : G p l e R s m args below meth c nL D cA A Q kc ks AD sh σ loc pc st :=
  fun ad H locs ls hAD hP hD hS hl => k ad H locs ls hAD hP hD hS (lm_sub ks' h hl)
theorem g_getI (X : Cx p R s m args meth c cc nL own D cA A) {C : String} {T : u_T} {N b ci index : Nat} (j : Nat) (hd : decode cc pc = .ok (.getfield index, 3)) (hb : b < sh.1) (hk : sh.2.1 b = .inl ci) (hc : cls[ci]? = some (C, T, N)) (hN : nf ci = N) (hin : ∀ w ∈ u_ws C T N, w ∈ GW) (hj : j < N) (hf : ft ci j = 0) (hlink : Cond.fieldLink own index (T j).1 (T j).2.1 (T j).2.2.1 ∈ GW) (k : G p l e R s m args below meth c nL D cA A Q kc ks AD sh σ loc (pc + 3) (.int (gI σ b j) :: st)) : G p l e R s m args below meth c nL D cA A Q kc ks AD sh σ loc pc (.ref b :: st) := by
  intro ad H locs ls hAD hP hD hS hl
  subst hN
  refine va_get (rest := st.map (vm ad)) (v := .int (gI σ b j)) (tys := tysA cA) X.1 X.2.1 X.2.2.2.2.1 hin X.2.2.2.1 X.2.2.2.2.2.2.1 hP b ((wd_at hb).trans (by rw [ce_o hk])) hc j hj (X.2.2.2.2.1 _ hlink) (fun _ h => h) ((fl_at hj).trans (by rw [hf]; rfl)) hd (k ad H locs ls hAD hP hD hS hl)
theorem g_putI (X : Cx p R s m args meth c cc nL own D cA A) {C : String} {T : u_T} {N b ci index : Nat} {ty0 : Nat → FieldType} {x : Int32} (j : Nat) (hd : decode cc pc = .ok (.putfield index, 3)) (hb : b < sh.1) (hk : sh.2.1 b = .inl ci) (hc : cls[ci]? = some (C, T, N)) (hN : nf ci = N) (hin : ∀ w ∈ u_ws C T N, w ∈ GW) (hty : ∀ k, k < N → parseFieldDescriptor (T k).2.2.1 = some (ty0 k)) (hnm : ∀ a, a < N → ∀ b, b < N → a ≠ b → (T a).2.1 ≠ (T b).2.1) (hj : j < N) (hf : ft ci j = 0) (hfin : (T j).2.2.2 = false) (hlink : Cond.fieldLink own index (T j).1 (T j).2.1 (T j).2.2.1 ∈ GW) (hn : narrow (ty0 j) (.int x) = .int x) (hfit : fits (ty0 j) (.int x) = true) (k : G p l e R s m args below meth c nL D cA A Q kc ks AD sh (uI σ b j x) loc (pc + 3) st) : G p l e R s m args below meth c nL D cA A Q kc ks AD sh σ loc pc (.int x :: .ref b :: st) := by
  intro ad H locs ls hAD hP hD hS hl
  subst hN
  have e1 : (wd cA ad sh σ).set b (ad b, .inr (ci, ((List.range (nf ci)).map (fun j => fv ad sh σ b (ft ci j) j)).set j (.int x))) = wd cA ad sh (uI σ b j x) := by
    refine wd_set ?_ ce_oI
    rw [ce_o hk]
    have h1 := fl_set (ad := ad) (sh := sh) (sh' := sh) (σ := σ) (σ' := uI σ b j x) (c := b) (ci := ci) (j := j) hj (fun q hq => by unfold fv; simp only [gI_uI, gJ_uJ, gD_uD, gI_uJ, gI_uD, gJ_uI, gJ_uD, gD_uI, gD_uJ, hq, and_false, if_false])
    rw [show fv ad sh (uI σ b j x) b (ft ci j) j = .int x by rw [hf]; simp only [fv, gI_uI, and_self, if_true]] at h1
    rw [h1]
  refine va_put (rest := st.map (vm ad)) (v := .int x) (tys := tysA cA) X.1 X.2.1 X.2.2.2.2.1 hin ty0 hty hnm X.2.2.2.1 X.2.2.2.2.2.2.1 hP hD hS b ((wd_at hb).trans (by rw [ce_o hk])) hc j hj (X.2.2.2.2.1 _ hlink) (fun _ h => h) hfin (hty j hj) hn hfit (by simp; exact hj) hd (fun H1 locs1 hP1 hD1 hS1 => ?_)
  rw [e1] at hP1 hD1
  exact k ad H1 locs1 ls hAD hP1 hD1 hS1 hl
theorem g_getJ (X : Cx p R s m args meth c cc nL own D cA A) {C : String} {T : u_T} {N b ci index : Nat} (j : Nat) (hd : decode cc pc = .ok (.getfield index, 3)) (hb : b < sh.1) (hk : sh.2.1 b = .inl ci) (hc : cls[ci]? = some (C, T, N)) (hN : nf ci = N) (hin : ∀ w ∈ u_ws C T N, w ∈ GW) (hj : j < N) (hf : ft ci j = 1) (hlink : Cond.fieldLink own index (T j).1 (T j).2.1 (T j).2.2.1 ∈ GW) (k : G p l e R s m args below meth c nL D cA A Q kc ks AD sh σ loc (pc + 3) (.long (gJ σ b j) :: st)) : G p l e R s m args below meth c nL D cA A Q kc ks AD sh σ loc pc (.ref b :: st) := by
  intro ad H locs ls hAD hP hD hS hl
  subst hN
  refine va_get (rest := st.map (vm ad)) (v := .long (gJ σ b j)) (tys := tysA cA) X.1 X.2.1 X.2.2.2.2.1 hin X.2.2.2.1 X.2.2.2.2.2.2.1 hP b ((wd_at hb).trans (by rw [ce_o hk])) hc j hj (X.2.2.2.2.1 _ hlink) (fun _ h => h) ((fl_at hj).trans (by rw [hf]; rfl)) hd (k ad H locs ls hAD hP hD hS hl)
theorem g_putJ (X : Cx p R s m args meth c cc nL own D cA A) {C : String} {T : u_T} {N b ci index : Nat} {ty0 : Nat → FieldType} {x : Int64} (j : Nat) (hd : decode cc pc = .ok (.putfield index, 3)) (hb : b < sh.1) (hk : sh.2.1 b = .inl ci) (hc : cls[ci]? = some (C, T, N)) (hN : nf ci = N) (hin : ∀ w ∈ u_ws C T N, w ∈ GW) (hty : ∀ k, k < N → parseFieldDescriptor (T k).2.2.1 = some (ty0 k)) (hnm : ∀ a, a < N → ∀ b, b < N → a ≠ b → (T a).2.1 ≠ (T b).2.1) (hj : j < N) (hf : ft ci j = 1) (hfin : (T j).2.2.2 = false) (hlink : Cond.fieldLink own index (T j).1 (T j).2.1 (T j).2.2.1 ∈ GW) (hn : narrow (ty0 j) (.long x) = .long x) (hfit : fits (ty0 j) (.long x) = true) (k : G p l e R s m args below meth c nL D cA A Q kc ks AD sh (uJ σ b j x) loc (pc + 3) st) : G p l e R s m args below meth c nL D cA A Q kc ks AD sh σ loc pc (.long x :: .ref b :: st) := by
  intro ad H locs ls hAD hP hD hS hl
  subst hN
  have e1 : (wd cA ad sh σ).set b (ad b, .inr (ci, ((List.range (nf ci)).map (fun j => fv ad sh σ b (ft ci j) j)).set j (.long x))) = wd cA ad sh (uJ σ b j x) := by
    refine wd_set ?_ ce_oJ
    rw [ce_o hk]
    have h1 := fl_set (ad := ad) (sh := sh) (sh' := sh) (σ := σ) (σ' := uJ σ b j x) (c := b) (ci := ci) (j := j) hj (fun q hq => by unfold fv; simp only [gI_uI, gJ_uJ, gD_uD, gI_uJ, gI_uD, gJ_uI, gJ_uD, gD_uI, gD_uJ, hq, and_false, if_false])
    rw [show fv ad sh (uJ σ b j x) b (ft ci j) j = .long x by rw [hf]; simp only [fv, gJ_uJ, and_self, if_true]] at h1
    rw [h1]
  refine va_put (rest := st.map (vm ad)) (v := .long x) (tys := tysA cA) X.1 X.2.1 X.2.2.2.2.1 hin ty0 hty hnm X.2.2.2.1 X.2.2.2.2.2.2.1 hP hD hS b ((wd_at hb).trans (by rw [ce_o hk])) hc j hj (X.2.2.2.2.1 _ hlink) (fun _ h => h) hfin (hty j hj) hn hfit (by simp; exact hj) hd (fun H1 locs1 hP1 hD1 hS1 => ?_)
  rw [e1] at hP1 hD1
  exact k ad H1 locs1 ls hAD hP1 hD1 hS1 hl
theorem g_getD (X : Cx p R s m args meth c cc nL own D cA A) {C : String} {T : u_T} {N b ci index : Nat} (j : Nat) (hd : decode cc pc = .ok (.getfield index, 3)) (hb : b < sh.1) (hk : sh.2.1 b = .inl ci) (hc : cls[ci]? = some (C, T, N)) (hN : nf ci = N) (hin : ∀ w ∈ u_ws C T N, w ∈ GW) (hj : j < N) (hf : ft ci j = 2) (hlink : Cond.fieldLink own index (T j).1 (T j).2.1 (T j).2.2.1 ∈ GW) (k : G p l e R s m args below meth c nL D cA A Q kc ks AD sh σ loc (pc + 3) (.double (gD σ b j) :: st)) : G p l e R s m args below meth c nL D cA A Q kc ks AD sh σ loc pc (.ref b :: st) := by
  intro ad H locs ls hAD hP hD hS hl
  subst hN
  refine va_get (rest := st.map (vm ad)) (v := .double (gD σ b j)) (tys := tysA cA) X.1 X.2.1 X.2.2.2.2.1 hin X.2.2.2.1 X.2.2.2.2.2.2.1 hP b ((wd_at hb).trans (by rw [ce_o hk])) hc j hj (X.2.2.2.2.1 _ hlink) (fun _ h => h) ((fl_at hj).trans (by rw [hf]; rfl)) hd (k ad H locs ls hAD hP hD hS hl)
theorem g_putD (X : Cx p R s m args meth c cc nL own D cA A) {C : String} {T : u_T} {N b ci index : Nat} {ty0 : Nat → FieldType} {x : UInt64} (j : Nat) (hd : decode cc pc = .ok (.putfield index, 3)) (hb : b < sh.1) (hk : sh.2.1 b = .inl ci) (hc : cls[ci]? = some (C, T, N)) (hN : nf ci = N) (hin : ∀ w ∈ u_ws C T N, w ∈ GW) (hty : ∀ k, k < N → parseFieldDescriptor (T k).2.2.1 = some (ty0 k)) (hnm : ∀ a, a < N → ∀ b, b < N → a ≠ b → (T a).2.1 ≠ (T b).2.1) (hj : j < N) (hf : ft ci j = 2) (hfin : (T j).2.2.2 = false) (hlink : Cond.fieldLink own index (T j).1 (T j).2.1 (T j).2.2.1 ∈ GW) (hn : narrow (ty0 j) (.double x) = .double x) (hfit : fits (ty0 j) (.double x) = true) (k : G p l e R s m args below meth c nL D cA A Q kc ks AD sh (uD σ b j x) loc (pc + 3) st) : G p l e R s m args below meth c nL D cA A Q kc ks AD sh σ loc pc (.double x :: .ref b :: st) := by
  intro ad H locs ls hAD hP hD hS hl
  subst hN
  have e1 : (wd cA ad sh σ).set b (ad b, .inr (ci, ((List.range (nf ci)).map (fun j => fv ad sh σ b (ft ci j) j)).set j (.double x))) = wd cA ad sh (uD σ b j x) := by
    refine wd_set ?_ ce_oD
    rw [ce_o hk]
    have h1 := fl_set (ad := ad) (sh := sh) (sh' := sh) (σ := σ) (σ' := uD σ b j x) (c := b) (ci := ci) (j := j) hj (fun q hq => by unfold fv; simp only [gI_uI, gJ_uJ, gD_uD, gI_uJ, gI_uD, gJ_uI, gJ_uD, gD_uI, gD_uJ, hq, and_false, if_false])
    rw [show fv ad sh (uD σ b j x) b (ft ci j) j = .double x by rw [hf]; simp only [fv, gD_uD, and_self, if_true]] at h1
    rw [h1]
  refine va_put (rest := st.map (vm ad)) (v := .double x) (tys := tysA cA) X.1 X.2.1 X.2.2.2.2.1 hin ty0 hty hnm X.2.2.2.1 X.2.2.2.2.2.2.1 hP hD hS b ((wd_at hb).trans (by rw [ce_o hk])) hc j hj (X.2.2.2.2.1 _ hlink) (fun _ h => h) hfin (hty j hj) hn hfit (by simp; exact hj) hd (fun H1 locs1 hP1 hD1 hS1 => ?_)
  rw [e1] at hP1 hD1
  exact k ad H1 locs1 ls hAD hP1 hD1 hS1 hl
theorem g_getR (X : Cx p R s m args meth c cc nL own D cA A) {C : String} {T : u_T} {N b ci index r : Nat} (j : Nat) (hd : decode cc pc = .ok (.getfield index, 3)) (hb : b < sh.1) (hk : sh.2.1 b = .inl ci) (hc : cls[ci]? = some (C, T, N)) (hN : nf ci = N) (hin : ∀ w ∈ u_ws C T N, w ∈ GW) (hj : j < N) (hf : ft ci j = 3) (hr : sh.2.2 b j = some r) (hlink : Cond.fieldLink own index (T j).1 (T j).2.1 (T j).2.2.1 ∈ GW) (k : G p l e R s m args below meth c nL D cA A Q kc ks AD sh σ loc (pc + 3) (.ref r :: st)) : G p l e R s m args below meth c nL D cA A Q kc ks AD sh σ loc pc (.ref b :: st) := by
  intro ad H locs ls hAD hP hD hS hl
  subst hN
  refine va_get (rest := st.map (vm ad)) (v := .ref (ad r)) (tys := tysA cA) X.1 X.2.1 X.2.2.2.2.1 hin X.2.2.2.1 X.2.2.2.2.2.2.1 hP b ((wd_at hb).trans (by rw [ce_o hk])) hc j hj (X.2.2.2.2.1 _ hlink) (fun _ h => h) ((fl_at hj).trans (by rw [hf]; simp only [fv, hr]; rfl)) hd (k ad H locs ls hAD hP hD hS hl)
theorem g_iald (X : Cx p R s m args meth c cc nL own D cA A) {b n : Nat} {i : Int32} (hd : decode cc pc = .ok (.iaload, 1)) (hb : b < sh.1) (hk : sh.2.1 b = .inr (0, n)) (hi : vp_in i n) (k : G p l e R s m args below meth c nL D cA A Q kc ks AD sh σ loc (pc + 1) (.int (gI σ b i.toNatClampNeg) :: st)) : G p l e R s m args below meth c nL D cA A Q kc ks AD sh σ loc pc (.int i :: .ref b :: st) :=
  fun ad H locs ls hAD hP hD hS hl => va_iald (rest := st.map (vm ad)) (tys := tysA cA) X.1 X.2.1 X.2.2.2.2.2.2.1 hP b 0 ((wd_at hb).trans (by rw [ce_i hk])) rfl hi hd (k ad H locs ls hAD hP hD hS hl)
theorem g_iast (X : Cx p R s m args meth c cc nL own D cA A) {b n : Nat} {i : Int32} {x : Int32} (hd : decode cc pc = .ok (.iastore, 1)) (hb : b < sh.1) (hk : sh.2.1 b = .inr (0, n)) (hi : vp_in i n) (k : G p l e R s m args below meth c nL D cA A Q kc ks AD sh (uI σ b i.toNatClampNeg x) loc (pc + 1) st) : G p l e R s m args below meth c nL D cA A Q kc ks AD sh σ loc pc (.int x :: .int i :: .ref b :: st) := by
  intro ad H locs ls hAD hP hD hS hl
  have e1 : (wd cA ad sh σ).set b (ad b, .inl (cA 0, n, .inl (upd (gI σ b) i.toNatClampNeg x))) = wd cA ad sh (uI σ b i.toNatClampNeg x) := by
    refine wd_set ?_ ce_oI
    rw [ce_i hk]
    have h1 : gI (uI σ b i.toNatClampNeg x) b = upd (gI σ b) i.toNatClampNeg x := by
      funext q
      simp only [gI_uI, upd, true_and]
    rw [h1]
  refine va_iast (rest := st.map (vm ad)) (tys := tysA cA) X.1 X.2.1 X.2.2.2.2.2.2.1 hP hD hS b 0 ((wd_at hb).trans (by rw [ce_i hk])) rfl hi hd (fun H1 locs1 hP1 hD1 hS1 => ?_)
  rw [e1] at hP1 hD1
  exact k ad H1 locs1 ls hAD hP1 hD1 hS1 hl
theorem g_ilen (X : Cx p R s m args meth c cc nL own D cA A) {b n : Nat} (v : Int32) (hd : decode cc pc = .ok (.arraylength, 1)) (hb : b < sh.1) (hk : sh.2.1 b = .inr (0, n)) (hv : Int32.ofNat n = v) (k : G p l e R s m args below meth c nL D cA A Q kc ks AD sh σ loc (pc + 1) (.int v :: st)) : G p l e R s m args below meth c nL D cA A Q kc ks AD sh σ loc pc (.ref b :: st) :=
  fun ad H locs ls hAD hP hD hS hl => va_alen (rest := st.map (vm ad)) (tys := tysA cA) X.1 X.2.1 X.2.2.2.2.2.2.1 hP b 0 ((wd_at hb).trans (by rw [ce_i hk])) rfl hv hd (k ad H locs ls hAD hP hD hS hl)
theorem g_lald (X : Cx p R s m args meth c cc nL own D cA A) {b n : Nat} {i : Int32} (hd : decode cc pc = .ok (.laload, 1)) (hb : b < sh.1) (hk : sh.2.1 b = .inr (1, n)) (hi : vp_in i n) (k : G p l e R s m args below meth c nL D cA A Q kc ks AD sh σ loc (pc + 1) (.long (gJ σ b i.toNatClampNeg) :: st)) : G p l e R s m args below meth c nL D cA A Q kc ks AD sh σ loc pc (.int i :: .ref b :: st) :=
  fun ad H locs ls hAD hP hD hS hl => va_lald (rest := st.map (vm ad)) (tys := tysA cA) X.1 X.2.1 X.2.2.2.2.2.2.1 hP b 1 ((wd_at hb).trans (by rw [ce_l hk])) rfl hi hd (k ad H locs ls hAD hP hD hS hl)
theorem g_last (X : Cx p R s m args meth c cc nL own D cA A) {b n : Nat} {i : Int32} {x : Int64} (hd : decode cc pc = .ok (.lastore, 1)) (hb : b < sh.1) (hk : sh.2.1 b = .inr (1, n)) (hi : vp_in i n) (k : G p l e R s m args below meth c nL D cA A Q kc ks AD sh (uJ σ b i.toNatClampNeg x) loc (pc + 1) st) : G p l e R s m args below meth c nL D cA A Q kc ks AD sh σ loc pc (.long x :: .int i :: .ref b :: st) := by
  intro ad H locs ls hAD hP hD hS hl
  have e1 : (wd cA ad sh σ).set b (ad b, .inl (cA 1, n, .inr (.inl (vp_updL (gJ σ b) i.toNatClampNeg x)))) = wd cA ad sh (uJ σ b i.toNatClampNeg x) := by
    refine wd_set ?_ ce_oJ
    rw [ce_l hk]
    have h1 : gJ (uJ σ b i.toNatClampNeg x) b = vp_updL (gJ σ b) i.toNatClampNeg x := by
      funext q
      simp only [gJ_uJ, vp_updL, true_and]
    rw [h1]
  refine va_last (rest := st.map (vm ad)) (tys := tysA cA) X.1 X.2.1 X.2.2.2.2.2.2.1 hP hD hS b 1 ((wd_at hb).trans (by rw [ce_l hk])) rfl hi hd (fun H1 locs1 hP1 hD1 hS1 => ?_)
  rw [e1] at hP1 hD1
  exact k ad H1 locs1 ls hAD hP1 hD1 hS1 hl
theorem g_llen (X : Cx p R s m args meth c cc nL own D cA A) {b n : Nat} (v : Int32) (hd : decode cc pc = .ok (.arraylength, 1)) (hb : b < sh.1) (hk : sh.2.1 b = .inr (1, n)) (hv : Int32.ofNat n = v) (k : G p l e R s m args below meth c nL D cA A Q kc ks AD sh σ loc (pc + 1) (.int v :: st)) : G p l e R s m args below meth c nL D cA A Q kc ks AD sh σ loc pc (.ref b :: st) :=
  fun ad H locs ls hAD hP hD hS hl => va_alen (rest := st.map (vm ad)) (tys := tysA cA) X.1 X.2.1 X.2.2.2.2.2.2.1 hP b 1 ((wd_at hb).trans (by rw [ce_l hk])) rfl hv hd (k ad H locs ls hAD hP hD hS hl)
theorem g_dald (X : Cx p R s m args meth c cc nL own D cA A) {b n : Nat} {i : Int32} (hd : decode cc pc = .ok (.daload, 1)) (hb : b < sh.1) (hk : sh.2.1 b = .inr (2, n)) (hi : vp_in i n) (k : G p l e R s m args below meth c nL D cA A Q kc ks AD sh σ loc (pc + 1) (.double (gD σ b i.toNatClampNeg) :: st)) : G p l e R s m args below meth c nL D cA A Q kc ks AD sh σ loc pc (.int i :: .ref b :: st) :=
  fun ad H locs ls hAD hP hD hS hl => va_dald (rest := st.map (vm ad)) (tys := tysA cA) X.1 X.2.1 X.2.2.2.2.2.2.1 hP b 2 ((wd_at hb).trans (by rw [ce_d hk])) rfl hi hd (k ad H locs ls hAD hP hD hS hl)
theorem g_dast (X : Cx p R s m args meth c cc nL own D cA A) {b n : Nat} {i : Int32} {x : UInt64} (hd : decode cc pc = .ok (.dastore, 1)) (hb : b < sh.1) (hk : sh.2.1 b = .inr (2, n)) (hi : vp_in i n) (k : G p l e R s m args below meth c nL D cA A Q kc ks AD sh (uD σ b i.toNatClampNeg x) loc (pc + 1) st) : G p l e R s m args below meth c nL D cA A Q kc ks AD sh σ loc pc (.double x :: .int i :: .ref b :: st) := by
  intro ad H locs ls hAD hP hD hS hl
  have e1 : (wd cA ad sh σ).set b (ad b, .inl (cA 2, n, .inr (.inr (.inr (.inl (vf_upd (gD σ b) i.toNatClampNeg x)))))) = wd cA ad sh (uD σ b i.toNatClampNeg x) := by
    refine wd_set ?_ ce_oD
    rw [ce_d hk]
    have h1 : gD (uD σ b i.toNatClampNeg x) b = vf_upd (gD σ b) i.toNatClampNeg x := by
      funext q
      simp only [gD_uD, vf_upd, true_and]
    rw [h1]
  refine va_dast (rest := st.map (vm ad)) (tys := tysA cA) X.1 X.2.1 X.2.2.2.2.2.2.1 hP hD hS b 2 ((wd_at hb).trans (by rw [ce_d hk])) rfl hi hd (fun H1 locs1 hP1 hD1 hS1 => ?_)
  rw [e1] at hP1 hD1
  exact k ad H1 locs1 ls hAD hP1 hD1 hS1 hl
theorem g_dlen (X : Cx p R s m args meth c cc nL own D cA A) {b n : Nat} (v : Int32) (hd : decode cc pc = .ok (.arraylength, 1)) (hb : b < sh.1) (hk : sh.2.1 b = .inr (2, n)) (hv : Int32.ofNat n = v) (k : G p l e R s m args below meth c nL D cA A Q kc ks AD sh σ loc (pc + 1) (.int v :: st)) : G p l e R s m args below meth c nL D cA A Q kc ks AD sh σ loc pc (.ref b :: st) :=
  fun ad H locs ls hAD hP hD hS hl => va_alen (rest := st.map (vm ad)) (tys := tysA cA) X.1 X.2.1 X.2.2.2.2.2.2.1 hP b 2 ((wd_at hb).trans (by rw [ce_d hk])) rfl hv hd (k ad H locs ls hAD hP hD hS hl)
theorem g_aald (X : Cx p R s m args meth c cc nL own D cA A) {C : String} {b n r t : Nat} {i : Int32} (hd : decode cc pc = .ok (.aaload, 1)) (hb : b < sh.1) (hk : sh.2.1 b = .inr (t + 3, n)) (ht : (tysA cA)[t + 3]? = some (cA (t + 3), .object C)) (hi : vp_in i n) (hr : sh.2.2 b i.toNatClampNeg = some r) (k : G p l e R s m args below meth c nL D cA A Q kc ks AD sh σ loc (pc + 1) (.ref r :: st)) : G p l e R s m args below meth c nL D cA A Q kc ks AD sh σ loc pc (.int i :: .ref b :: st) := by
  intro ad H locs ls hAD hP hD hS hl
  refine va_aldq (rest := st.map (vm ad)) (tys := tysA cA) X.1 X.2.1 X.2.2.2.2.2.2.1 hP b (t + 3) ((wd_at hb).trans (by rw [ce_q hk])) ht hi hd ?_
  simp only [hr]
  exact k ad H locs ls hAD hP hD hS hl
theorem g_alenq (X : Cx p R s m args meth c cc nL own D cA A) {C : String} {b n t : Nat} (v : Int32) (hd : decode cc pc = .ok (.arraylength, 1)) (hb : b < sh.1) (hk : sh.2.1 b = .inr (t + 3, n)) (ht : (tysA cA)[t + 3]? = some (cA (t + 3), .object C)) (hv : Int32.ofNat n = v) (k : G p l e R s m args below meth c nL D cA A Q kc ks AD sh σ loc (pc + 1) (.int v :: st)) : G p l e R s m args below meth c nL D cA A Q kc ks AD sh σ loc pc (.ref b :: st) :=
  fun ad H locs ls hAD hP hD hS hl => va_alen (rest := st.map (vm ad)) (tys := tysA cA) X.1 X.2.1 X.2.2.2.2.2.2.1 hP b (t + 3) ((wd_at hb).trans (by rw [ce_q hk])) ht hv hd (k ad H locs ls hAD hP hD hS hl)
theorem g_copyi (X : Cx p R s m args meth c cc nL own D cA A) {b0 b1 n0 n1 index : Nat} {sp dp n : Int32} (hd : decode cc pc = .ok (.invokestatic index, 3)) (hlink : Cond.methodLink own index arraycopyName ∈ GW) (hnat : Cond.native arraycopyName ∈ GW) (hstat : Cond.static arraycopyName ∈ GW) (hini : Cond.initialized "java/lang/System" ∈ GW) (hb0 : b0 < sh.1) (hk0 : sh.2.1 b0 = .inr (0, n0)) (hb1 : b1 < sh.1) (hk1 : sh.2.1 b1 = .inr (0, n1)) (h1 : ¬ sp < 0) (h2 : ¬ dp < 0) (h3 : ¬ n < 0) (h4 : sp.toNatClampNeg + n.toNatClampNeg ≤ n0) (h5 : dp.toNatClampNeg + n.toNatClampNeg ≤ n1) (hfr : 1 ≤ R.frames) (hlo : (st.map fun v => v.category).sum + (nativeFrameWords "java/lang/System" "arraycopy" 5 + 11) ≤ R.locals) (k : G p l e R s m args below meth c nL D cA A Q kc ks AD sh (wI σ b1 (va_cpy (gI σ b0) (gI σ b1) sp.toNatClampNeg dp.toNatClampNeg n.toNatClampNeg)) loc (pc + 3) st) : G p l e R s m args below meth c nL D cA A Q kc ks AD sh σ loc pc (.int n :: .int dp :: .ref b1 :: .int sp :: .ref b0 :: st) := by
  intro ad H locs ls hAD hP hD hS hl
  have e1 : (wd cA ad sh σ).set b1 (ad b1, .inl (cA 0, n1, .inl (va_cpy (gI σ b0) (gI σ b1) sp.toNatClampNeg dp.toNatClampNeg n.toNatClampNeg))) = wd cA ad sh (wI σ b1 (va_cpy (gI σ b0) (gI σ b1) sp.toNatClampNeg dp.toNatClampNeg n.toNatClampNeg)) := by
    refine wd_set ?_ ce_wI
    rw [ce_i hk1]
    have h1 : gI (wI σ b1 (va_cpy (gI σ b0) (gI σ b1) sp.toNatClampNeg dp.toNatClampNeg n.toNatClampNeg)) b1 = va_cpy (gI σ b0) (gI σ b1) sp.toNatClampNeg dp.toNatClampNeg n.toNatClampNeg := by
      funext q
      simp only [gI_wI, if_true]
    rw [h1]
  refine va_copyi (rest := st.map (vm ad)) (tys := tysA cA) (f := gI σ b0) X.1 X.2.1 (X.2.2.1.trans hl.1.symm) X.2.2.2.1 (X.2.2.2.2.1 _ hlink) (X.2.2.2.2.1 _ hnat) (X.2.2.2.2.1 _ hstat) (X.2.2.2.2.1 _ hini) X.2.2.2.2.2.2.1 hP hD hS b0 b1 0 0 ((wd_at hb0).trans (by rw [ce_i hk0])) ((wd_at hb1).trans (by rw [ce_i hk1])) rfl rfl rfl h1 h2 h3 h4 h5 (fun _ _ => rfl) hfr (by rw [vm_sum]; exact hlo) hd (fun H1 locs1 hP1 hD1 hS1 => ?_)
  rw [e1] at hP1 hD1
  exact k ad H1 locs1 ls hAD hP1 hD1 hS1 hl
theorem g_copyl (X : Cx p R s m args meth c cc nL own D cA A) {b0 b1 n0 n1 index : Nat} {sp dp n : Int32} (hd : decode cc pc = .ok (.invokestatic index, 3)) (hlink : Cond.methodLink own index arraycopyName ∈ GW) (hnat : Cond.native arraycopyName ∈ GW) (hstat : Cond.static arraycopyName ∈ GW) (hini : Cond.initialized "java/lang/System" ∈ GW) (hb0 : b0 < sh.1) (hk0 : sh.2.1 b0 = .inr (1, n0)) (hb1 : b1 < sh.1) (hk1 : sh.2.1 b1 = .inr (1, n1)) (h1 : ¬ sp < 0) (h2 : ¬ dp < 0) (h3 : ¬ n < 0) (h4 : sp.toNatClampNeg + n.toNatClampNeg ≤ n0) (h5 : dp.toNatClampNeg + n.toNatClampNeg ≤ n1) (hfr : 1 ≤ R.frames) (hlo : (st.map fun v => v.category).sum + (nativeFrameWords "java/lang/System" "arraycopy" 5 + 11) ≤ R.locals) (k : G p l e R s m args below meth c nL D cA A Q kc ks AD sh (wJ σ b1 (va_cpy (gJ σ b0) (gJ σ b1) sp.toNatClampNeg dp.toNatClampNeg n.toNatClampNeg)) loc (pc + 3) st) : G p l e R s m args below meth c nL D cA A Q kc ks AD sh σ loc pc (.int n :: .int dp :: .ref b1 :: .int sp :: .ref b0 :: st) := by
  intro ad H locs ls hAD hP hD hS hl
  have e1 : (wd cA ad sh σ).set b1 (ad b1, .inl (cA 1, n1, .inr (.inl (va_cpy (gJ σ b0) (gJ σ b1) sp.toNatClampNeg dp.toNatClampNeg n.toNatClampNeg)))) = wd cA ad sh (wJ σ b1 (va_cpy (gJ σ b0) (gJ σ b1) sp.toNatClampNeg dp.toNatClampNeg n.toNatClampNeg)) := by
    refine wd_set ?_ ce_wJ
    rw [ce_l hk1]
    have h1 : gJ (wJ σ b1 (va_cpy (gJ σ b0) (gJ σ b1) sp.toNatClampNeg dp.toNatClampNeg n.toNatClampNeg)) b1 = va_cpy (gJ σ b0) (gJ σ b1) sp.toNatClampNeg dp.toNatClampNeg n.toNatClampNeg := by
      funext q
      simp only [gJ_wJ, if_true]
    rw [h1]
  refine va_copyl (rest := st.map (vm ad)) (tys := tysA cA) (f := gJ σ b0) X.1 X.2.1 (X.2.2.1.trans hl.1.symm) X.2.2.2.1 (X.2.2.2.2.1 _ hlink) (X.2.2.2.2.1 _ hnat) (X.2.2.2.2.1 _ hstat) (X.2.2.2.2.1 _ hini) X.2.2.2.2.2.2.1 hP hD hS b0 b1 1 1 ((wd_at hb0).trans (by rw [ce_l hk0])) ((wd_at hb1).trans (by rw [ce_l hk1])) rfl rfl rfl h1 h2 h3 h4 h5 (fun _ _ => rfl) hfr (by rw [vm_sum]; exact hlo) hd (fun H1 locs1 hP1 hD1 hS1 => ?_)
  rw [e1] at hP1 hD1
  exact k ad H1 locs1 ls hAD hP1 hD1 hS1 hl
theorem g_mmax (X : Cx p R s m args meth c cc nL own D cA A) {index : Nat} {x y : Int32} (hd : decode cc pc = .ok (.invokestatic index, 3)) (hlink : Cond.methodLink own index Lib.Math.max.name ∈ GW) (hstat : Cond.static Lib.Math.max.name ∈ GW) (hini : Cond.initialized "java/lang/Math" ∈ GW) (hcode : Cond.code Lib.Math.max.name Lib.Math.max.code 2 (some .int) ∈ GW) (hfr : 1 ≤ R.frames) (hlo : (st.map fun v => v.category).sum + 13 ≤ R.locals) (hkc : kc ≤ R.cells) (hks : ks ≤ R.slots) (k : G p l e R s m args below meth c nL D cA A Q kc ks AD sh σ loc (pc + 3) (.int (if x < y then y else x) :: st)) : G p l e R s m args below meth c nL D cA A Q kc ks AD sh σ loc pc (.int y :: .int x :: st) :=
  fun ad H locs ls hAD hP hD hS hl => va_mmax (rest := st.map (vm ad)) X.1 X.2.1 (X.2.2.1.trans hl.1.symm) X.2.2.2.1 (X.2.2.2.2.1 _ hlink) (X.2.2.2.2.1 _ hstat) (X.2.2.2.2.1 _ hini) (X.2.2.2.2.1 _ hcode) hfr (by rw [vm_sum]; exact hlo) hkc hks hd (k ad H locs ls hAD hP hD hS hl)
theorem g_mmin (X : Cx p R s m args meth c cc nL own D cA A) {index : Nat} {x y : Int32} (hd : decode cc pc = .ok (.invokestatic index, 3)) (hlink : Cond.methodLink own index Lib.Math.min.name ∈ GW) (hstat : Cond.static Lib.Math.min.name ∈ GW) (hini : Cond.initialized "java/lang/Math" ∈ GW) (hcode : Cond.code Lib.Math.min.name Lib.Math.min.code 2 (some .int) ∈ GW) (hfr : 1 ≤ R.frames) (hlo : (st.map fun v => v.category).sum + 13 ≤ R.locals) (hkc : kc ≤ R.cells) (hks : ks ≤ R.slots) (k : G p l e R s m args below meth c nL D cA A Q kc ks AD sh σ loc (pc + 3) (.int (if y < x then y else x) :: st)) : G p l e R s m args below meth c nL D cA A Q kc ks AD sh σ loc pc (.int y :: .int x :: st) :=
  fun ad H locs ls hAD hP hD hS hl => va_mmin (rest := st.map (vm ad)) X.1 X.2.1 (X.2.2.1.trans hl.1.symm) X.2.2.2.1 (X.2.2.2.2.1 _ hlink) (X.2.2.2.2.1 _ hstat) (X.2.2.2.2.1 _ hini) (X.2.2.2.2.1 _ hcode) hfr (by rw [vm_sum]; exact hlo) hkc hks hd (k ad H locs ls hAD hP hD hS hl)
theorem g_mabs (X : Cx p R s m args meth c cc nL own D cA A) {index : Nat} {x : Int32} (hd : decode cc pc = .ok (.invokestatic index, 3)) (hlink : Cond.methodLink own index Lib.Math.abs.name ∈ GW) (hstat : Cond.static Lib.Math.abs.name ∈ GW) (hini : Cond.initialized "java/lang/Math" ∈ GW) (hcode : Cond.code Lib.Math.abs.name Lib.Math.abs.code 1 (some .int) ∈ GW) (hfr : 1 ≤ R.frames) (hlo : (st.map fun v => v.category).sum + 13 ≤ R.locals) (hkc : kc ≤ R.cells) (hks : ks ≤ R.slots) (k : G p l e R s m args below meth c nL D cA A Q kc ks AD sh σ loc (pc + 3) (.int (if 0 ≤ x then x else 0 - x) :: st)) : G p l e R s m args below meth c nL D cA A Q kc ks AD sh σ loc pc (.int x :: st) :=
  fun ad H locs ls hAD hP hD hS hl => va_mabs (rest := st.map (vm ad)) X.1 X.2.1 (X.2.2.1.trans hl.1.symm) X.2.2.2.1 (X.2.2.2.2.1 _ hlink) (X.2.2.2.2.1 _ hstat) (X.2.2.2.2.1 _ hini) (X.2.2.2.2.1 _ hcode) hfr (by rw [vm_sum]; exact hlo) hkc hks hd (k ad H locs ls hAD hP hD hS hl)
theorem g_mabsl (X : Cx p R s m args meth c cc nL own D cA A) {index : Nat} {x : Int64} (hd : decode cc pc = .ok (.invokestatic index, 3)) (hlink : Cond.methodLink own index Lib.MathLoose.abs_long.x ∈ GW) (hstat : Cond.static Lib.MathLoose.abs_long.x ∈ GW) (hini : Cond.initialized "java/lang/Math" ∈ GW) (hcode : Cond.code Lib.MathLoose.abs_long.x Lib.MathLoose.abs_long.code 2 (some .long) ∈ GW) (hfr : 1 ≤ R.frames) (hlo : (st.map fun v => v.category).sum + 13 ≤ R.locals) (hkc : kc ≤ R.cells) (hks : ks ≤ R.slots) (k : G p l e R s m args below meth c nL D cA A Q kc ks AD sh σ loc (pc + 3) (.long (if 0 < x then x else -x) :: st)) : G p l e R s m args below meth c nL D cA A Q kc ks AD sh σ loc pc (.long x :: st) :=
  fun ad H locs ls hAD hP hD hS hl => va_mabs_long (rest := st.map (vm ad)) X.1 X.2.1 (X.2.2.1.trans hl.1.symm) X.2.2.2.1 (X.2.2.2.2.1 _ hlink) (X.2.2.2.2.1 _ hstat) (X.2.2.2.2.1 _ hini) (X.2.2.2.2.1 _ hcode) hfr (by rw [vm_sum]; exact hlo) hkc hks hd (k ad H locs ls hAD hP hD hS hl)
end GROWS
