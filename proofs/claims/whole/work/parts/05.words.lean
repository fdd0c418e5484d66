/-! the shapes: where the cells of the class and of the reference lie -/
abbrev ix (i : Int32) : Nat := i.toNatClampNeg
def bz (x : Int32) : Prop := x = 0 ∨ x = 1
theorem bz_narrow {x : Int32} (h : bz x) : narrow .boolean (.int x) = .int x := by rcases h with rfl | rfl <;> rfl
theorem bz_fits {x : Int32} (h : bz x) : fits .boolean (.int x) = true := by rcases h with rfl | rfl <;> rfl
theorem vp_in_lt {i : Int32} {n : Nat} (h : vp_in i n) : ix i < n := Nat.not_le.mp fun q => h (Or.inr q)
def rowC (i : Nat) : Nat := 52 + 4 * i
def keepC (i : Nat) : Nat := 100 + 3 * i
def befC (i : Nat) : Nat := 6 + 3 * i
def kRow : List (Nat ⊕ (Nat × Nat)) := [.inl 2, .inr (1, 40), .inr (0, 40), .inr (0, 40)]
def kKeep : List (Nat ⊕ (Nat × Nat)) := [.inl 1, .inr (0, 3), .inr (1, 150)]
def rep {α : Type} : Nat → List α → List α | 0, _ => [] | n + 1, l => l ++ rep n l
def kdL : List (Nat ⊕ (Nat × Nat)) := [.inl 4, .inr (3, 12), .inr (4, 6), .inl 0, .inr (4, 12), .inr (0, 12)] ++ rep 12 kKeep ++ [.inl 3, .inr (1, 150)] ++ rep 14 kRow ++ rep 6 kKeep
def kdC (c : Nat) : Nat ⊕ (Nat × Nat) := kdL.getD c (.inl 99)
def RRC (c j : Nat) : Option Nat :=
  if c = 0 then ([some 1, some 2, some 3, some 42, some 44, some 48] : List (Option Nat)).getD j none
  else if c = 1 then (if j < 12 then some (rowC j) else none)
  else if c = 2 then (if j < 6 then some (keepC j) else none)
  else if c = 3 then ([some 4, some 5] : List (Option Nat)).getD j none
  else if c = 4 then (if j < 12 then some (befC j) else none)
  else if c = 42 then (if j = 0 then some 43 else none)
  else match kdC c with
    | .inl 1 => if j = 2 then some (c + 1) else if j = 3 then some (c + 2) else none
    | .inl 2 => if j = 3 then some (c + 1) else if j = 4 then some (c + 2) else if j = 5 then some (c + 3) else none
    | _ => none
def shC : SH := (118, kdC, RRC)
def kdRL : List (Nat ⊕ (Nat × Nat)) := [.inl 5, .inr (0, 12), .inr (0, 12), .inr (1, 480), .inr (2, 480), .inr (0, 480), .inr (0, 7), .inr (0, 1064), .inr (0, 21), .inr (0, 12), .inr (0, 12), .inr (0, 1824), .inr (0, 36), .inr (0, 152), .inr (0, 152)]
def kdR (c : Nat) : Nat ⊕ (Nat × Nat) := kdRL.getD c (.inl 99)
def RRR (c j : Nat) : Option Nat := if c = 0 then ([none, some 1, some 2, some 3, some 4, some 5, some 6, some 7, some 8, none, some 9, some 10, some 11, some 12, none, none, none, none, none, some 13, none, none, some 14] : List (Option Nat)).getD j none else none
def shR : SH := (15, kdR, RRR)
def rowSh (sh : SH) (k : Nat) : Prop := k + 3 < sh.1 ∧ sh.2.1 k = .inl 2 ∧ sh.2.1 (k + 1) = .inr (1, 40) ∧ sh.2.1 (k + 2) = .inr (0, 40) ∧ sh.2.1 (k + 3) = .inr (0, 40) ∧ sh.2.2 k 3 = some (k + 1) ∧ sh.2.2 k 4 = some (k + 2) ∧ sh.2.2 k 5 = some (k + 3)
def keepSh (sh : SH) (k : Nat) : Prop := k + 2 < sh.1 ∧ sh.2.1 k = .inl 1 ∧ sh.2.1 (k + 1) = .inr (0, 3) ∧ sh.2.1 (k + 2) = .inr (1, 150) ∧ sh.2.2 k 2 = some (k + 1) ∧ sh.2.2 k 3 = some (k + 2)
def arrSh (sh : SH) (k et n : Nat) : Prop := k < sh.1 ∧ sh.2.1 k = .inr (et, n)
section SHAPES
variable {sh : SH} {k : Nat}
theorem rowSh.b0 (h : rowSh sh k) : k < sh.1 := by have := h.1; omega
theorem rowSh.b1 (h : rowSh sh k) : k + 1 < sh.1 := by have := h.1; omega
theorem rowSh.b2 (h : rowSh sh k) : k + 2 < sh.1 := by have := h.1; omega
theorem rowSh.b3 (h : rowSh sh k) : k + 3 < sh.1 := h.1
theorem rowSh.k0 (h : rowSh sh k) : sh.2.1 k = .inl 2 := h.2.1
theorem rowSh.k1 (h : rowSh sh k) : sh.2.1 (k + 1) = .inr (1, 40) := h.2.2.1
theorem rowSh.k2 (h : rowSh sh k) : sh.2.1 (k + 2) = .inr (0, 40) := h.2.2.2.1
theorem rowSh.k3 (h : rowSh sh k) : sh.2.1 (k + 3) = .inr (0, 40) := h.2.2.2.2.1
theorem rowSh.r3 (h : rowSh sh k) : sh.2.2 k 3 = some (k + 1) := h.2.2.2.2.2.1
theorem rowSh.r4 (h : rowSh sh k) : sh.2.2 k 4 = some (k + 2) := h.2.2.2.2.2.2.1
theorem rowSh.r5 (h : rowSh sh k) : sh.2.2 k 5 = some (k + 3) := h.2.2.2.2.2.2.2
theorem keepSh.b0 (h : keepSh sh k) : k < sh.1 := by have := h.1; omega
theorem keepSh.b1 (h : keepSh sh k) : k + 1 < sh.1 := by have := h.1; omega
theorem keepSh.b2 (h : keepSh sh k) : k + 2 < sh.1 := h.1
theorem keepSh.k0 (h : keepSh sh k) : sh.2.1 k = .inl 1 := h.2.1
theorem keepSh.k1 (h : keepSh sh k) : sh.2.1 (k + 1) = .inr (0, 3) := h.2.2.1
theorem keepSh.k2 (h : keepSh sh k) : sh.2.1 (k + 2) = .inr (1, 150) := h.2.2.2.1
theorem keepSh.r2 (h : keepSh sh k) : sh.2.2 k 2 = some (k + 1) := h.2.2.2.2.1
theorem keepSh.r3 (h : keepSh sh k) : sh.2.2 k 3 = some (k + 2) := h.2.2.2.2.2
end SHAPES
theorem rowC_sh : ∀ {i : Nat}, i < 12 → rowSh shC (rowC i) := by
  have h : ∀ i, i < 12 → (rowC i + 3 < shC.1 ∧ shC.2.1 (rowC i) = .inl 2 ∧ shC.2.1 (rowC i + 1) = .inr (1, 40) ∧ shC.2.1 (rowC i + 2) = .inr (0, 40) ∧ shC.2.1 (rowC i + 3) = .inr (0, 40) ∧ shC.2.2 (rowC i) 3 = some (rowC i + 1) ∧ shC.2.2 (rowC i) 4 = some (rowC i + 2) ∧ shC.2.2 (rowC i) 5 = some (rowC i + 3)) := by decide +kernel
  exact fun {i} hi => h i hi
theorem ones_sh : rowSh shC 44 := by unfold rowSh; decide +kernel
theorem plain_sh : rowSh shC 48 := by unfold rowSh; decide +kernel
theorem keepC_sh : ∀ {i : Nat}, i < 6 → keepSh shC (keepC i) := by
  have h : ∀ i, i < 6 → (keepC i + 2 < shC.1 ∧ shC.2.1 (keepC i) = .inl 1 ∧ shC.2.1 (keepC i + 1) = .inr (0, 3) ∧ shC.2.1 (keepC i + 2) = .inr (1, 150) ∧ shC.2.2 (keepC i) 2 = some (keepC i + 1) ∧ shC.2.2 (keepC i) 3 = some (keepC i + 2)) := by decide +kernel
  exact fun {i} hi => h i hi
theorem befC_sh : ∀ {i : Nat}, i < 12 → keepSh shC (befC i) := by
  have h : ∀ i, i < 12 → (befC i + 2 < shC.1 ∧ shC.2.1 (befC i) = .inl 1 ∧ shC.2.1 (befC i + 1) = .inr (0, 3) ∧ shC.2.1 (befC i + 2) = .inr (1, 150) ∧ shC.2.2 (befC i) 2 = some (befC i + 1) ∧ shC.2.2 (befC i) 3 = some (befC i + 2)) := by decide +kernel
  exact fun {i} hi => h i hi
theorem rowC_r : ∀ {i : Nat}, i < 12 → shC.2.2 1 i = some (rowC i) := fun {i} h => by show (if i < 12 then some (rowC i) else none) = _; rw [if_pos h]
theorem keepC_r : ∀ {i : Nat}, i < 6 → shC.2.2 2 i = some (keepC i) := fun {i} h => by show (if i < 6 then some (keepC i) else none) = _; rw [if_pos h]
theorem befC_r : ∀ {i : Nat}, i < 12 → shC.2.2 4 i = some (befC i) := fun {i} h => by show (if i < 12 then some (befC i) else none) = _; rw [if_pos h]
theorem lgc_eq {x y : Int64} : lg_cmp x y = 0 ↔ x = y := lg_cmp_eq x y
theorem lgc_lt {x y : Int64} : lg_cmp x y < 0 ↔ x < y := lg_cmp_lt x y
theorem lgc_gt {x y : Int64} : 0 < lg_cmp x y ↔ y < x := lg_cmp_gt x y
theorem lgc_ge {x y : Int64} : 0 ≤ lg_cmp x y ↔ y ≤ x := lg_cmp_ge x y
theorem lgc_le {x y : Int64} : lg_cmp x y ≤ 0 ↔ x ≤ y := lg_cmp_le x y
section NAMING
variable {p : Program} {l : Launch} {e : Env} {R : Room} {s : State} {m : MethodId} {args : Array Value} {below : List Frame} {meth : Method} {c : Code} {nL : Nat} {D : va_G} {cA : Nat → ClassId} {A : Nat → Prop} {Q : State → Prop} {kc ks : Nat} {AD : (Nat → Nat) → Prop} {sh : SH} {σ : St} {loc : List (Nat × Value)} {pc : Nat} {st : List Value}
theorem g_nameI {x : Int32} (k : ∀ y : Int32, y = x → G p l e R s m args below meth c nL D cA A Q kc ks AD sh σ loc pc (.int y :: st)) : G p l e R s m args below meth c nL D cA A Q kc ks AD sh σ loc pc (.int x :: st) := k x rfl
theorem g_nameJ {x : Int64} (k : ∀ y : Int64, y = x → G p l e R s m args below meth c nL D cA A Q kc ks AD sh σ loc pc (.long y :: st)) : G p l e R s m args below meth c nL D cA A Q kc ks AD sh σ loc pc (.long x :: st) := k x rfl
theorem g_nameD {x : UInt64} (k : ∀ y : UInt64, y = x → G p l e R s m args below meth c nL D cA A Q kc ks AD sh σ loc pc (.double y :: st)) : G p l e R s m args below meth c nL D cA A Q kc ks AD sh σ loc pc (.double x :: st) := k x rfl
theorem g_nameS (k : ∀ σ' : St, σ' = σ → G p l e R s m args below meth c nL D cA A Q kc ks AD sh σ' loc pc st) : G p l e R s m args below meth c nL D cA A Q kc ks AD sh σ loc pc st := k σ rfl
end NAMING
theorem inG0 : ∀ w ∈ u_ws RX0 TX0 4, w ∈ GW := by
  intro w hw
  obtain ⟨k, hk, rfl⟩ := List.mem_map.mp hw
  have hk := List.mem_range.mp hk
  match k, hk with
  | 0, _ => exact gw 107 (by decide +kernel) rfl
  | 1, _ => exact gw 109 (by decide +kernel) rfl
  | 2, _ => exact gw 111 (by decide +kernel) rfl
  | 3, _ => exact gw 113 (by decide +kernel) rfl
  | k + 4, hk => omega
theorem inG1 : ∀ w ∈ u_ws RX1 TX1 4, w ∈ GW := by
  intro w hw
  obtain ⟨k, hk, rfl⟩ := List.mem_map.mp hw
  have hk := List.mem_range.mp hk
  match k, hk with
  | 0, _ => exact gw 91 (by decide +kernel) rfl
  | 1, _ => exact gw 93 (by decide +kernel) rfl
  | 2, _ => exact gw 95 (by decide +kernel) rfl
  | 3, _ => exact gw 97 (by decide +kernel) rfl
  | k + 4, hk => omega
theorem inG2 : ∀ w ∈ u_ws RX2 TX2 6, w ∈ GW := by
  intro w hw
  obtain ⟨k, hk, rfl⟩ := List.mem_map.mp hw
  have hk := List.mem_range.mp hk
  match k, hk with
  | 0, _ => exact gw 143 (by decide +kernel) rfl
  | 1, _ => exact gw 145 (by decide +kernel) rfl
  | 2, _ => exact gw 147 (by decide +kernel) rfl
  | 3, _ => exact gw 149 (by decide +kernel) rfl
  | 4, _ => exact gw 151 (by decide +kernel) rfl
  | 5, _ => exact gw 153 (by decide +kernel) rfl
  | k + 6, hk => omega
theorem inG3 : ∀ w ∈ u_ws RX3 TX3 1, w ∈ GW := by
  intro w hw
  obtain ⟨k, hk, rfl⟩ := List.mem_map.mp hw
  have hk := List.mem_range.mp hk
  match k, hk with
  | 0, _ => exact gw 123 (by decide +kernel) rfl
  | k + 1, hk => omega
theorem inG4 : ∀ w ∈ u_ws RX4 TX4 7, w ∈ GW := by
  intro w hw
  obtain ⟨k, hk, rfl⟩ := List.mem_map.mp hw
  have hk := List.mem_range.mp hk
  match k, hk with
  | 0, _ => exact gw 212 (by decide +kernel) rfl
  | 1, _ => exact gw 214 (by decide +kernel) rfl
  | 2, _ => exact gw 216 (by decide +kernel) rfl
  | 3, _ => exact gw 218 (by decide +kernel) rfl
  | 4, _ => exact gw 220 (by decide +kernel) rfl
  | 5, _ => exact gw 222 (by decide +kernel) rfl
  | 6, _ => exact gw 224 (by decide +kernel) rfl
  | k + 7, hk => omega
theorem inG5 : ∀ w ∈ u_ws RX5 TX5 23, w ∈ GW := by
  intro w hw
  obtain ⟨k, hk, rfl⟩ := List.mem_map.mp hw
  have hk := List.mem_range.mp hk
  match k, hk with
  | 0, _ => exact gw 592 (by decide +kernel) rfl
  | 1, _ => exact gw 594 (by decide +kernel) rfl
  | 2, _ => exact gw 596 (by decide +kernel) rfl
  | 3, _ => exact gw 598 (by decide +kernel) rfl
  | 4, _ => exact gw 600 (by decide +kernel) rfl
  | 5, _ => exact gw 602 (by decide +kernel) rfl
  | 6, _ => exact gw 604 (by decide +kernel) rfl
  | 7, _ => exact gw 606 (by decide +kernel) rfl
  | 8, _ => exact gw 608 (by decide +kernel) rfl
  | 9, _ => exact gw 610 (by decide +kernel) rfl
  | 10, _ => exact gw 612 (by decide +kernel) rfl
  | 11, _ => exact gw 614 (by decide +kernel) rfl
  | 12, _ => exact gw 616 (by decide +kernel) rfl
  | 13, _ => exact gw 618 (by decide +kernel) rfl
  | 14, _ => exact gw 620 (by decide +kernel) rfl
  | 15, _ => exact gw 622 (by decide +kernel) rfl
  | 16, _ => exact gw 624 (by decide +kernel) rfl
  | 17, _ => exact gw 626 (by decide +kernel) rfl
  | 18, _ => exact gw 628 (by decide +kernel) rfl
  | 19, _ => exact gw 630 (by decide +kernel) rfl
  | 20, _ => exact gw 632 (by decide +kernel) rfl
  | 21, _ => exact gw 634 (by decide +kernel) rfl
  | 22, _ => exact gw 636 (by decide +kernel) rfl
  | k + 23, hk => omega
theorem q0 : (Jvm.Cond.selects "LongSums$Row" ({ cls := "LongSums$Row", name := "writeNumber", desc := "(IJI)V" } : Jvm.MethodName) ({ cls := "LongSums$Row", name := "writeNumber", desc := "(IJI)V" } : Jvm.MethodName)) ∈ GW := gw 0 (by decide +kernel) rfl
theorem q1 : (Jvm.Cond.selects "LongSums$Row" ({ cls := "LongSums$Row", name := "writeFloat", desc := "(IJI)V" } : Jvm.MethodName) ({ cls := "LongSums$Row", name := "writeFloat", desc := "(IJI)V" } : Jvm.MethodName)) ∈ GW := gw 1 (by decide +kernel) rfl
theorem q2 : (Jvm.Cond.selects "LongSums$Row" ({ cls := "LongSums$Row", name := "writeSort", desc := "(II)V" } : Jvm.MethodName) ({ cls := "LongSums$Row", name := "writeSort", desc := "(II)V" } : Jvm.MethodName)) ∈ GW := gw 2 (by decide +kernel) rfl
theorem q3 : (Jvm.Cond.selects "LongSums" ({ cls := "LongSums", name := "remember", desc := "(I)V" } : Jvm.MethodName) ({ cls := "LongSums", name := "remember", desc := "(I)V" } : Jvm.MethodName)) ∈ GW := gw 3 (by decide +kernel) rfl
theorem q4 : (Jvm.Cond.selects "LongSums" ({ cls := "LongSums", name := "gatherInto", desc := "(ILLongSums$Row;LLongSums$Row;II)I" } : Jvm.MethodName) ({ cls := "LongSums", name := "gatherInto", desc := "(ILLongSums$Row;LLongSums$Row;II)I" } : Jvm.MethodName)) ∈ GW := gw 4 (by decide +kernel) rfl
theorem q5 : (Jvm.Cond.selects "LongSums$Keeper" ({ cls := "LongSums$Keeper", name := "gain", desc := "(JJIZ)V" } : Jvm.MethodName) ({ cls := "LongSums$Keeper", name := "gain", desc := "(JJIZ)V" } : Jvm.MethodName)) ∈ GW := gw 5 (by decide +kernel) rfl
theorem q6 : (Jvm.Cond.selects "LongSums$Keeper" ({ cls := "LongSums$Keeper", name := "gainPart", desc := "(JIZ)V" } : Jvm.MethodName) ({ cls := "LongSums$Keeper", name := "gainPart", desc := "(JIZ)V" } : Jvm.MethodName)) ∈ GW := gw 6 (by decide +kernel) rfl
theorem q7 : (Jvm.Cond.selects "LongSums$Keeper" ({ cls := "LongSums$Keeper", name := "gainHalf", desc := "(JIZ)V" } : Jvm.MethodName) ({ cls := "LongSums$Keeper", name := "gainHalf", desc := "(JIZ)V" } : Jvm.MethodName)) ∈ GW := gw 7 (by decide +kernel) rfl
theorem q8 : (Jvm.Cond.selects "LongSums$Keeper" ({ cls := "LongSums$Keeper", name := "meet", desc := "(IZ)V" } : Jvm.MethodName) ({ cls := "LongSums$Keeper", name := "meet", desc := "(IZ)V" } : Jvm.MethodName)) ∈ GW := gw 8 (by decide +kernel) rfl
theorem q9 : (Jvm.Cond.selects "LongSums$Keeper" ({ cls := "LongSums$Keeper", name := "carry", desc := "()V" } : Jvm.MethodName) ({ cls := "LongSums$Keeper", name := "carry", desc := "()V" } : Jvm.MethodName)) ∈ GW := gw 9 (by decide +kernel) rfl
theorem q10 : (Jvm.Cond.selects "LongSums" ({ cls := "LongSums", name := "findingOf", desc := "(I)I" } : Jvm.MethodName) ({ cls := "LongSums", name := "findingOf", desc := "(I)I" } : Jvm.MethodName)) ∈ GW := gw 10 (by decide +kernel) rfl
theorem q11 : (Jvm.Cond.selects "LongSums" ({ cls := "LongSums", name := "sharedOut", desc := "(LLongSums$Keeper;IIZ)D" } : Jvm.MethodName) ({ cls := "LongSums", name := "sharedOut", desc := "(LLongSums$Keeper;IIZ)D" } : Jvm.MethodName)) ∈ GW := gw 11 (by decide +kernel) rfl
theorem q12 : (Jvm.Cond.selects "LongSums$Size" ({ cls := "LongSums$Size", name := "wholeFrom", desc := "(I)J" } : Jvm.MethodName) ({ cls := "LongSums$Size", name := "wholeFrom", desc := "(I)J" } : Jvm.MethodName)) ∈ GW := gw 12 (by decide +kernel) rfl
theorem q13 : (Jvm.Cond.selects "LongSums$Size" ({ cls := "LongSums$Size", name := "limbAt", desc := "(I)J" } : Jvm.MethodName) ({ cls := "LongSums$Size", name := "limbAt", desc := "(I)J" } : Jvm.MethodName)) ∈ GW := gw 13 (by decide +kernel) rfl
theorem q14 : (Jvm.Cond.selects "LongSums$Size" ({ cls := "LongSums$Size", name := "hasBitBelow", desc := "(I)Z" } : Jvm.MethodName) ({ cls := "LongSums$Size", name := "hasBitBelow", desc := "(I)Z" } : Jvm.MethodName)) ∈ GW := gw 14 (by decide +kernel) rfl
theorem q15 : (Jvm.Cond.selects "LongSums" ({ cls := "LongSums", name := "rowsThere", desc := "()I" } : Jvm.MethodName) ({ cls := "LongSums", name := "rowsThere", desc := "()I" } : Jvm.MethodName)) ∈ GW := gw 15 (by decide +kernel) rfl
theorem q16 : (Jvm.Cond.selects "LongSums" ({ cls := "LongSums", name := "keepersThere", desc := "(Z)I" } : Jvm.MethodName) ({ cls := "LongSums", name := "keepersThere", desc := "(Z)I" } : Jvm.MethodName)) ∈ GW := gw 16 (by decide +kernel) rfl
theorem q17 : (Jvm.Cond.selects "LongSums" ({ cls := "LongSums", name := "placesThere", desc := "()I" } : Jvm.MethodName) ({ cls := "LongSums", name := "placesThere", desc := "()I" } : Jvm.MethodName)) ∈ GW := gw 17 (by decide +kernel) rfl
theorem q18 : (Jvm.Cond.selects "LongSumsModel" ({ cls := "LongSumsModel", name := "isThere", desc := "(I)Z" } : Jvm.MethodName) ({ cls := "LongSumsModel", name := "isThere", desc := "(I)Z" } : Jvm.MethodName)) ∈ GW := gw 18 (by decide +kernel) rfl
theorem q19 : (Jvm.Cond.selects "LongSumsModel" ({ cls := "LongSumsModel", name := "isPlace", desc := "(II)Z" } : Jvm.MethodName) ({ cls := "LongSumsModel", name := "isPlace", desc := "(II)Z" } : Jvm.MethodName)) ∈ GW := gw 19 (by decide +kernel) rfl
theorem q20 : (Jvm.Cond.selects "LongSumsModel" ({ cls := "LongSumsModel", name := "putFloat", desc := "(ID)V" } : Jvm.MethodName) ({ cls := "LongSumsModel", name := "putFloat", desc := "(ID)V" } : Jvm.MethodName)) ∈ GW := gw 20 (by decide +kernel) rfl
theorem q21 : (Jvm.Cond.selects "LongSumsModel" ({ cls := "LongSumsModel", name := "isReal", desc := "(I)Z" } : Jvm.MethodName) ({ cls := "LongSumsModel", name := "isReal", desc := "(I)Z" } : Jvm.MethodName)) ∈ GW := gw 21 (by decide +kernel) rfl
theorem q22 : (Jvm.Cond.selects "LongSumsModel" ({ cls := "LongSumsModel", name := "arePlaces", desc := "(III)Z" } : Jvm.MethodName) ({ cls := "LongSumsModel", name := "arePlaces", desc := "(III)Z" } : Jvm.MethodName)) ∈ GW := gw 22 (by decide +kernel) rfl
theorem q23 : (Jvm.Cond.selects "LongSumsModel" ({ cls := "LongSumsModel", name := "valueOf", desc := "(II)D" } : Jvm.MethodName) ({ cls := "LongSumsModel", name := "valueOf", desc := "(II)D" } : Jvm.MethodName)) ∈ GW := gw 23 (by decide +kernel) rfl
theorem q24 : (Jvm.Cond.selects "LongSumsModel" ({ cls := "LongSumsModel", name := "keep", desc := "(I)V" } : Jvm.MethodName) ({ cls := "LongSumsModel", name := "keep", desc := "(I)V" } : Jvm.MethodName)) ∈ GW := gw 24 (by decide +kernel) rfl
theorem q25 : (Jvm.Cond.selects "LongSumsModel" ({ cls := "LongSumsModel", name := "blank", desc := "(I)V" } : Jvm.MethodName) ({ cls := "LongSumsModel", name := "blank", desc := "(I)V" } : Jvm.MethodName)) ∈ GW := gw 25 (by decide +kernel) rfl
theorem q26 : (Jvm.Cond.selects "LongSumsModel" ({ cls := "LongSumsModel", name := "addProduct", desc := "(IIIIIZ)V" } : Jvm.MethodName) ({ cls := "LongSumsModel", name := "addProduct", desc := "(IIIIIZ)V" } : Jvm.MethodName)) ∈ GW := gw 26 (by decide +kernel) rfl
theorem q27 : (Jvm.Cond.selects "LongSumsModel" ({ cls := "LongSumsModel", name := "sortOf", desc := "(II)I" } : Jvm.MethodName) ({ cls := "LongSumsModel", name := "sortOf", desc := "(II)I" } : Jvm.MethodName)) ∈ GW := gw 27 (by decide +kernel) rfl
theorem q28 : (Jvm.Cond.selects "LongSumsModel" ({ cls := "LongSumsModel", name := "isZero", desc := "(II)Z" } : Jvm.MethodName) ({ cls := "LongSumsModel", name := "isZero", desc := "(II)Z" } : Jvm.MethodName)) ∈ GW := gw 28 (by decide +kernel) rfl
theorem q29 : (Jvm.Cond.selects "LongSumsModel" ({ cls := "LongSumsModel", name := "see", desc := "(III)V" } : Jvm.MethodName) ({ cls := "LongSumsModel", name := "see", desc := "(III)V" } : Jvm.MethodName)) ∈ GW := gw 29 (by decide +kernel) rfl
theorem q30 : (Jvm.Cond.selects "LongSumsModel" ({ cls := "LongSumsModel", name := "isBelow", desc := "(II)Z" } : Jvm.MethodName) ({ cls := "LongSumsModel", name := "isBelow", desc := "(II)Z" } : Jvm.MethodName)) ∈ GW := gw 30 (by decide +kernel) rfl
theorem q31 : (Jvm.Cond.selects "LongSumsModel" ({ cls := "LongSumsModel", name := "endless", desc := "(IZZ)V" } : Jvm.MethodName) ({ cls := "LongSumsModel", name := "endless", desc := "(IZZ)V" } : Jvm.MethodName)) ∈ GW := gw 31 (by decide +kernel) rfl
theorem q32 : (Jvm.Cond.selects "LongSumsModel" ({ cls := "LongSumsModel", name := "apart", desc := "(II)V" } : Jvm.MethodName) ({ cls := "LongSumsModel", name := "apart", desc := "(II)V" } : Jvm.MethodName)) ∈ GW := gw 32 (by decide +kernel) rfl
theorem q33 : (Jvm.Cond.selects "LongSumsModel" ({ cls := "LongSumsModel", name := "apart", desc := "(D)V" } : Jvm.MethodName) ({ cls := "LongSumsModel", name := "apart", desc := "(D)V" } : Jvm.MethodName)) ∈ GW := gw 33 (by decide +kernel) rfl
theorem q34 : (Jvm.Cond.selects "LongSumsModel" ({ cls := "LongSumsModel", name := "addBits", desc := "(IJJIZ)V" } : Jvm.MethodName) ({ cls := "LongSumsModel", name := "addBits", desc := "(IJJIZ)V" } : Jvm.MethodName)) ∈ GW := gw 34 (by decide +kernel) rfl
theorem q35 : (Jvm.Cond.selects "LongSumsModel" ({ cls := "LongSumsModel", name := "carry", desc := "(IJJ)J" } : Jvm.MethodName) ({ cls := "LongSumsModel", name := "carry", desc := "(IJJ)J" } : Jvm.MethodName)) ∈ GW := gw 35 (by decide +kernel) rfl
theorem q36 : (Jvm.Cond.selects "LongSumsModel" ({ cls := "LongSumsModel", name := "addPlace", desc := "(IIIZ)V" } : Jvm.MethodName) ({ cls := "LongSumsModel", name := "addPlace", desc := "(IIIZ)V" } : Jvm.MethodName)) ∈ GW := gw 36 (by decide +kernel) rfl
theorem q37 : (Jvm.Cond.selects "LongSumsModel" ({ cls := "LongSumsModel", name := "plainOf", desc := "(III)D" } : Jvm.MethodName) ({ cls := "LongSumsModel", name := "plainOf", desc := "(III)D" } : Jvm.MethodName)) ∈ GW := gw 37 (by decide +kernel) rfl
theorem q38 : (Jvm.Cond.selects "LongSumsModel" ({ cls := "LongSumsModel", name := "sortOf", desc := "(I)I" } : Jvm.MethodName) ({ cls := "LongSumsModel", name := "sortOf", desc := "(I)I" } : Jvm.MethodName)) ∈ GW := gw 38 (by decide +kernel) rfl
theorem q39 : (Jvm.Cond.selects "LongSumsModel" ({ cls := "LongSumsModel", name := "endlessBy", desc := "(I)D" } : Jvm.MethodName) ({ cls := "LongSumsModel", name := "endlessBy", desc := "(I)D" } : Jvm.MethodName)) ∈ GW := gw 39 (by decide +kernel) rfl
theorem q40 : (Jvm.Cond.selects "LongSumsModel" ({ cls := "LongSumsModel", name := "take", desc := "(I)V" } : Jvm.MethodName) ({ cls := "LongSumsModel", name := "take", desc := "(I)V" } : Jvm.MethodName)) ∈ GW := gw 40 (by decide +kernel) rfl
theorem q41 : (Jvm.Cond.selects "LongSumsModel" ({ cls := "LongSumsModel", name := "rounded", desc := "(IIII)D" } : Jvm.MethodName) ({ cls := "LongSumsModel", name := "rounded", desc := "(IIII)D" } : Jvm.MethodName)) ∈ GW := gw 41 (by decide +kernel) rfl
theorem q42 : (Jvm.Cond.selects "LongSumsModel" ({ cls := "LongSumsModel", name := "highest", desc := "()I" } : Jvm.MethodName) ({ cls := "LongSumsModel", name := "highest", desc := "()I" } : Jvm.MethodName)) ∈ GW := gw 42 (by decide +kernel) rfl
theorem q43 : (Jvm.Cond.selects "LongSumsModel" ({ cls := "LongSumsModel", name := "bitAt", desc := "(I)I" } : Jvm.MethodName) ({ cls := "LongSumsModel", name := "bitAt", desc := "(I)I" } : Jvm.MethodName)) ∈ GW := gw 43 (by decide +kernel) rfl
theorem q44 : (Jvm.Cond.selects "LongSumsModel" ({ cls := "LongSumsModel", name := "compareSquare", desc := "(J)I" } : Jvm.MethodName) ({ cls := "LongSumsModel", name := "compareSquare", desc := "(J)I" } : Jvm.MethodName)) ∈ GW := gw 44 (by decide +kernel) rfl
theorem q45 : (Jvm.Cond.selects "LongSumsModel" ({ cls := "LongSumsModel", name := "doubleOf", desc := "(J)D" } : Jvm.MethodName) ({ cls := "LongSumsModel", name := "doubleOf", desc := "(J)D" } : Jvm.MethodName)) ∈ GW := gw 45 (by decide +kernel) rfl
theorem q47 : (Jvm.Cond.initialized "LongSums") ∈ GW := gw 47 (by decide +kernel) rfl
theorem q48 : (Jvm.Cond.initialized "LongSums$History") ∈ GW := gw 48 (by decide +kernel) rfl
theorem q49 : (Jvm.Cond.initialized "LongSums$Keeper") ∈ GW := gw 49 (by decide +kernel) rfl
theorem q50 : (Jvm.Cond.initialized "LongSums$Size") ∈ GW := gw 50 (by decide +kernel) rfl
theorem q51 : (Jvm.Cond.initialized "LongSums$Row") ∈ GW := gw 51 (by decide +kernel) rfl
theorem q52 : (Jvm.Cond.initialized "java/util/Arrays") ∈ GW := gw 52 (by decide +kernel) rfl
theorem q53 : (Jvm.Cond.initialized "java/lang/Math") ∈ GW := gw 53 (by decide +kernel) rfl
theorem q55 : (Jvm.Cond.initialized "java/lang/Long") ∈ GW := gw 55 (by decide +kernel) rfl
theorem q56 : (Jvm.Cond.initialized "java/lang/Integer") ∈ GW := gw 56 (by decide +kernel) rfl
theorem q57 : (Jvm.Cond.initialized "LongSumsModel") ∈ GW := gw 57 (by decide +kernel) rfl
theorem q58 : (Jvm.Cond.initialized "java/lang/System") ∈ GW := gw 58 (by decide +kernel) rfl
theorem q83 : (Jvm.Cond.fieldLink "LongSums$Keeper" (9 : Nat) "LongSums$Keeper" "there" "Z") ∈ GW := gw 83 (by decide +kernel) rfl
theorem q84 : (Jvm.Cond.fieldLink "LongSums" (118 : Nat) "LongSums$Keeper" "there" "Z") ∈ GW := gw 84 (by decide +kernel) rfl
theorem q85 : (Jvm.Cond.fieldLink "LongSums$Keeper" (15 : Nat) "LongSums$Keeper" "kind" "I") ∈ GW := gw 85 (by decide +kernel) rfl
theorem q86 : (Jvm.Cond.fieldLink "LongSums" (119 : Nat) "LongSums$Keeper" "kind" "I") ∈ GW := gw 86 (by decide +kernel) rfl
theorem q87 : (Jvm.Cond.fieldLink "LongSums$Keeper" (19 : Nat) "LongSums$Keeper" "met" "[I") ∈ GW := gw 87 (by decide +kernel) rfl
theorem q88 : (Jvm.Cond.fieldLink "LongSums" (152 : Nat) "LongSums$Keeper" "met" "[I") ∈ GW := gw 88 (by decide +kernel) rfl
theorem q89 : (Jvm.Cond.fieldLink "LongSums$Keeper" (23 : Nat) "LongSums$Keeper" "limbs" "[J") ∈ GW := gw 89 (by decide +kernel) rfl
theorem q90 : (Jvm.Cond.fieldLink "LongSums$Size" (21 : Nat) "LongSums$Keeper" "limbs" "[J") ∈ GW := gw 90 (by decide +kernel) rfl
theorem q102 : (Jvm.Cond.fieldLink "LongSums$History" (11 : Nat) "LongSums$History" "before" "[LLongSums$Keeper;") ∈ GW := gw 102 (by decide +kernel) rfl
theorem q103 : (Jvm.Cond.fieldLink "LongSums$History" (17 : Nat) "LongSums$History" "whose" "[I") ∈ GW := gw 103 (by decide +kernel) rfl
theorem q104 : (Jvm.Cond.fieldLink "LongSums$History" (21 : Nat) "LongSums$History" "kept" "I") ∈ GW := gw 104 (by decide +kernel) rfl
theorem q105 : (Jvm.Cond.fieldLink "LongSums" (190 : Nat) "LongSums$History" "kept" "I") ∈ GW := gw 105 (by decide +kernel) rfl
theorem q106 : (Jvm.Cond.fieldLink "LongSums$History" (25 : Nat) "LongSums$History" "latest" "I") ∈ GW := gw 106 (by decide +kernel) rfl
theorem q122 : (Jvm.Cond.fieldLink "LongSums$Size" (9 : Nat) "LongSums$Size" "limbs" "[J") ∈ GW := gw 122 (by decide +kernel) rfl
theorem q131 : (Jvm.Cond.fieldLink "LongSums$Row" (9 : Nat) "LongSums$Row" "there" "Z") ∈ GW := gw 131 (by decide +kernel) rfl
theorem q132 : (Jvm.Cond.fieldLink "LongSums" (60 : Nat) "LongSums$Row" "there" "Z") ∈ GW := gw 132 (by decide +kernel) rfl
theorem q133 : (Jvm.Cond.fieldLink "LongSums$Row" (15 : Nat) "LongSums$Row" "kind" "I") ∈ GW := gw 133 (by decide +kernel) rfl
theorem q134 : (Jvm.Cond.fieldLink "LongSums" (82 : Nat) "LongSums$Row" "kind" "I") ∈ GW := gw 134 (by decide +kernel) rfl
theorem q135 : (Jvm.Cond.fieldLink "LongSums$Row" (19 : Nat) "LongSums$Row" "places" "I") ∈ GW := gw 135 (by decide +kernel) rfl
theorem q136 : (Jvm.Cond.fieldLink "LongSums" (64 : Nat) "LongSums$Row" "places" "I") ∈ GW := gw 136 (by decide +kernel) rfl
theorem q137 : (Jvm.Cond.fieldLink "LongSums$Row" (22 : Nat) "LongSums$Row" "wholes" "[J") ∈ GW := gw 137 (by decide +kernel) rfl
theorem q138 : (Jvm.Cond.fieldLink "LongSums" (97 : Nat) "LongSums$Row" "wholes" "[J") ∈ GW := gw 138 (by decide +kernel) rfl
theorem q139 : (Jvm.Cond.fieldLink "LongSums$Keeper" (46 : Nat) "LongSums$Row" "wholes" "[J") ∈ GW := gw 139 (by decide +kernel) rfl
theorem q140 : (Jvm.Cond.fieldLink "LongSums$Row" (26 : Nat) "LongSums$Row" "powers" "[I") ∈ GW := gw 140 (by decide +kernel) rfl
theorem q141 : (Jvm.Cond.fieldLink "LongSums$Keeper" (51 : Nat) "LongSums$Row" "powers" "[I") ∈ GW := gw 141 (by decide +kernel) rfl
theorem q142 : (Jvm.Cond.fieldLink "LongSums$Row" (30 : Nat) "LongSums$Row" "sorts" "[I") ∈ GW := gw 142 (by decide +kernel) rfl
theorem q157 : (Jvm.Cond.methodLink "LongSums" (48 : Nat) ({ cls := "LongSums$Row", name := "renew", desc := "(II)V" } : Jvm.MethodName)) ∈ GW := gw 157 (by decide +kernel) rfl
theorem q158 : (Jvm.Cond.instanceMethod ({ cls := "LongSums$Row", name := "renew", desc := "(II)V" } : Jvm.MethodName)) ∈ GW := gw 158 (by decide +kernel) rfl
theorem q159 : (Jvm.Cond.selects "LongSums$Row" ({ cls := "LongSums$Row", name := "renew", desc := "(II)V" } : Jvm.MethodName) ({ cls := "LongSums$Row", name := "renew", desc := "(II)V" } : Jvm.MethodName)) ∈ GW := gw 159 (by decide +kernel) rfl
theorem q160 : (Jvm.Cond.code ({ cls := "LongSums$Row", name := "renew", desc := "(II)V" } : Jvm.MethodName) prog_4_method_2_code (3 : Nat) (Option.none : Option Jvm.ClassFile.FieldType)) ∈ GW := gw 160 (by decide +kernel) rfl
theorem q161 : (Jvm.Cond.methodLink "LongSums$Row" (33 : Nat) ({ cls := "java/util/Arrays", name := "fill", desc := "([JJ)V" } : Jvm.MethodName)) ∈ GW := gw 161 (by decide +kernel) rfl
theorem q162 : (Jvm.Cond.static ({ cls := "java/util/Arrays", name := "fill", desc := "([JJ)V" } : Jvm.MethodName)) ∈ GW := gw 162 (by decide +kernel) rfl
theorem q163 : (Jvm.Cond.code ({ cls := "java/util/Arrays", name := "fill", desc := "([JJ)V" } : Jvm.MethodName) prog_13_method_101_code (5 : Nat) (Option.none : Option Jvm.ClassFile.FieldType)) ∈ GW := gw 163 (by decide +kernel) rfl
theorem q164 : (Jvm.Cond.methodLink "LongSums$Row" (39 : Nat) ({ cls := "java/util/Arrays", name := "fill", desc := "([II)V" } : Jvm.MethodName)) ∈ GW := gw 164 (by decide +kernel) rfl
theorem q165 : (Jvm.Cond.static ({ cls := "java/util/Arrays", name := "fill", desc := "([II)V" } : Jvm.MethodName)) ∈ GW := gw 165 (by decide +kernel) rfl
theorem q166 : (Jvm.Cond.code ({ cls := "java/util/Arrays", name := "fill", desc := "([II)V" } : Jvm.MethodName) prog_13_method_103_code (4 : Nat) (Option.none : Option Jvm.ClassFile.FieldType)) ∈ GW := gw 166 (by decide +kernel) rfl
theorem q167 : (Jvm.Cond.methodLink "LongSums" (52 : Nat) ({ cls := "LongSums$Row", name := "write", desc := "(IJI)V" } : Jvm.MethodName)) ∈ GW := gw 167 (by decide +kernel) rfl
theorem q168 : (Jvm.Cond.instanceMethod ({ cls := "LongSums$Row", name := "write", desc := "(IJI)V" } : Jvm.MethodName)) ∈ GW := gw 168 (by decide +kernel) rfl
theorem q169 : (Jvm.Cond.selects "LongSums$Row" ({ cls := "LongSums$Row", name := "write", desc := "(IJI)V" } : Jvm.MethodName) ({ cls := "LongSums$Row", name := "write", desc := "(IJI)V" } : Jvm.MethodName)) ∈ GW := gw 169 (by decide +kernel) rfl
theorem q170 : (Jvm.Cond.code ({ cls := "LongSums$Row", name := "write", desc := "(IJI)V" } : Jvm.MethodName) prog_4_method_7_code (5 : Nat) (Option.none : Option Jvm.ClassFile.FieldType)) ∈ GW := gw 170 (by decide +kernel) rfl
theorem q171 : (Jvm.Cond.methodLink "LongSums$Row" (52 : Nat) ({ cls := "LongSums$Row", name := "writeNumber", desc := "(IJI)V" } : Jvm.MethodName)) ∈ GW := gw 171 (by decide +kernel) rfl
theorem q173 : (Jvm.Cond.instanceMethod ({ cls := "LongSums$Row", name := "writeNumber", desc := "(IJI)V" } : Jvm.MethodName)) ∈ GW := gw 173 (by decide +kernel) rfl
theorem q174 : (Jvm.Cond.code ({ cls := "LongSums$Row", name := "writeNumber", desc := "(IJI)V" } : Jvm.MethodName) prog_4_method_16_code (5 : Nat) (Option.none : Option Jvm.ClassFile.FieldType)) ∈ GW := gw 174 (by decide +kernel) rfl
theorem q175 : (Jvm.Cond.methodLink "LongSums$Row" (56 : Nat) ({ cls := "LongSums$Row", name := "writeFloat", desc := "(IJI)V" } : Jvm.MethodName)) ∈ GW := gw 175 (by decide +kernel) rfl
theorem q177 : (Jvm.Cond.instanceMethod ({ cls := "LongSums$Row", name := "writeFloat", desc := "(IJI)V" } : Jvm.MethodName)) ∈ GW := gw 177 (by decide +kernel) rfl
theorem q178 : (Jvm.Cond.code ({ cls := "LongSums$Row", name := "writeFloat", desc := "(IJI)V" } : Jvm.MethodName) prog_4_method_14_code (10 : Nat) (Option.none : Option Jvm.ClassFile.FieldType)) ∈ GW := gw 178 (by decide +kernel) rfl
theorem q179 : (Jvm.Cond.methodLink "LongSums$Row" (90 : Nat) ({ cls := "java/lang/Math", name := "abs", desc := "(J)J" } : Jvm.MethodName)) ∈ GW := gw 179 (by decide +kernel) rfl
theorem q180 : (Jvm.Cond.static ({ cls := "java/lang/Math", name := "abs", desc := "(J)J" } : Jvm.MethodName)) ∈ GW := gw 180 (by decide +kernel) rfl
theorem q181 : (Jvm.Cond.code ({ cls := "java/lang/Math", name := "abs", desc := "(J)J" } : Jvm.MethodName) prog_10_method_61_code (2 : Nat) (Option.some Jvm.ClassFile.FieldType.long)) ∈ GW := gw 181 (by decide +kernel) rfl
theorem q183 : (Jvm.Cond.static ({ cls := "LongSums", name := "bitsIn", desc := "(J)I" } : Jvm.MethodName)) ∈ GW := gw 183 (by decide +kernel) rfl
theorem q184 : (Jvm.Cond.code ({ cls := "LongSums", name := "bitsIn", desc := "(J)I" } : Jvm.MethodName) prog_1_method_41_code (2 : Nat) (Option.some Jvm.ClassFile.FieldType.int)) ∈ GW := gw 184 (by decide +kernel) rfl
theorem q185 : (Jvm.Cond.methodLink "LongSums" (230 : Nat) ({ cls := "java/lang/Long", name := "numberOfLeadingZeros", desc := "(J)I" } : Jvm.MethodName)) ∈ GW := gw 185 (by decide +kernel) rfl
theorem q186 : (Jvm.Cond.static ({ cls := "java/lang/Long", name := "numberOfLeadingZeros", desc := "(J)I" } : Jvm.MethodName)) ∈ GW := gw 186 (by decide +kernel) rfl
theorem q187 : (Jvm.Cond.code ({ cls := "java/lang/Long", name := "numberOfLeadingZeros", desc := "(J)I" } : Jvm.MethodName) prog_9_method_48_code (3 : Nat) (Option.some Jvm.ClassFile.FieldType.int)) ∈ GW := gw 187 (by decide +kernel) rfl
theorem q188 : (Jvm.Cond.methodLink "java/lang/Long" (308 : Nat) ({ cls := "java/lang/Integer", name := "numberOfLeadingZeros", desc := "(I)I" } : Jvm.MethodName)) ∈ GW := gw 188 (by decide +kernel) rfl
theorem q189 : (Jvm.Cond.static ({ cls := "java/lang/Integer", name := "numberOfLeadingZeros", desc := "(I)I" } : Jvm.MethodName)) ∈ GW := gw 189 (by decide +kernel) rfl
theorem q190 : (Jvm.Cond.code ({ cls := "java/lang/Integer", name := "numberOfLeadingZeros", desc := "(I)I" } : Jvm.MethodName) prog_8_method_47_code (2 : Nat) (Option.some Jvm.ClassFile.FieldType.int)) ∈ GW := gw 190 (by decide +kernel) rfl
theorem q191 : (Jvm.Cond.constant "java/lang/Integer" (264 : Nat) (65536 : Int32)) ∈ GW := gw 191 (by decide +kernel) rfl
theorem q192 : (Jvm.Cond.methodLink "LongSums$Row" (77 : Nat) ({ cls := "java/lang/Math", name := "max", desc := "(II)I" } : Jvm.MethodName)) ∈ GW := gw 192 (by decide +kernel) rfl
theorem q193 : (Jvm.Cond.static ({ cls := "java/lang/Math", name := "max", desc := "(II)I" } : Jvm.MethodName)) ∈ GW := gw 193 (by decide +kernel) rfl
theorem q194 : (Jvm.Cond.code ({ cls := "java/lang/Math", name := "max", desc := "(II)I" } : Jvm.MethodName) prog_10_method_65_code (2 : Nat) (Option.some Jvm.ClassFile.FieldType.int)) ∈ GW := gw 194 (by decide +kernel) rfl
theorem q195 : (Jvm.Cond.methodLink "LongSums$Row" (98 : Nat) ({ cls := "LongSums$Row", name := "withoutBits", desc := "(JI)J" } : Jvm.MethodName)) ∈ GW := gw 195 (by decide +kernel) rfl
theorem q196 : (Jvm.Cond.static ({ cls := "LongSums$Row", name := "withoutBits", desc := "(JI)J" } : Jvm.MethodName)) ∈ GW := gw 196 (by decide +kernel) rfl
theorem q197 : (Jvm.Cond.code ({ cls := "LongSums$Row", name := "withoutBits", desc := "(JI)J" } : Jvm.MethodName) prog_4_method_15_code (7 : Nat) (Option.some Jvm.ClassFile.FieldType.long)) ∈ GW := gw 197 (by decide +kernel) rfl
theorem q199 : (Jvm.Cond.static ({ cls := "LongSums", name := "stepsAway", desc := "(JZZZI)Z" } : Jvm.MethodName)) ∈ GW := gw 199 (by decide +kernel) rfl
theorem q200 : (Jvm.Cond.code ({ cls := "LongSums", name := "stepsAway", desc := "(JZZZI)Z" } : Jvm.MethodName) prog_1_method_42_code (6 : Nat) (Option.some Jvm.ClassFile.FieldType.boolean)) ∈ GW := gw 200 (by decide +kernel) rfl
theorem q201 : (Jvm.Cond.methodLink "LongSums$Row" (59 : Nat) ({ cls := "LongSums$Row", name := "writeSort", desc := "(II)V" } : Jvm.MethodName)) ∈ GW := gw 201 (by decide +kernel) rfl
theorem q203 : (Jvm.Cond.instanceMethod ({ cls := "LongSums$Row", name := "writeSort", desc := "(II)V" } : Jvm.MethodName)) ∈ GW := gw 203 (by decide +kernel) rfl
theorem q204 : (Jvm.Cond.code ({ cls := "LongSums$Row", name := "writeSort", desc := "(II)V" } : Jvm.MethodName) prog_4_method_17_code (3 : Nat) (Option.none : Option Jvm.ClassFile.FieldType)) ∈ GW := gw 204 (by decide +kernel) rfl
theorem q205 : (Jvm.Cond.fieldLink "LongSums" (11 : Nat) "LongSums" "rows" "[LLongSums$Row;") ∈ GW := gw 205 (by decide +kernel) rfl
theorem q206 : (Jvm.Cond.fieldLink "LongSums" (17 : Nat) "LongSums" "keepers" "[LLongSums$Keeper;") ∈ GW := gw 206 (by decide +kernel) rfl
theorem q207 : (Jvm.Cond.fieldLink "LongSums" (24 : Nat) "LongSums" "history" "LLongSums$History;") ∈ GW := gw 207 (by decide +kernel) rfl
theorem q208 : (Jvm.Cond.fieldLink "LongSums" (31 : Nat) "LongSums" "size" "LLongSums$Size;") ∈ GW := gw 208 (by decide +kernel) rfl
theorem q209 : (Jvm.Cond.fieldLink "LongSums" (36 : Nat) "LongSums" "ones" "LLongSums$Row;") ∈ GW := gw 209 (by decide +kernel) rfl
theorem q210 : (Jvm.Cond.fieldLink "LongSums" (40 : Nat) "LongSums" "plainSum" "LLongSums$Row;") ∈ GW := gw 210 (by decide +kernel) rfl
theorem q211 : (Jvm.Cond.fieldLink "LongSums" (43 : Nat) "LongSums" "gathered" "I") ∈ GW := gw 211 (by decide +kernel) rfl
theorem q231 : (Jvm.Cond.methodLink "LongSums" (56 : Nat) ({ cls := "LongSums", name := "isRow", desc := "(I)Z" } : Jvm.MethodName)) ∈ GW := gw 231 (by decide +kernel) rfl
theorem q232 : (Jvm.Cond.static ({ cls := "LongSums", name := "isRow", desc := "(I)Z" } : Jvm.MethodName)) ∈ GW := gw 232 (by decide +kernel) rfl
theorem q233 : (Jvm.Cond.code ({ cls := "LongSums", name := "isRow", desc := "(I)Z" } : Jvm.MethodName) prog_1_method_28_code (1 : Nat) (Option.some Jvm.ClassFile.FieldType.boolean)) ∈ GW := gw 233 (by decide +kernel) rfl
theorem q242 : (Jvm.Cond.constantLong "LongSums" (67 : Nat) (-9007199254740992 : Int64)) ∈ GW := gw 242 (by decide +kernel) rfl
theorem q243 : (Jvm.Cond.constantLong "LongSums" (69 : Nat) (9007199254740992 : Int64)) ∈ GW := gw 243 (by decide +kernel) rfl
theorem q244 : (Jvm.Cond.methodLink "LongSums" (71 : Nat) ({ cls := "LongSums$Row", name := "has", desc := "(II)Z" } : Jvm.MethodName)) ∈ GW := gw 244 (by decide +kernel) rfl
theorem q245 : (Jvm.Cond.instanceMethod ({ cls := "LongSums$Row", name := "has", desc := "(II)Z" } : Jvm.MethodName)) ∈ GW := gw 245 (by decide +kernel) rfl
theorem q246 : (Jvm.Cond.selects "LongSums$Row" ({ cls := "LongSums$Row", name := "has", desc := "(II)Z" } : Jvm.MethodName) ({ cls := "LongSums$Row", name := "has", desc := "(II)Z" } : Jvm.MethodName)) ∈ GW := gw 246 (by decide +kernel) rfl
theorem q247 : (Jvm.Cond.code ({ cls := "LongSums$Row", name := "has", desc := "(II)Z" } : Jvm.MethodName) prog_4_method_4_code (3 : Nat) (Option.some Jvm.ClassFile.FieldType.boolean)) ∈ GW := gw 247 (by decide +kernel) rfl
theorem q252 : (Jvm.Cond.methodLink "LongSums" (75 : Nat) ({ cls := "LongSums$Row", name := "isFloating", desc := "()Z" } : Jvm.MethodName)) ∈ GW := gw 252 (by decide +kernel) rfl
theorem q253 : (Jvm.Cond.instanceMethod ({ cls := "LongSums$Row", name := "isFloating", desc := "()Z" } : Jvm.MethodName)) ∈ GW := gw 253 (by decide +kernel) rfl
theorem q254 : (Jvm.Cond.selects "LongSums$Row" ({ cls := "LongSums$Row", name := "isFloating", desc := "()Z" } : Jvm.MethodName) ({ cls := "LongSums$Row", name := "isFloating", desc := "()Z" } : Jvm.MethodName)) ∈ GW := gw 254 (by decide +kernel) rfl
theorem q255 : (Jvm.Cond.code ({ cls := "LongSums$Row", name := "isFloating", desc := "()Z" } : Jvm.MethodName) prog_4_method_3_code (1 : Nat) (Option.some Jvm.ClassFile.FieldType.boolean)) ∈ GW := gw 255 (by decide +kernel) rfl
theorem q256 : (Jvm.Cond.methodLink "LongSums" (79 : Nat) ({ cls := "LongSums$Row", name := "writeMark", desc := "(II)V" } : Jvm.MethodName)) ∈ GW := gw 256 (by decide +kernel) rfl
theorem q257 : (Jvm.Cond.instanceMethod ({ cls := "LongSums$Row", name := "writeMark", desc := "(II)V" } : Jvm.MethodName)) ∈ GW := gw 257 (by decide +kernel) rfl
theorem q258 : (Jvm.Cond.selects "LongSums$Row" ({ cls := "LongSums$Row", name := "writeMark", desc := "(II)V" } : Jvm.MethodName) ({ cls := "LongSums$Row", name := "writeMark", desc := "(II)V" } : Jvm.MethodName)) ∈ GW := gw 258 (by decide +kernel) rfl
theorem q259 : (Jvm.Cond.code ({ cls := "LongSums$Row", name := "writeMark", desc := "(II)V" } : Jvm.MethodName) prog_4_method_8_code (6 : Nat) (Option.none : Option Jvm.ClassFile.FieldType)) ∈ GW := gw 259 (by decide +kernel) rfl
theorem q264 : (Jvm.Cond.methodLink "LongSums" (85 : Nat) ({ cls := "LongSums$Row", name := "writeAll", desc := "(LLongSums$Row;III)V" } : Jvm.MethodName)) ∈ GW := gw 264 (by decide +kernel) rfl
theorem q265 : (Jvm.Cond.instanceMethod ({ cls := "LongSums$Row", name := "writeAll", desc := "(LLongSums$Row;III)V" } : Jvm.MethodName)) ∈ GW := gw 265 (by decide +kernel) rfl
theorem q266 : (Jvm.Cond.selects "LongSums$Row" ({ cls := "LongSums$Row", name := "writeAll", desc := "(LLongSums$Row;III)V" } : Jvm.MethodName) ({ cls := "LongSums$Row", name := "writeAll", desc := "(LLongSums$Row;III)V" } : Jvm.MethodName)) ∈ GW := gw 266 (by decide +kernel) rfl
theorem q267 : (Jvm.Cond.code ({ cls := "LongSums$Row", name := "writeAll", desc := "(LLongSums$Row;III)V" } : Jvm.MethodName) prog_4_method_9_code (5 : Nat) (Option.none : Option Jvm.ClassFile.FieldType)) ∈ GW := gw 267 (by decide +kernel) rfl
theorem q268 : (Jvm.Cond.methodLink "LongSums$Row" (63 : Nat) ({ cls := "java/lang/System", name := "arraycopy", desc := "(Ljava/lang/Object;ILjava/lang/Object;II)V" } : Jvm.MethodName)) ∈ GW := gw 268 (by decide +kernel) rfl
theorem q269 : (Jvm.Cond.static ({ cls := "java/lang/System", name := "arraycopy", desc := "(Ljava/lang/Object;ILjava/lang/Object;II)V" } : Jvm.MethodName)) ∈ GW := gw 269 (by decide +kernel) rfl
theorem q270 : (Jvm.Cond.native ({ cls := "java/lang/System", name := "arraycopy", desc := "(Ljava/lang/Object;ILjava/lang/Object;II)V" } : Jvm.MethodName)) ∈ GW := gw 270 (by decide +kernel) rfl
theorem q275 : (Jvm.Cond.constantLong "LongSums" (89 : Nat) (-3 : Int64)) ∈ GW := gw 275 (by decide +kernel) rfl
theorem q276 : (Jvm.Cond.constantLong "LongSums" (91 : Nat) (-11 : Int64)) ∈ GW := gw 276 (by decide +kernel) rfl
theorem q277 : (Jvm.Cond.constantLong "LongSums" (93 : Nat) (-12 : Int64)) ∈ GW := gw 277 (by decide +kernel) rfl
theorem q278 : (Jvm.Cond.constantLong "LongSums" (95 : Nat) (-13 : Int64)) ∈ GW := gw 278 (by decide +kernel) rfl
theorem q283 : (Jvm.Cond.methodLink "LongSums" (101 : Nat) ({ cls := "LongSums$Row", name := "asDouble", desc := "(I)D" } : Jvm.MethodName)) ∈ GW := gw 283 (by decide +kernel) rfl
theorem q284 : (Jvm.Cond.instanceMethod ({ cls := "LongSums$Row", name := "asDouble", desc := "(I)D" } : Jvm.MethodName)) ∈ GW := gw 284 (by decide +kernel) rfl
theorem q285 : (Jvm.Cond.selects "LongSums$Row" ({ cls := "LongSums$Row", name := "asDouble", desc := "(I)D" } : Jvm.MethodName) ({ cls := "LongSums$Row", name := "asDouble", desc := "(I)D" } : Jvm.MethodName)) ∈ GW := gw 285 (by decide +kernel) rfl
theorem q286 : (Jvm.Cond.code ({ cls := "LongSums$Row", name := "asDouble", desc := "(I)D" } : Jvm.MethodName) prog_4_method_6_code (2 : Nat) (Option.some Jvm.ClassFile.FieldType.double)) ∈ GW := gw 286 (by decide +kernel) rfl
theorem q288 : (Jvm.Cond.static ({ cls := "LongSums", name := "endless", desc := "()D" } : Jvm.MethodName)) ∈ GW := gw 288 (by decide +kernel) rfl
theorem q289 : (Jvm.Cond.code ({ cls := "LongSums", name := "endless", desc := "()D" } : Jvm.MethodName) prog_1_method_38_code (0 : Nat) (Option.some Jvm.ClassFile.FieldType.double)) ∈ GW := gw 289 (by decide +kernel) rfl
theorem q290 : (Jvm.Cond.constantDouble "LongSums" (220 : Nat) (9218868437227405312 : UInt64)) ∈ GW := gw 290 (by decide +kernel) rfl
theorem q291 : (Jvm.Cond.constantDouble "LongSums$Row" (46 : Nat) (9223372036854775808 : UInt64)) ∈ GW := gw 291 (by decide +kernel) rfl
theorem q293 : (Jvm.Cond.static ({ cls := "LongSums", name := "power", desc := "(I)D" } : Jvm.MethodName)) ∈ GW := gw 293 (by decide +kernel) rfl
theorem q294 : (Jvm.Cond.code ({ cls := "LongSums", name := "power", desc := "(I)D" } : Jvm.MethodName) prog_1_method_40_code (6 : Nat) (Option.some Jvm.ClassFile.FieldType.double)) ∈ GW := gw 294 (by decide +kernel) rfl
theorem q295 : (Jvm.Cond.constantDouble "LongSums" (226 : Nat) (4602678819172646912 : UInt64)) ∈ GW := gw 295 (by decide +kernel) rfl
theorem q296 : (Jvm.Cond.constantDouble "LongSums" (228 : Nat) (4611686018427387904 : UInt64)) ∈ GW := gw 296 (by decide +kernel) rfl
theorem q297 : (Jvm.Cond.methodLink "LongSums" (120 : Nat) ({ cls := "java/lang/Math", name := "abs", desc := "(I)I" } : Jvm.MethodName)) ∈ GW := gw 297 (by decide +kernel) rfl
theorem q298 : (Jvm.Cond.static ({ cls := "java/lang/Math", name := "abs", desc := "(I)I" } : Jvm.MethodName)) ∈ GW := gw 298 (by decide +kernel) rfl
theorem q299 : (Jvm.Cond.code ({ cls := "java/lang/Math", name := "abs", desc := "(I)I" } : Jvm.MethodName) prog_10_method_59_code (1 : Nat) (Option.some Jvm.ClassFile.FieldType.int)) ∈ GW := gw 299 (by decide +kernel) rfl
theorem q304 : (Jvm.Cond.methodLink "LongSums" (105 : Nat) ({ cls := "LongSums$Row", name := "sortAt", desc := "(I)I" } : Jvm.MethodName)) ∈ GW := gw 304 (by decide +kernel) rfl
theorem q305 : (Jvm.Cond.instanceMethod ({ cls := "LongSums$Row", name := "sortAt", desc := "(I)I" } : Jvm.MethodName)) ∈ GW := gw 305 (by decide +kernel) rfl
theorem q306 : (Jvm.Cond.selects "LongSums$Row" ({ cls := "LongSums$Row", name := "sortAt", desc := "(I)I" } : Jvm.MethodName) ({ cls := "LongSums$Row", name := "sortAt", desc := "(I)I" } : Jvm.MethodName)) ∈ GW := gw 306 (by decide +kernel) rfl
theorem q307 : (Jvm.Cond.code ({ cls := "LongSums$Row", name := "sortAt", desc := "(I)I" } : Jvm.MethodName) prog_4_method_5_code (2 : Nat) (Option.some Jvm.ClassFile.FieldType.int)) ∈ GW := gw 307 (by decide +kernel) rfl
theorem q312 : (Jvm.Cond.methodLink "LongSums" (109 : Nat) ({ cls := "LongSums", name := "isKeeper", desc := "(I)Z" } : Jvm.MethodName)) ∈ GW := gw 312 (by decide +kernel) rfl
theorem q313 : (Jvm.Cond.static ({ cls := "LongSums", name := "isKeeper", desc := "(I)Z" } : Jvm.MethodName)) ∈ GW := gw 313 (by decide +kernel) rfl
theorem q314 : (Jvm.Cond.code ({ cls := "LongSums", name := "isKeeper", desc := "(I)Z" } : Jvm.MethodName) prog_1_method_29_code (1 : Nat) (Option.some Jvm.ClassFile.FieldType.boolean)) ∈ GW := gw 314 (by decide +kernel) rfl
theorem q315 : (Jvm.Cond.methodLink "LongSums" (112 : Nat) ({ cls := "LongSums", name := "remember", desc := "(I)V" } : Jvm.MethodName)) ∈ GW := gw 315 (by decide +kernel) rfl
theorem q317 : (Jvm.Cond.instanceMethod ({ cls := "LongSums", name := "remember", desc := "(I)V" } : Jvm.MethodName)) ∈ GW := gw 317 (by decide +kernel) rfl
theorem q318 : (Jvm.Cond.code ({ cls := "LongSums", name := "remember", desc := "(I)V" } : Jvm.MethodName) prog_1_method_32_code (2 : Nat) (Option.none : Option Jvm.ClassFile.FieldType)) ∈ GW := gw 318 (by decide +kernel) rfl
theorem q319 : (Jvm.Cond.methodLink "LongSums" (209 : Nat) ({ cls := "LongSums$History", name := "keep", desc := "(ILLongSums$Keeper;)V" } : Jvm.MethodName)) ∈ GW := gw 319 (by decide +kernel) rfl
theorem q320 : (Jvm.Cond.instanceMethod ({ cls := "LongSums$History", name := "keep", desc := "(ILLongSums$Keeper;)V" } : Jvm.MethodName)) ∈ GW := gw 320 (by decide +kernel) rfl
theorem q321 : (Jvm.Cond.selects "LongSums$History" ({ cls := "LongSums$History", name := "keep", desc := "(ILLongSums$Keeper;)V" } : Jvm.MethodName) ({ cls := "LongSums$History", name := "keep", desc := "(ILLongSums$Keeper;)V" } : Jvm.MethodName)) ∈ GW := gw 321 (by decide +kernel) rfl
theorem q322 : (Jvm.Cond.code ({ cls := "LongSums$History", name := "keep", desc := "(ILLongSums$Keeper;)V" } : Jvm.MethodName) prog_2_method_2_code (3 : Nat) (Option.none : Option Jvm.ClassFile.FieldType)) ∈ GW := gw 322 (by decide +kernel) rfl
theorem q323 : (Jvm.Cond.methodLink "LongSums$History" (29 : Nat) ({ cls := "LongSums$Keeper", name := "become", desc := "(LLongSums$Keeper;)V" } : Jvm.MethodName)) ∈ GW := gw 323 (by decide +kernel) rfl
theorem q324 : (Jvm.Cond.instanceMethod ({ cls := "LongSums$Keeper", name := "become", desc := "(LLongSums$Keeper;)V" } : Jvm.MethodName)) ∈ GW := gw 324 (by decide +kernel) rfl
theorem q325 : (Jvm.Cond.selects "LongSums$Keeper" ({ cls := "LongSums$Keeper", name := "become", desc := "(LLongSums$Keeper;)V" } : Jvm.MethodName) ({ cls := "LongSums$Keeper", name := "become", desc := "(LLongSums$Keeper;)V" } : Jvm.MethodName)) ∈ GW := gw 325 (by decide +kernel) rfl
theorem q326 : (Jvm.Cond.code ({ cls := "LongSums$Keeper", name := "become", desc := "(LLongSums$Keeper;)V" } : Jvm.MethodName) prog_3_method_3_code (2 : Nat) (Option.none : Option Jvm.ClassFile.FieldType)) ∈ GW := gw 326 (by decide +kernel) rfl
theorem q327 : (Jvm.Cond.methodLink "LongSums$Keeper" (36 : Nat) ({ cls := "java/lang/System", name := "arraycopy", desc := "(Ljava/lang/Object;ILjava/lang/Object;II)V" } : Jvm.MethodName)) ∈ GW := gw 327 (by decide +kernel) rfl
theorem q328 : (Jvm.Cond.methodLink "LongSums$History" (33 : Nat) ({ cls := "java/lang/Math", name := "min", desc := "(II)I" } : Jvm.MethodName)) ∈ GW := gw 328 (by decide +kernel) rfl
theorem q329 : (Jvm.Cond.static ({ cls := "java/lang/Math", name := "min", desc := "(II)I" } : Jvm.MethodName)) ∈ GW := gw 329 (by decide +kernel) rfl
theorem q330 : (Jvm.Cond.code ({ cls := "java/lang/Math", name := "min", desc := "(II)I" } : Jvm.MethodName) prog_10_method_69_code (2 : Nat) (Option.some Jvm.ClassFile.FieldType.int)) ∈ GW := gw 330 (by decide +kernel) rfl
theorem q331 : (Jvm.Cond.methodLink "LongSums" (116 : Nat) ({ cls := "LongSums$Keeper", name := "renew", desc := "(I)V" } : Jvm.MethodName)) ∈ GW := gw 331 (by decide +kernel) rfl
theorem q332 : (Jvm.Cond.instanceMethod ({ cls := "LongSums$Keeper", name := "renew", desc := "(I)V" } : Jvm.MethodName)) ∈ GW := gw 332 (by decide +kernel) rfl
theorem q333 : (Jvm.Cond.selects "LongSums$Keeper" ({ cls := "LongSums$Keeper", name := "renew", desc := "(I)V" } : Jvm.MethodName) ({ cls := "LongSums$Keeper", name := "renew", desc := "(I)V" } : Jvm.MethodName)) ∈ GW := gw 333 (by decide +kernel) rfl
theorem q334 : (Jvm.Cond.code ({ cls := "LongSums$Keeper", name := "renew", desc := "(I)V" } : Jvm.MethodName) prog_3_method_2_code (2 : Nat) (Option.none : Option Jvm.ClassFile.FieldType)) ∈ GW := gw 334 (by decide +kernel) rfl
theorem q335 : (Jvm.Cond.methodLink "LongSums$Keeper" (27 : Nat) ({ cls := "java/util/Arrays", name := "fill", desc := "([II)V" } : Jvm.MethodName)) ∈ GW := gw 335 (by decide +kernel) rfl
theorem q336 : (Jvm.Cond.methodLink "LongSums$Keeper" (33 : Nat) ({ cls := "java/util/Arrays", name := "fill", desc := "([JJ)V" } : Jvm.MethodName)) ∈ GW := gw 336 (by decide +kernel) rfl
theorem q341 : (Jvm.Cond.methodLink "LongSums" (125 : Nat) ({ cls := "LongSums", name := "gatherInto", desc := "(ILLongSums$Row;LLongSums$Row;II)I" } : Jvm.MethodName)) ∈ GW := gw 341 (by decide +kernel) rfl
theorem q343 : (Jvm.Cond.instanceMethod ({ cls := "LongSums", name := "gatherInto", desc := "(ILLongSums$Row;LLongSums$Row;II)I" } : Jvm.MethodName)) ∈ GW := gw 343 (by decide +kernel) rfl
theorem q344 : (Jvm.Cond.code ({ cls := "LongSums", name := "gatherInto", desc := "(ILLongSums$Row;LLongSums$Row;II)I" } : Jvm.MethodName) prog_1_method_33_code (7 : Nat) (Option.some Jvm.ClassFile.FieldType.int)) ∈ GW := gw 344 (by decide +kernel) rfl
theorem q345 : (Jvm.Cond.methodLink "LongSums" (141 : Nat) ({ cls := "LongSums$Keeper", name := "gather", desc := "(LLongSums$Row;LLongSums$Row;IIZ)V" } : Jvm.MethodName)) ∈ GW := gw 345 (by decide +kernel) rfl
theorem q346 : (Jvm.Cond.instanceMethod ({ cls := "LongSums$Keeper", name := "gather", desc := "(LLongSums$Row;LLongSums$Row;IIZ)V" } : Jvm.MethodName)) ∈ GW := gw 346 (by decide +kernel) rfl
theorem q347 : (Jvm.Cond.selects "LongSums$Keeper" ({ cls := "LongSums$Keeper", name := "gather", desc := "(LLongSums$Row;LLongSums$Row;IIZ)V" } : Jvm.MethodName) ({ cls := "LongSums$Keeper", name := "gather", desc := "(LLongSums$Row;LLongSums$Row;IIZ)V" } : Jvm.MethodName)) ∈ GW := gw 347 (by decide +kernel) rfl
theorem q348 : (Jvm.Cond.code ({ cls := "LongSums$Keeper", name := "gather", desc := "(LLongSums$Row;LLongSums$Row;IIZ)V" } : Jvm.MethodName) prog_3_method_8_code (8 : Nat) (Option.none : Option Jvm.ClassFile.FieldType)) ∈ GW := gw 348 (by decide +kernel) rfl
theorem q349 : (Jvm.Cond.methodLink "LongSums$Keeper" (42 : Nat) ({ cls := "LongSums$Keeper", name := "sortOfProduct", desc := "(LLongSums$Row;LLongSums$Row;I)I" } : Jvm.MethodName)) ∈ GW := gw 349 (by decide +kernel) rfl
theorem q350 : (Jvm.Cond.static ({ cls := "LongSums$Keeper", name := "sortOfProduct", desc := "(LLongSums$Row;LLongSums$Row;I)I" } : Jvm.MethodName)) ∈ GW := gw 350 (by decide +kernel) rfl
theorem q351 : (Jvm.Cond.code ({ cls := "LongSums$Keeper", name := "sortOfProduct", desc := "(LLongSums$Row;LLongSums$Row;I)I" } : Jvm.MethodName) prog_3_method_10_code (7 : Nat) (Option.some Jvm.ClassFile.FieldType.int)) ∈ GW := gw 351 (by decide +kernel) rfl
theorem q352 : (Jvm.Cond.methodLink "LongSums$Keeper" (72 : Nat) ({ cls := "LongSums$Row", name := "sortAt", desc := "(I)I" } : Jvm.MethodName)) ∈ GW := gw 352 (by decide +kernel) rfl
theorem q353 : (Jvm.Cond.methodLink "LongSums$Keeper" (54 : Nat) ({ cls := "LongSums$Keeper", name := "gain", desc := "(JJIZ)V" } : Jvm.MethodName)) ∈ GW := gw 353 (by decide +kernel) rfl
theorem q355 : (Jvm.Cond.instanceMethod ({ cls := "LongSums$Keeper", name := "gain", desc := "(JJIZ)V" } : Jvm.MethodName)) ∈ GW := gw 355 (by decide +kernel) rfl
theorem q356 : (Jvm.Cond.code ({ cls := "LongSums$Keeper", name := "gain", desc := "(JJIZ)V" } : Jvm.MethodName) prog_3_method_12_code (13 : Nat) (Option.none : Option Jvm.ClassFile.FieldType)) ∈ GW := gw 356 (by decide +kernel) rfl
theorem q357 : (Jvm.Cond.methodLink "LongSums$Keeper" (76 : Nat) ({ cls := "java/lang/Math", name := "abs", desc := "(J)J" } : Jvm.MethodName)) ∈ GW := gw 357 (by decide +kernel) rfl
theorem q358 : (Jvm.Cond.constantLong "LongSums$Keeper" (80 : Nat) (4294967295 : Int64)) ∈ GW := gw 358 (by decide +kernel) rfl
theorem q359 : (Jvm.Cond.methodLink "LongSums$Keeper" (82 : Nat) ({ cls := "LongSums$Keeper", name := "gainPart", desc := "(JIZ)V" } : Jvm.MethodName)) ∈ GW := gw 359 (by decide +kernel) rfl
theorem q361 : (Jvm.Cond.instanceMethod ({ cls := "LongSums$Keeper", name := "gainPart", desc := "(JIZ)V" } : Jvm.MethodName)) ∈ GW := gw 361 (by decide +kernel) rfl
theorem q362 : (Jvm.Cond.code ({ cls := "LongSums$Keeper", name := "gainPart", desc := "(JIZ)V" } : Jvm.MethodName) prog_3_method_13_code (5 : Nat) (Option.none : Option Jvm.ClassFile.FieldType)) ∈ GW := gw 362 (by decide +kernel) rfl
theorem q363 : (Jvm.Cond.methodLink "LongSums$Keeper" (86 : Nat) ({ cls := "LongSums$Keeper", name := "gainHalf", desc := "(JIZ)V" } : Jvm.MethodName)) ∈ GW := gw 363 (by decide +kernel) rfl
theorem q365 : (Jvm.Cond.instanceMethod ({ cls := "LongSums$Keeper", name := "gainHalf", desc := "(JIZ)V" } : Jvm.MethodName)) ∈ GW := gw 365 (by decide +kernel) rfl
theorem q366 : (Jvm.Cond.code ({ cls := "LongSums$Keeper", name := "gainHalf", desc := "(JIZ)V" } : Jvm.MethodName) prog_3_method_14_code (12 : Nat) (Option.none : Option Jvm.ClassFile.FieldType)) ∈ GW := gw 366 (by decide +kernel) rfl
theorem q367 : (Jvm.Cond.methodLink "LongSums$Keeper" (58 : Nat) ({ cls := "LongSums$Keeper", name := "meet", desc := "(IZ)V" } : Jvm.MethodName)) ∈ GW := gw 367 (by decide +kernel) rfl
theorem q369 : (Jvm.Cond.instanceMethod ({ cls := "LongSums$Keeper", name := "meet", desc := "(IZ)V" } : Jvm.MethodName)) ∈ GW := gw 369 (by decide +kernel) rfl
theorem q370 : (Jvm.Cond.code ({ cls := "LongSums$Keeper", name := "meet", desc := "(IZ)V" } : Jvm.MethodName) prog_3_method_11_code (4 : Nat) (Option.none : Option Jvm.ClassFile.FieldType)) ∈ GW := gw 370 (by decide +kernel) rfl
theorem q371 : (Jvm.Cond.constant "LongSums$Keeper" (65 : Nat) (1000000000 : Int32)) ∈ GW := gw 371 (by decide +kernel) rfl
theorem q372 : (Jvm.Cond.methodLink "LongSums$Keeper" (66 : Nat) ({ cls := "java/lang/Math", name := "min", desc := "(II)I" } : Jvm.MethodName)) ∈ GW := gw 372 (by decide +kernel) rfl
theorem q373 : (Jvm.Cond.methodLink "LongSums$Keeper" (62 : Nat) ({ cls := "LongSums$Keeper", name := "carry", desc := "()V" } : Jvm.MethodName)) ∈ GW := gw 373 (by decide +kernel) rfl
theorem q375 : (Jvm.Cond.instanceMethod ({ cls := "LongSums$Keeper", name := "carry", desc := "()V" } : Jvm.MethodName)) ∈ GW := gw 375 (by decide +kernel) rfl
theorem q376 : (Jvm.Cond.code ({ cls := "LongSums$Keeper", name := "carry", desc := "()V" } : Jvm.MethodName) prog_3_method_15_code (6 : Nat) (Option.none : Option Jvm.ClassFile.FieldType)) ∈ GW := gw 376 (by decide +kernel) rfl
theorem q385 : (Jvm.Cond.methodLink "LongSums" (129 : Nat) ({ cls := "LongSums$Keeper", name := "gainAll", desc := "(LLongSums$Keeper;)V" } : Jvm.MethodName)) ∈ GW := gw 385 (by decide +kernel) rfl
theorem q386 : (Jvm.Cond.instanceMethod ({ cls := "LongSums$Keeper", name := "gainAll", desc := "(LLongSums$Keeper;)V" } : Jvm.MethodName)) ∈ GW := gw 386 (by decide +kernel) rfl
theorem q387 : (Jvm.Cond.selects "LongSums$Keeper" ({ cls := "LongSums$Keeper", name := "gainAll", desc := "(LLongSums$Keeper;)V" } : Jvm.MethodName) ({ cls := "LongSums$Keeper", name := "gainAll", desc := "(LLongSums$Keeper;)V" } : Jvm.MethodName)) ∈ GW := gw 387 (by decide +kernel) rfl
theorem q388 : (Jvm.Cond.code ({ cls := "LongSums$Keeper", name := "gainAll", desc := "(LLongSums$Keeper;)V" } : Jvm.MethodName) prog_3_method_9_code (3 : Nat) (Option.none : Option Jvm.ClassFile.FieldType)) ∈ GW := gw 388 (by decide +kernel) rfl
theorem q397 : (Jvm.Cond.methodLink "LongSums" (133 : Nat) ({ cls := "LongSums$Row", name := "summedPlainly", desc := "(II)D" } : Jvm.MethodName)) ∈ GW := gw 397 (by decide +kernel) rfl
theorem q398 : (Jvm.Cond.instanceMethod ({ cls := "LongSums$Row", name := "summedPlainly", desc := "(II)D" } : Jvm.MethodName)) ∈ GW := gw 398 (by decide +kernel) rfl
theorem q399 : (Jvm.Cond.selects "LongSums$Row" ({ cls := "LongSums$Row", name := "summedPlainly", desc := "(II)D" } : Jvm.MethodName) ({ cls := "LongSums$Row", name := "summedPlainly", desc := "(II)D" } : Jvm.MethodName)) ∈ GW := gw 399 (by decide +kernel) rfl
theorem q400 : (Jvm.Cond.code ({ cls := "LongSums$Row", name := "summedPlainly", desc := "(II)D" } : Jvm.MethodName) prog_4_method_11_code (8 : Nat) (Option.some Jvm.ClassFile.FieldType.double)) ∈ GW := gw 400 (by decide +kernel) rfl
theorem q401 : (Jvm.Cond.methodLink "LongSums$Row" (83 : Nat) ({ cls := "LongSums$Row", name := "asDouble", desc := "(I)D" } : Jvm.MethodName)) ∈ GW := gw 401 (by decide +kernel) rfl
theorem q402 : (Jvm.Cond.methodLink "LongSums$Row" (86 : Nat) ({ cls := "LongSums$Row", name := "areOpposedEndless", desc := "(DD)Z" } : Jvm.MethodName)) ∈ GW := gw 402 (by decide +kernel) rfl
theorem q403 : (Jvm.Cond.static ({ cls := "LongSums$Row", name := "areOpposedEndless", desc := "(DD)Z" } : Jvm.MethodName)) ∈ GW := gw 403 (by decide +kernel) rfl
theorem q404 : (Jvm.Cond.code ({ cls := "LongSums$Row", name := "areOpposedEndless", desc := "(DD)Z" } : Jvm.MethodName) prog_4_method_12_code (6 : Nat) (Option.some Jvm.ClassFile.FieldType.boolean)) ∈ GW := gw 404 (by decide +kernel) rfl
theorem q406 : (Jvm.Cond.static ({ cls := "LongSums", name := "greatest", desc := "(Z)D" } : Jvm.MethodName)) ∈ GW := gw 406 (by decide +kernel) rfl
theorem q407 : (Jvm.Cond.code ({ cls := "LongSums", name := "greatest", desc := "(Z)D" } : Jvm.MethodName) prog_1_method_39_code (1 : Nat) (Option.some Jvm.ClassFile.FieldType.double)) ∈ GW := gw 407 (by decide +kernel) rfl
theorem q408 : (Jvm.Cond.constantDouble "LongSums" (222 : Nat) (5183643170566569984 : UInt64)) ∈ GW := gw 408 (by decide +kernel) rfl
theorem q409 : (Jvm.Cond.constantDouble "LongSums" (224 : Nat) (9218868437227405311 : UInt64)) ∈ GW := gw 409 (by decide +kernel) rfl
theorem q410 : (Jvm.Cond.methodLink "LongSums" (137 : Nat) ({ cls := "LongSums$Row", name := "writeDouble", desc := "(ID)V" } : Jvm.MethodName)) ∈ GW := gw 410 (by decide +kernel) rfl
theorem q411 : (Jvm.Cond.instanceMethod ({ cls := "LongSums$Row", name := "writeDouble", desc := "(ID)V" } : Jvm.MethodName)) ∈ GW := gw 411 (by decide +kernel) rfl
theorem q412 : (Jvm.Cond.selects "LongSums$Row" ({ cls := "LongSums$Row", name := "writeDouble", desc := "(ID)V" } : Jvm.MethodName) ({ cls := "LongSums$Row", name := "writeDouble", desc := "(ID)V" } : Jvm.MethodName)) ∈ GW := gw 412 (by decide +kernel) rfl
theorem q413 : (Jvm.Cond.code ({ cls := "LongSums$Row", name := "writeDouble", desc := "(ID)V" } : Jvm.MethodName) prog_4_method_10_code (9 : Nat) (Option.none : Option Jvm.ClassFile.FieldType)) ∈ GW := gw 413 (by decide +kernel) rfl
theorem q414 : (Jvm.Cond.methodLink "LongSums$Row" (73 : Nat) ({ cls := "LongSums$Row", name := "topPower", desc := "(D)I" } : Jvm.MethodName)) ∈ GW := gw 414 (by decide +kernel) rfl
theorem q415 : (Jvm.Cond.static ({ cls := "LongSums$Row", name := "topPower", desc := "(D)I" } : Jvm.MethodName)) ∈ GW := gw 415 (by decide +kernel) rfl
theorem q416 : (Jvm.Cond.code ({ cls := "LongSums$Row", name := "topPower", desc := "(D)I" } : Jvm.MethodName) prog_4_method_13_code (5 : Nat) (Option.some Jvm.ClassFile.FieldType.int)) ∈ GW := gw 416 (by decide +kernel) rfl
theorem q425 : (Jvm.Cond.methodLink "LongSums" (145 : Nat) ({ cls := "LongSums", name := "findingOf", desc := "(I)I" } : Jvm.MethodName)) ∈ GW := gw 425 (by decide +kernel) rfl
theorem q427 : (Jvm.Cond.instanceMethod ({ cls := "LongSums", name := "findingOf", desc := "(I)I" } : Jvm.MethodName)) ∈ GW := gw 427 (by decide +kernel) rfl
theorem q428 : (Jvm.Cond.code ({ cls := "LongSums", name := "findingOf", desc := "(I)I" } : Jvm.MethodName) prog_1_method_31_code (2 : Nat) (Option.some Jvm.ClassFile.FieldType.int)) ∈ GW := gw 428 (by decide +kernel) rfl
theorem q429 : (Jvm.Cond.methodLink "LongSums" (148 : Nat) ({ cls := "LongSums$Keeper", name := "state", desc := "()I" } : Jvm.MethodName)) ∈ GW := gw 429 (by decide +kernel) rfl
theorem q430 : (Jvm.Cond.instanceMethod ({ cls := "LongSums$Keeper", name := "state", desc := "()I" } : Jvm.MethodName)) ∈ GW := gw 430 (by decide +kernel) rfl
theorem q431 : (Jvm.Cond.selects "LongSums$Keeper" ({ cls := "LongSums$Keeper", name := "state", desc := "()I" } : Jvm.MethodName) ({ cls := "LongSums$Keeper", name := "state", desc := "()I" } : Jvm.MethodName)) ∈ GW := gw 431 (by decide +kernel) rfl
theorem q432 : (Jvm.Cond.code ({ cls := "LongSums$Keeper", name := "state", desc := "()I" } : Jvm.MethodName) prog_3_method_4_code (1 : Nat) (Option.some Jvm.ClassFile.FieldType.int)) ∈ GW := gw 432 (by decide +kernel) rfl
theorem q441 : (Jvm.Cond.methodLink "LongSums" (156 : Nat) ({ cls := "LongSums", name := "isWay", desc := "(I)Z" } : Jvm.MethodName)) ∈ GW := gw 441 (by decide +kernel) rfl
theorem q442 : (Jvm.Cond.static ({ cls := "LongSums", name := "isWay", desc := "(I)Z" } : Jvm.MethodName)) ∈ GW := gw 442 (by decide +kernel) rfl
theorem q443 : (Jvm.Cond.code ({ cls := "LongSums", name := "isWay", desc := "(I)Z" } : Jvm.MethodName) prog_1_method_30_code (1 : Nat) (Option.some Jvm.ClassFile.FieldType.boolean)) ∈ GW := gw 443 (by decide +kernel) rfl
theorem q444 : (Jvm.Cond.methodLink "LongSums" (159 : Nat) ({ cls := "LongSums", name := "sharedOut", desc := "(LLongSums$Keeper;IIZ)D" } : Jvm.MethodName)) ∈ GW := gw 444 (by decide +kernel) rfl
theorem q446 : (Jvm.Cond.instanceMethod ({ cls := "LongSums", name := "sharedOut", desc := "(LLongSums$Keeper;IIZ)D" } : Jvm.MethodName)) ∈ GW := gw 446 (by decide +kernel) rfl
theorem q447 : (Jvm.Cond.code ({ cls := "LongSums", name := "sharedOut", desc := "(LLongSums$Keeper;IIZ)D" } : Jvm.MethodName) prog_1_method_34_code (6 : Nat) (Option.some Jvm.ClassFile.FieldType.double)) ∈ GW := gw 447 (by decide +kernel) rfl
theorem q448 : (Jvm.Cond.methodLink "LongSums" (164 : Nat) ({ cls := "LongSums", name := "endless", desc := "()D" } : Jvm.MethodName)) ∈ GW := gw 448 (by decide +kernel) rfl
theorem q449 : (Jvm.Cond.methodLink "LongSums" (171 : Nat) ({ cls := "LongSums$Size", name := "load", desc := "(LLongSums$Keeper;)V" } : Jvm.MethodName)) ∈ GW := gw 449 (by decide +kernel) rfl
theorem q450 : (Jvm.Cond.instanceMethod ({ cls := "LongSums$Size", name := "load", desc := "(LLongSums$Keeper;)V" } : Jvm.MethodName)) ∈ GW := gw 450 (by decide +kernel) rfl
theorem q451 : (Jvm.Cond.selects "LongSums$Size" ({ cls := "LongSums$Size", name := "load", desc := "(LLongSums$Keeper;)V" } : Jvm.MethodName) ({ cls := "LongSums$Size", name := "load", desc := "(LLongSums$Keeper;)V" } : Jvm.MethodName)) ∈ GW := gw 451 (by decide +kernel) rfl
theorem q452 : (Jvm.Cond.code ({ cls := "LongSums$Size", name := "load", desc := "(LLongSums$Keeper;)V" } : Jvm.MethodName) prog_5_method_2_code (8 : Nat) (Option.none : Option Jvm.ClassFile.FieldType)) ∈ GW := gw 452 (by decide +kernel) rfl
theorem q453 : (Jvm.Cond.methodLink "LongSums$Size" (15 : Nat) ({ cls := "LongSums$Keeper", name := "isBelow", desc := "()Z" } : Jvm.MethodName)) ∈ GW := gw 453 (by decide +kernel) rfl
theorem q454 : (Jvm.Cond.instanceMethod ({ cls := "LongSums$Keeper", name := "isBelow", desc := "()Z" } : Jvm.MethodName)) ∈ GW := gw 454 (by decide +kernel) rfl
theorem q455 : (Jvm.Cond.selects "LongSums$Keeper" ({ cls := "LongSums$Keeper", name := "isBelow", desc := "()Z" } : Jvm.MethodName) ({ cls := "LongSums$Keeper", name := "isBelow", desc := "()Z" } : Jvm.MethodName)) ∈ GW := gw 455 (by decide +kernel) rfl
theorem q456 : (Jvm.Cond.code ({ cls := "LongSums$Keeper", name := "isBelow", desc := "()Z" } : Jvm.MethodName) prog_3_method_5_code (1 : Nat) (Option.some Jvm.ClassFile.FieldType.boolean)) ∈ GW := gw 456 (by decide +kernel) rfl
theorem q457 : (Jvm.Cond.constantLong "LongSums$Size" (22 : Nat) (4294967295 : Int64)) ∈ GW := gw 457 (by decide +kernel) rfl
theorem q458 : (Jvm.Cond.methodLink "LongSums" (213 : Nat) ({ cls := "LongSums$Size", name := "divideBy", desc := "(I)Z" } : Jvm.MethodName)) ∈ GW := gw 458 (by decide +kernel) rfl
theorem q459 : (Jvm.Cond.instanceMethod ({ cls := "LongSums$Size", name := "divideBy", desc := "(I)Z" } : Jvm.MethodName)) ∈ GW := gw 459 (by decide +kernel) rfl
theorem q460 : (Jvm.Cond.selects "LongSums$Size" ({ cls := "LongSums$Size", name := "divideBy", desc := "(I)Z" } : Jvm.MethodName) ({ cls := "LongSums$Size", name := "divideBy", desc := "(I)Z" } : Jvm.MethodName)) ∈ GW := gw 460 (by decide +kernel) rfl
theorem q461 : (Jvm.Cond.code ({ cls := "LongSums$Size", name := "divideBy", desc := "(I)Z" } : Jvm.MethodName) prog_5_method_3_code (7 : Nat) (Option.some Jvm.ClassFile.FieldType.boolean)) ∈ GW := gw 461 (by decide +kernel) rfl
theorem q462 : (Jvm.Cond.methodLink "LongSums" (168 : Nat) ({ cls := "LongSums$Keeper", name := "isBelow", desc := "()Z" } : Jvm.MethodName)) ∈ GW := gw 462 (by decide +kernel) rfl
theorem q463 : (Jvm.Cond.methodLink "LongSums" (216 : Nat) ({ cls := "LongSums$Size", name := "rounded", desc := "(ZZIZ)D" } : Jvm.MethodName)) ∈ GW := gw 463 (by decide +kernel) rfl
theorem q464 : (Jvm.Cond.instanceMethod ({ cls := "LongSums$Size", name := "rounded", desc := "(ZZIZ)D" } : Jvm.MethodName)) ∈ GW := gw 464 (by decide +kernel) rfl
theorem q465 : (Jvm.Cond.selects "LongSums$Size" ({ cls := "LongSums$Size", name := "rounded", desc := "(ZZIZ)D" } : Jvm.MethodName) ({ cls := "LongSums$Size", name := "rounded", desc := "(ZZIZ)D" } : Jvm.MethodName)) ∈ GW := gw 465 (by decide +kernel) rfl
theorem q466 : (Jvm.Cond.code ({ cls := "LongSums$Size", name := "rounded", desc := "(ZZIZ)D" } : Jvm.MethodName) prog_5_method_6_code (12 : Nat) (Option.some Jvm.ClassFile.FieldType.double)) ∈ GW := gw 466 (by decide +kernel) rfl
theorem q467 : (Jvm.Cond.methodLink "LongSums$Size" (32 : Nat) ({ cls := "LongSums$Size", name := "topBit", desc := "()I" } : Jvm.MethodName)) ∈ GW := gw 467 (by decide +kernel) rfl
theorem q468 : (Jvm.Cond.instanceMethod ({ cls := "LongSums$Size", name := "topBit", desc := "()I" } : Jvm.MethodName)) ∈ GW := gw 468 (by decide +kernel) rfl
theorem q469 : (Jvm.Cond.selects "LongSums$Size" ({ cls := "LongSums$Size", name := "topBit", desc := "()I" } : Jvm.MethodName) ({ cls := "LongSums$Size", name := "topBit", desc := "()I" } : Jvm.MethodName)) ∈ GW := gw 469 (by decide +kernel) rfl
theorem q470 : (Jvm.Cond.code ({ cls := "LongSums$Size", name := "topBit", desc := "()I" } : Jvm.MethodName) prog_5_method_4_code (2 : Nat) (Option.some Jvm.ClassFile.FieldType.int)) ∈ GW := gw 470 (by decide +kernel) rfl
theorem q472 : (Jvm.Cond.methodLink "LongSums$Size" (36 : Nat) ({ cls := "java/lang/Math", name := "max", desc := "(II)I" } : Jvm.MethodName)) ∈ GW := gw 472 (by decide +kernel) rfl
theorem q473 : (Jvm.Cond.methodLink "LongSums$Size" (42 : Nat) ({ cls := "LongSums$Size", name := "wholeFrom", desc := "(I)J" } : Jvm.MethodName)) ∈ GW := gw 473 (by decide +kernel) rfl
theorem q475 : (Jvm.Cond.instanceMethod ({ cls := "LongSums$Size", name := "wholeFrom", desc := "(I)J" } : Jvm.MethodName)) ∈ GW := gw 475 (by decide +kernel) rfl
theorem q476 : (Jvm.Cond.code ({ cls := "LongSums$Size", name := "wholeFrom", desc := "(I)J" } : Jvm.MethodName) prog_5_method_9_code (6 : Nat) (Option.some Jvm.ClassFile.FieldType.long)) ∈ GW := gw 476 (by decide +kernel) rfl
theorem q477 : (Jvm.Cond.methodLink "LongSums$Size" (28 : Nat) ({ cls := "LongSums$Size", name := "limbAt", desc := "(I)J" } : Jvm.MethodName)) ∈ GW := gw 477 (by decide +kernel) rfl
theorem q479 : (Jvm.Cond.instanceMethod ({ cls := "LongSums$Size", name := "limbAt", desc := "(I)J" } : Jvm.MethodName)) ∈ GW := gw 479 (by decide +kernel) rfl
theorem q480 : (Jvm.Cond.code ({ cls := "LongSums$Size", name := "limbAt", desc := "(I)J" } : Jvm.MethodName) prog_5_method_8_code (2 : Nat) (Option.some Jvm.ClassFile.FieldType.long)) ∈ GW := gw 480 (by decide +kernel) rfl
theorem q481 : (Jvm.Cond.methodLink "LongSums$Size" (45 : Nat) ({ cls := "LongSums$Size", name := "bitAt", desc := "(I)I" } : Jvm.MethodName)) ∈ GW := gw 481 (by decide +kernel) rfl
theorem q482 : (Jvm.Cond.instanceMethod ({ cls := "LongSums$Size", name := "bitAt", desc := "(I)I" } : Jvm.MethodName)) ∈ GW := gw 482 (by decide +kernel) rfl
theorem q483 : (Jvm.Cond.selects "LongSums$Size" ({ cls := "LongSums$Size", name := "bitAt", desc := "(I)I" } : Jvm.MethodName) ({ cls := "LongSums$Size", name := "bitAt", desc := "(I)I" } : Jvm.MethodName)) ∈ GW := gw 483 (by decide +kernel) rfl
theorem q484 : (Jvm.Cond.code ({ cls := "LongSums$Size", name := "bitAt", desc := "(I)I" } : Jvm.MethodName) prog_5_method_5_code (2 : Nat) (Option.some Jvm.ClassFile.FieldType.int)) ∈ GW := gw 484 (by decide +kernel) rfl
theorem q485 : (Jvm.Cond.methodLink "LongSums$Size" (49 : Nat) ({ cls := "LongSums$Size", name := "hasBitBelow", desc := "(I)Z" } : Jvm.MethodName)) ∈ GW := gw 485 (by decide +kernel) rfl
theorem q487 : (Jvm.Cond.instanceMethod ({ cls := "LongSums$Size", name := "hasBitBelow", desc := "(I)Z" } : Jvm.MethodName)) ∈ GW := gw 487 (by decide +kernel) rfl
theorem q488 : (Jvm.Cond.code ({ cls := "LongSums$Size", name := "hasBitBelow", desc := "(I)Z" } : Jvm.MethodName) prog_5_method_10_code (4 : Nat) (Option.some Jvm.ClassFile.FieldType.boolean)) ∈ GW := gw 488 (by decide +kernel) rfl
theorem q491 : (Jvm.Cond.static ({ cls := "LongSums", name := "finished", desc := "(JIZIZ)D" } : Jvm.MethodName)) ∈ GW := gw 491 (by decide +kernel) rfl
theorem q492 : (Jvm.Cond.code ({ cls := "LongSums", name := "finished", desc := "(JIZIZ)D" } : Jvm.MethodName) prog_1_method_43_code (10 : Nat) (Option.some Jvm.ClassFile.FieldType.double)) ∈ GW := gw 492 (by decide +kernel) rfl
theorem q493 : (Jvm.Cond.methodLink "LongSums" (236 : Nat) ({ cls := "LongSums", name := "bitsIn", desc := "(J)I" } : Jvm.MethodName)) ∈ GW := gw 493 (by decide +kernel) rfl
theorem q494 : (Jvm.Cond.methodLink "LongSums" (239 : Nat) ({ cls := "LongSums", name := "greatest", desc := "(Z)D" } : Jvm.MethodName)) ∈ GW := gw 494 (by decide +kernel) rfl
theorem q495 : (Jvm.Cond.methodLink "LongSums" (243 : Nat) ({ cls := "LongSums", name := "power", desc := "(I)D" } : Jvm.MethodName)) ∈ GW := gw 495 (by decide +kernel) rfl
theorem q500 : (Jvm.Cond.constant "LongSums" (163 : Nat) (1000000 : Int32)) ∈ GW := gw 500 (by decide +kernel) rfl
theorem q505 : (Jvm.Cond.methodLink "LongSums" (174 : Nat) ({ cls := "LongSums$Size", name := "rootRounded", desc := "(I)D" } : Jvm.MethodName)) ∈ GW := gw 505 (by decide +kernel) rfl
theorem q506 : (Jvm.Cond.instanceMethod ({ cls := "LongSums$Size", name := "rootRounded", desc := "(I)D" } : Jvm.MethodName)) ∈ GW := gw 506 (by decide +kernel) rfl
theorem q507 : (Jvm.Cond.selects "LongSums$Size" ({ cls := "LongSums$Size", name := "rootRounded", desc := "(I)D" } : Jvm.MethodName) ({ cls := "LongSums$Size", name := "rootRounded", desc := "(I)D" } : Jvm.MethodName)) ∈ GW := gw 507 (by decide +kernel) rfl
theorem q508 : (Jvm.Cond.code ({ cls := "LongSums$Size", name := "rootRounded", desc := "(I)D" } : Jvm.MethodName) prog_5_method_7_code (11 : Nat) (Option.some Jvm.ClassFile.FieldType.double)) ∈ GW := gw 508 (by decide +kernel) rfl
theorem q513 : (Jvm.Cond.methodLink "LongSums" (177 : Nat) ({ cls := "LongSums$Keeper", name := "isNought", desc := "()Z" } : Jvm.MethodName)) ∈ GW := gw 513 (by decide +kernel) rfl
theorem q514 : (Jvm.Cond.instanceMethod ({ cls := "LongSums$Keeper", name := "isNought", desc := "()Z" } : Jvm.MethodName)) ∈ GW := gw 514 (by decide +kernel) rfl
theorem q515 : (Jvm.Cond.selects "LongSums$Keeper" ({ cls := "LongSums$Keeper", name := "isNought", desc := "()Z" } : Jvm.MethodName) ({ cls := "LongSums$Keeper", name := "isNought", desc := "()Z" } : Jvm.MethodName)) ∈ GW := gw 515 (by decide +kernel) rfl
theorem q516 : (Jvm.Cond.code ({ cls := "LongSums$Keeper", name := "isNought", desc := "()Z" } : Jvm.MethodName) prog_3_method_6_code (6 : Nat) (Option.some Jvm.ClassFile.FieldType.boolean)) ∈ GW := gw 516 (by decide +kernel) rfl
theorem q521 : (Jvm.Cond.methodLink "LongSums" (180 : Nat) ({ cls := "LongSums$Size", name := "topBit", desc := "()I" } : Jvm.MethodName)) ∈ GW := gw 521 (by decide +kernel) rfl
theorem q526 : (Jvm.Cond.methodLink "LongSums" (183 : Nat) ({ cls := "LongSums$Size", name := "bitAt", desc := "(I)I" } : Jvm.MethodName)) ∈ GW := gw 526 (by decide +kernel) rfl
theorem q531 : (Jvm.Cond.methodLink "LongSums" (186 : Nat) ({ cls := "LongSums$Keeper", name := "comparedWith", desc := "(LLongSums$Keeper;)I" } : Jvm.MethodName)) ∈ GW := gw 531 (by decide +kernel) rfl
theorem q532 : (Jvm.Cond.instanceMethod ({ cls := "LongSums$Keeper", name := "comparedWith", desc := "(LLongSums$Keeper;)I" } : Jvm.MethodName)) ∈ GW := gw 532 (by decide +kernel) rfl
theorem q533 : (Jvm.Cond.selects "LongSums$Keeper" ({ cls := "LongSums$Keeper", name := "comparedWith", desc := "(LLongSums$Keeper;)I" } : Jvm.MethodName) ({ cls := "LongSums$Keeper", name := "comparedWith", desc := "(LLongSums$Keeper;)I" } : Jvm.MethodName)) ∈ GW := gw 533 (by decide +kernel) rfl
theorem q534 : (Jvm.Cond.code ({ cls := "LongSums$Keeper", name := "comparedWith", desc := "(LLongSums$Keeper;)I" } : Jvm.MethodName) prog_3_method_7_code (3 : Nat) (Option.some Jvm.ClassFile.FieldType.int)) ∈ GW := gw 534 (by decide +kernel) rfl
theorem q539 : (Jvm.Cond.methodLink "LongSums" (193 : Nat) ({ cls := "LongSums$History", name := "latestKeeper", desc := "()I" } : Jvm.MethodName)) ∈ GW := gw 539 (by decide +kernel) rfl
theorem q540 : (Jvm.Cond.instanceMethod ({ cls := "LongSums$History", name := "latestKeeper", desc := "()I" } : Jvm.MethodName)) ∈ GW := gw 540 (by decide +kernel) rfl
theorem q541 : (Jvm.Cond.selects "LongSums$History" ({ cls := "LongSums$History", name := "latestKeeper", desc := "()I" } : Jvm.MethodName) ({ cls := "LongSums$History", name := "latestKeeper", desc := "()I" } : Jvm.MethodName)) ∈ GW := gw 541 (by decide +kernel) rfl
theorem q542 : (Jvm.Cond.code ({ cls := "LongSums$History", name := "latestKeeper", desc := "()I" } : Jvm.MethodName) prog_2_method_3_code (1 : Nat) (Option.some Jvm.ClassFile.FieldType.int)) ∈ GW := gw 542 (by decide +kernel) rfl
theorem q543 : (Jvm.Cond.methodLink "LongSums" (196 : Nat) ({ cls := "LongSums$History", name := "takeBack", desc := "(LLongSums$Keeper;)V" } : Jvm.MethodName)) ∈ GW := gw 543 (by decide +kernel) rfl
theorem q544 : (Jvm.Cond.instanceMethod ({ cls := "LongSums$History", name := "takeBack", desc := "(LLongSums$Keeper;)V" } : Jvm.MethodName)) ∈ GW := gw 544 (by decide +kernel) rfl
theorem q545 : (Jvm.Cond.selects "LongSums$History" ({ cls := "LongSums$History", name := "takeBack", desc := "(LLongSums$Keeper;)V" } : Jvm.MethodName) ({ cls := "LongSums$History", name := "takeBack", desc := "(LLongSums$Keeper;)V" } : Jvm.MethodName)) ∈ GW := gw 545 (by decide +kernel) rfl
theorem q546 : (Jvm.Cond.code ({ cls := "LongSums$History", name := "takeBack", desc := "(LLongSums$Keeper;)V" } : Jvm.MethodName) prog_2_method_4_code (2 : Nat) (Option.none : Option Jvm.ClassFile.FieldType)) ∈ GW := gw 546 (by decide +kernel) rfl
theorem q551 : (Jvm.Cond.methodLink "LongSums" (199 : Nat) ({ cls := "LongSums", name := "rowsThere", desc := "()I" } : Jvm.MethodName)) ∈ GW := gw 551 (by decide +kernel) rfl
theorem q553 : (Jvm.Cond.instanceMethod ({ cls := "LongSums", name := "rowsThere", desc := "()I" } : Jvm.MethodName)) ∈ GW := gw 553 (by decide +kernel) rfl
theorem q554 : (Jvm.Cond.code ({ cls := "LongSums", name := "rowsThere", desc := "()I" } : Jvm.MethodName) prog_1_method_35_code (6 : Nat) (Option.some Jvm.ClassFile.FieldType.int)) ∈ GW := gw 554 (by decide +kernel) rfl
theorem q555 : (Jvm.Cond.methodLink "LongSums" (202 : Nat) ({ cls := "LongSums", name := "keepersThere", desc := "(Z)I" } : Jvm.MethodName)) ∈ GW := gw 555 (by decide +kernel) rfl
theorem q557 : (Jvm.Cond.instanceMethod ({ cls := "LongSums", name := "keepersThere", desc := "(Z)I" } : Jvm.MethodName)) ∈ GW := gw 557 (by decide +kernel) rfl
theorem q558 : (Jvm.Cond.code ({ cls := "LongSums", name := "keepersThere", desc := "(Z)I" } : Jvm.MethodName) prog_1_method_37_code (7 : Nat) (Option.some Jvm.ClassFile.FieldType.int)) ∈ GW := gw 558 (by decide +kernel) rfl
theorem q559 : (Jvm.Cond.methodLink "LongSums" (206 : Nat) ({ cls := "LongSums", name := "placesThere", desc := "()I" } : Jvm.MethodName)) ∈ GW := gw 559 (by decide +kernel) rfl
theorem q561 : (Jvm.Cond.instanceMethod ({ cls := "LongSums", name := "placesThere", desc := "()I" } : Jvm.MethodName)) ∈ GW := gw 561 (by decide +kernel) rfl
theorem q562 : (Jvm.Cond.code ({ cls := "LongSums", name := "placesThere", desc := "()I" } : Jvm.MethodName) prog_1_method_36_code (6 : Nat) (Option.some Jvm.ClassFile.FieldType.int)) ∈ GW := gw 562 (by decide +kernel) rfl
theorem q569 : (Jvm.Cond.fieldLink "LongSumsModel" (54 : Nat) "LongSumsModel" "thrown" "I") ∈ GW := gw 569 (by decide +kernel) rfl
theorem q570 : (Jvm.Cond.fieldLink "LongSumsModel" (7 : Nat) "LongSumsModel" "rowKind" "[I") ∈ GW := gw 570 (by decide +kernel) rfl
theorem q571 : (Jvm.Cond.fieldLink "LongSumsModel" (13 : Nat) "LongSumsModel" "rowLong" "[I") ∈ GW := gw 571 (by decide +kernel) rfl
theorem q572 : (Jvm.Cond.fieldLink "LongSumsModel" (16 : Nat) "LongSumsModel" "whole" "[J") ∈ GW := gw 572 (by decide +kernel) rfl
theorem q573 : (Jvm.Cond.fieldLink "LongSumsModel" (20 : Nat) "LongSumsModel" "real" "[D") ∈ GW := gw 573 (by decide +kernel) rfl
theorem q574 : (Jvm.Cond.fieldLink "LongSumsModel" (24 : Nat) "LongSumsModel" "sorts" "[I") ∈ GW := gw 574 (by decide +kernel) rfl
theorem q575 : (Jvm.Cond.fieldLink "LongSumsModel" (27 : Nat) "LongSumsModel" "kinds" "[I") ∈ GW := gw 575 (by decide +kernel) rfl
theorem q576 : (Jvm.Cond.fieldLink "LongSumsModel" (30 : Nat) "LongSumsModel" "sums" "[I") ∈ GW := gw 576 (by decide +kernel) rfl
theorem q577 : (Jvm.Cond.fieldLink "LongSumsModel" (33 : Nat) "LongSumsModel" "seen" "[I") ∈ GW := gw 577 (by decide +kernel) rfl
theorem q578 : (Jvm.Cond.fieldLink "LongSumsModel" (222 : Nat) "LongSumsModel" "added" "I") ∈ GW := gw 578 (by decide +kernel) rfl
theorem q579 : (Jvm.Cond.fieldLink "LongSumsModel" (36 : Nat) "LongSumsModel" "oldKeeper" "[I") ∈ GW := gw 579 (by decide +kernel) rfl
theorem q580 : (Jvm.Cond.fieldLink "LongSumsModel" (39 : Nat) "LongSumsModel" "oldKind" "[I") ∈ GW := gw 580 (by decide +kernel) rfl
theorem q581 : (Jvm.Cond.fieldLink "LongSumsModel" (42 : Nat) "LongSumsModel" "oldSums" "[I") ∈ GW := gw 581 (by decide +kernel) rfl
theorem q582 : (Jvm.Cond.fieldLink "LongSumsModel" (45 : Nat) "LongSumsModel" "oldSeen" "[I") ∈ GW := gw 582 (by decide +kernel) rfl
theorem q583 : (Jvm.Cond.fieldLink "LongSumsModel" (130 : Nat) "LongSumsModel" "keptEnd" "I") ∈ GW := gw 583 (by decide +kernel) rfl
theorem q584 : (Jvm.Cond.fieldLink "LongSumsModel" (133 : Nat) "LongSumsModel" "kept" "I") ∈ GW := gw 584 (by decide +kernel) rfl
theorem q585 : (Jvm.Cond.fieldLink "LongSumsModel" (165 : Nat) "LongSumsModel" "size" "J") ∈ GW := gw 585 (by decide +kernel) rfl
theorem q586 : (Jvm.Cond.fieldLink "LongSumsModel" (158 : Nat) "LongSumsModel" "power" "I") ∈ GW := gw 586 (by decide +kernel) rfl
theorem q587 : (Jvm.Cond.fieldLink "LongSumsModel" (161 : Nat) "LongSumsModel" "minus" "Z") ∈ GW := gw 587 (by decide +kernel) rfl
theorem q588 : (Jvm.Cond.fieldLink "LongSumsModel" (48 : Nat) "LongSumsModel" "hand" "[I") ∈ GW := gw 588 (by decide +kernel) rfl
theorem q589 : (Jvm.Cond.fieldLink "LongSumsModel" (231 : Nat) "LongSumsModel" "handMinus" "Z") ∈ GW := gw 589 (by decide +kernel) rfl
theorem q590 : (Jvm.Cond.fieldLink "LongSumsModel" (234 : Nat) "LongSumsModel" "handRest" "Z") ∈ GW := gw 590 (by decide +kernel) rfl
theorem q591 : (Jvm.Cond.fieldLink "LongSumsModel" (51 : Nat) "LongSumsModel" "square" "[I") ∈ GW := gw 591 (by decide +kernel) rfl
theorem q644 : (Jvm.Cond.methodLink "LongSumsModel" (64 : Nat) ({ cls := "LongSumsModel", name := "isRow", desc := "(I)Z" } : Jvm.MethodName)) ∈ GW := gw 644 (by decide +kernel) rfl
theorem q645 : (Jvm.Cond.static ({ cls := "LongSumsModel", name := "isRow", desc := "(I)Z" } : Jvm.MethodName)) ∈ GW := gw 645 (by decide +kernel) rfl
theorem q646 : (Jvm.Cond.code ({ cls := "LongSumsModel", name := "isRow", desc := "(I)Z" } : Jvm.MethodName) prog_7_method_4_code (1 : Nat) (Option.some Jvm.ClassFile.FieldType.boolean)) ∈ GW := gw 646 (by decide +kernel) rfl
theorem q647 : (Jvm.Cond.constantLong "LongSumsModel" (58 : Nat) (11 : Int64)) ∈ GW := gw 647 (by decide +kernel) rfl
theorem q648 : (Jvm.Cond.methodLink "LongSumsModel" (60 : Nat) ({ cls := "LongSumsModel", name := "in", desc := "(JJJ)Z" } : Jvm.MethodName)) ∈ GW := gw 648 (by decide +kernel) rfl
theorem q649 : (Jvm.Cond.static ({ cls := "LongSumsModel", name := "in", desc := "(JJJ)Z" } : Jvm.MethodName)) ∈ GW := gw 649 (by decide +kernel) rfl
theorem q650 : (Jvm.Cond.code ({ cls := "LongSumsModel", name := "in", desc := "(JJJ)Z" } : Jvm.MethodName) prog_7_method_3_code (6 : Nat) (Option.some Jvm.ClassFile.FieldType.boolean)) ∈ GW := gw 650 (by decide +kernel) rfl
theorem q651 : (Jvm.Cond.constantLong "LongSumsModel" (68 : Nat) (5 : Int64)) ∈ GW := gw 651 (by decide +kernel) rfl
theorem q656 : (Jvm.Cond.methodLink "LongSumsModel" (70 : Nat) ({ cls := "LongSumsModel", name := "isThere", desc := "(I)Z" } : Jvm.MethodName)) ∈ GW := gw 656 (by decide +kernel) rfl
theorem q658 : (Jvm.Cond.instanceMethod ({ cls := "LongSumsModel", name := "isThere", desc := "(I)Z" } : Jvm.MethodName)) ∈ GW := gw 658 (by decide +kernel) rfl
theorem q659 : (Jvm.Cond.code ({ cls := "LongSumsModel", name := "isThere", desc := "(I)Z" } : Jvm.MethodName) prog_7_method_5_code (2 : Nat) (Option.some Jvm.ClassFile.FieldType.boolean)) ∈ GW := gw 659 (by decide +kernel) rfl
theorem q664 : (Jvm.Cond.constantLong "LongSumsModel" (77 : Nat) (-9007199254740991 : Int64)) ∈ GW := gw 664 (by decide +kernel) rfl
theorem q665 : (Jvm.Cond.constantLong "LongSumsModel" (79 : Nat) (9007199254740991 : Int64)) ∈ GW := gw 665 (by decide +kernel) rfl
theorem q666 : (Jvm.Cond.constantLong "LongSumsModel" (81 : Nat) (-1074 : Int64)) ∈ GW := gw 666 (by decide +kernel) rfl
theorem q667 : (Jvm.Cond.constantLong "LongSumsModel" (83 : Nat) (971 : Int64)) ∈ GW := gw 667 (by decide +kernel) rfl
theorem q668 : (Jvm.Cond.methodLink "LongSumsModel" (85 : Nat) ({ cls := "LongSumsModel", name := "isPlace", desc := "(II)Z" } : Jvm.MethodName)) ∈ GW := gw 668 (by decide +kernel) rfl
theorem q670 : (Jvm.Cond.instanceMethod ({ cls := "LongSumsModel", name := "isPlace", desc := "(II)Z" } : Jvm.MethodName)) ∈ GW := gw 670 (by decide +kernel) rfl
theorem q671 : (Jvm.Cond.code ({ cls := "LongSumsModel", name := "isPlace", desc := "(II)Z" } : Jvm.MethodName) prog_7_method_7_code (3 : Nat) (Option.some Jvm.ClassFile.FieldType.boolean)) ∈ GW := gw 671 (by decide +kernel) rfl
theorem q672 : (Jvm.Cond.methodLink "LongSumsModel" (89 : Nat) ({ cls := "LongSumsModel", name := "made", desc := "(JI)D" } : Jvm.MethodName)) ∈ GW := gw 672 (by decide +kernel) rfl
theorem q673 : (Jvm.Cond.static ({ cls := "LongSumsModel", name := "made", desc := "(JI)D" } : Jvm.MethodName)) ∈ GW := gw 673 (by decide +kernel) rfl
theorem q674 : (Jvm.Cond.code ({ cls := "LongSumsModel", name := "made", desc := "(JI)D" } : Jvm.MethodName) prog_7_method_11_code (6 : Nat) (Option.some Jvm.ClassFile.FieldType.double)) ∈ GW := gw 674 (by decide +kernel) rfl
theorem q675 : (Jvm.Cond.constantDouble "LongSumsModel" (73 : Nat) (4611686018427387904 : UInt64)) ∈ GW := gw 675 (by decide +kernel) rfl
theorem q676 : (Jvm.Cond.constantDouble "LongSumsModel" (75 : Nat) (4602678819172646912 : UInt64)) ∈ GW := gw 676 (by decide +kernel) rfl
theorem q677 : (Jvm.Cond.methodLink "LongSumsModel" (93 : Nat) ({ cls := "LongSumsModel", name := "putFloat", desc := "(ID)V" } : Jvm.MethodName)) ∈ GW := gw 677 (by decide +kernel) rfl
theorem q679 : (Jvm.Cond.instanceMethod ({ cls := "LongSumsModel", name := "putFloat", desc := "(ID)V" } : Jvm.MethodName)) ∈ GW := gw 679 (by decide +kernel) rfl
theorem q680 : (Jvm.Cond.code ({ cls := "LongSumsModel", name := "putFloat", desc := "(ID)V" } : Jvm.MethodName) prog_7_method_13_code (6 : Nat) (Option.none : Option Jvm.ClassFile.FieldType)) ∈ GW := gw 680 (by decide +kernel) rfl
theorem q681 : (Jvm.Cond.constantLong "LongSumsModel" (97 : Nat) (33554431 : Int64)) ∈ GW := gw 681 (by decide +kernel) rfl
theorem q686 : (Jvm.Cond.methodLink "LongSumsModel" (99 : Nat) ({ cls := "LongSumsModel", name := "isReal", desc := "(I)Z" } : Jvm.MethodName)) ∈ GW := gw 686 (by decide +kernel) rfl
theorem q688 : (Jvm.Cond.instanceMethod ({ cls := "LongSumsModel", name := "isReal", desc := "(I)Z" } : Jvm.MethodName)) ∈ GW := gw 688 (by decide +kernel) rfl
theorem q689 : (Jvm.Cond.code ({ cls := "LongSumsModel", name := "isReal", desc := "(I)Z" } : Jvm.MethodName) prog_7_method_6_code (2 : Nat) (Option.some Jvm.ClassFile.FieldType.boolean)) ∈ GW := gw 689 (by decide +kernel) rfl
theorem q690 : (Jvm.Cond.constantDouble "LongSumsModel" (102 : Nat) (9223372036854775808 : UInt64)) ∈ GW := gw 690 (by decide +kernel) rfl
theorem q691 : (Jvm.Cond.constantLong "LongSumsModel" (104 : Nat) (16777215 : Int64)) ∈ GW := gw 691 (by decide +kernel) rfl
theorem q696 : (Jvm.Cond.methodLink "LongSumsModel" (106 : Nat) ({ cls := "LongSumsModel", name := "arePlaces", desc := "(III)Z" } : Jvm.MethodName)) ∈ GW := gw 696 (by decide +kernel) rfl
theorem q698 : (Jvm.Cond.instanceMethod ({ cls := "LongSumsModel", name := "arePlaces", desc := "(III)Z" } : Jvm.MethodName)) ∈ GW := gw 698 (by decide +kernel) rfl
theorem q699 : (Jvm.Cond.code ({ cls := "LongSumsModel", name := "arePlaces", desc := "(III)Z" } : Jvm.MethodName) prog_7_method_8_code (4 : Nat) (Option.some Jvm.ClassFile.FieldType.boolean)) ∈ GW := gw 699 (by decide +kernel) rfl
theorem q704 : (Jvm.Cond.constantLong "LongSumsModel" (110 : Nat) (3 : Int64)) ∈ GW := gw 704 (by decide +kernel) rfl
theorem q705 : (Jvm.Cond.constantLong "LongSumsModel" (112 : Nat) (-3 : Int64)) ∈ GW := gw 705 (by decide +kernel) rfl
theorem q706 : (Jvm.Cond.constantLong "LongSumsModel" (114 : Nat) (-11 : Int64)) ∈ GW := gw 706 (by decide +kernel) rfl
theorem q707 : (Jvm.Cond.constantLong "LongSumsModel" (116 : Nat) (-12 : Int64)) ∈ GW := gw 707 (by decide +kernel) rfl
theorem q708 : (Jvm.Cond.constantLong "LongSumsModel" (118 : Nat) (-13 : Int64)) ∈ GW := gw 708 (by decide +kernel) rfl
theorem q713 : (Jvm.Cond.methodLink "LongSumsModel" (126 : Nat) ({ cls := "LongSumsModel", name := "valueOf", desc := "(II)D" } : Jvm.MethodName)) ∈ GW := gw 713 (by decide +kernel) rfl
theorem q715 : (Jvm.Cond.instanceMethod ({ cls := "LongSumsModel", name := "valueOf", desc := "(II)D" } : Jvm.MethodName)) ∈ GW := gw 715 (by decide +kernel) rfl
theorem q716 : (Jvm.Cond.code ({ cls := "LongSumsModel", name := "valueOf", desc := "(II)D" } : Jvm.MethodName) prog_7_method_17_code (3 : Nat) (Option.some Jvm.ClassFile.FieldType.double)) ∈ GW := gw 716 (by decide +kernel) rfl
theorem q717 : (Jvm.Cond.constantDouble "LongSumsModel" (122 : Nat) (9218868437227405312 : UInt64)) ∈ GW := gw 717 (by decide +kernel) rfl
theorem q718 : (Jvm.Cond.constantDouble "LongSumsModel" (124 : Nat) (18442240474082181120 : UInt64)) ∈ GW := gw 718 (by decide +kernel) rfl
theorem q731 : (Jvm.Cond.methodLink "LongSumsModel" (136 : Nat) ({ cls := "LongSumsModel", name := "isKeeper", desc := "(I)Z" } : Jvm.MethodName)) ∈ GW := gw 731 (by decide +kernel) rfl
theorem q732 : (Jvm.Cond.static ({ cls := "LongSumsModel", name := "isKeeper", desc := "(I)Z" } : Jvm.MethodName)) ∈ GW := gw 732 (by decide +kernel) rfl
theorem q733 : (Jvm.Cond.code ({ cls := "LongSumsModel", name := "isKeeper", desc := "(I)Z" } : Jvm.MethodName) prog_7_method_20_code (1 : Nat) (Option.some Jvm.ClassFile.FieldType.boolean)) ∈ GW := gw 733 (by decide +kernel) rfl
theorem q734 : (Jvm.Cond.constantLong "LongSumsModel" (139 : Nat) (2 : Int64)) ∈ GW := gw 734 (by decide +kernel) rfl
theorem q735 : (Jvm.Cond.methodLink "LongSumsModel" (141 : Nat) ({ cls := "LongSumsModel", name := "keep", desc := "(I)V" } : Jvm.MethodName)) ∈ GW := gw 735 (by decide +kernel) rfl
theorem q737 : (Jvm.Cond.instanceMethod ({ cls := "LongSumsModel", name := "keep", desc := "(I)V" } : Jvm.MethodName)) ∈ GW := gw 737 (by decide +kernel) rfl
theorem q738 : (Jvm.Cond.code ({ cls := "LongSumsModel", name := "keep", desc := "(I)V" } : Jvm.MethodName) prog_7_method_21_code (4 : Nat) (Option.none : Option Jvm.ClassFile.FieldType)) ∈ GW := gw 738 (by decide +kernel) rfl
theorem q739 : (Jvm.Cond.methodLink "LongSumsModel" (145 : Nat) ({ cls := "LongSumsModel", name := "blank", desc := "(I)V" } : Jvm.MethodName)) ∈ GW := gw 739 (by decide +kernel) rfl
theorem q741 : (Jvm.Cond.instanceMethod ({ cls := "LongSumsModel", name := "blank", desc := "(I)V" } : Jvm.MethodName)) ∈ GW := gw 741 (by decide +kernel) rfl
theorem q742 : (Jvm.Cond.code ({ cls := "LongSumsModel", name := "blank", desc := "(I)V" } : Jvm.MethodName) prog_7_method_23_code (3 : Nat) (Option.none : Option Jvm.ClassFile.FieldType)) ∈ GW := gw 742 (by decide +kernel) rfl
theorem q747 : (Jvm.Cond.constantLong "LongSumsModel" (206 : Nat) (-40 : Int64)) ∈ GW := gw 747 (by decide +kernel) rfl
theorem q748 : (Jvm.Cond.constantLong "LongSumsModel" (208 : Nat) (40 : Int64)) ∈ GW := gw 748 (by decide +kernel) rfl
theorem q749 : (Jvm.Cond.methodLink "LongSumsModel" (210 : Nat) ({ cls := "LongSumsModel", name := "sizeOf", desc := "(I)I" } : Jvm.MethodName)) ∈ GW := gw 749 (by decide +kernel) rfl
theorem q750 : (Jvm.Cond.static ({ cls := "LongSumsModel", name := "sizeOf", desc := "(I)I" } : Jvm.MethodName)) ∈ GW := gw 750 (by decide +kernel) rfl
theorem q751 : (Jvm.Cond.code ({ cls := "LongSumsModel", name := "sizeOf", desc := "(I)I" } : Jvm.MethodName) prog_7_method_36_code (1 : Nat) (Option.some Jvm.ClassFile.FieldType.int)) ∈ GW := gw 751 (by decide +kernel) rfl
theorem q752 : (Jvm.Cond.methodLink "LongSumsModel" (214 : Nat) ({ cls := "LongSumsModel", name := "addProduct", desc := "(IIIIIZ)V" } : Jvm.MethodName)) ∈ GW := gw 752 (by decide +kernel) rfl
theorem q754 : (Jvm.Cond.instanceMethod ({ cls := "LongSumsModel", name := "addProduct", desc := "(IIIIIZ)V" } : Jvm.MethodName)) ∈ GW := gw 754 (by decide +kernel) rfl
theorem q755 : (Jvm.Cond.code ({ cls := "LongSumsModel", name := "addProduct", desc := "(IIIIIZ)V" } : Jvm.MethodName) prog_7_method_35_code (16 : Nat) (Option.none : Option Jvm.ClassFile.FieldType)) ∈ GW := gw 755 (by decide +kernel) rfl
theorem q756 : (Jvm.Cond.methodLink "LongSumsModel" (179 : Nat) ({ cls := "LongSumsModel", name := "sortOf", desc := "(II)I" } : Jvm.MethodName)) ∈ GW := gw 756 (by decide +kernel) rfl
theorem q758 : (Jvm.Cond.instanceMethod ({ cls := "LongSumsModel", name := "sortOf", desc := "(II)I" } : Jvm.MethodName)) ∈ GW := gw 758 (by decide +kernel) rfl
theorem q759 : (Jvm.Cond.code ({ cls := "LongSumsModel", name := "sortOf", desc := "(II)I" } : Jvm.MethodName) prog_7_method_30_code (3 : Nat) (Option.some Jvm.ClassFile.FieldType.int)) ∈ GW := gw 759 (by decide +kernel) rfl
theorem q760 : (Jvm.Cond.methodLink "LongSumsModel" (194 : Nat) ({ cls := "LongSumsModel", name := "isZero", desc := "(II)Z" } : Jvm.MethodName)) ∈ GW := gw 760 (by decide +kernel) rfl
theorem q762 : (Jvm.Cond.instanceMethod ({ cls := "LongSumsModel", name := "isZero", desc := "(II)Z" } : Jvm.MethodName)) ∈ GW := gw 762 (by decide +kernel) rfl
theorem q763 : (Jvm.Cond.code ({ cls := "LongSumsModel", name := "isZero", desc := "(II)Z" } : Jvm.MethodName) prog_7_method_31_code (3 : Nat) (Option.some Jvm.ClassFile.FieldType.boolean)) ∈ GW := gw 763 (by decide +kernel) rfl
theorem q764 : (Jvm.Cond.methodLink "LongSumsModel" (175 : Nat) ({ cls := "LongSumsModel", name := "see", desc := "(III)V" } : Jvm.MethodName)) ∈ GW := gw 764 (by decide +kernel) rfl
theorem q766 : (Jvm.Cond.instanceMethod ({ cls := "LongSumsModel", name := "see", desc := "(III)V" } : Jvm.MethodName)) ∈ GW := gw 766 (by decide +kernel) rfl
theorem q767 : (Jvm.Cond.code ({ cls := "LongSumsModel", name := "see", desc := "(III)V" } : Jvm.MethodName) prog_7_method_25_code (6 : Nat) (Option.none : Option Jvm.ClassFile.FieldType)) ∈ GW := gw 767 (by decide +kernel) rfl
theorem q768 : (Jvm.Cond.constantLong "LongSumsModel" (148 : Nat) (1000000000 : Int64)) ∈ GW := gw 768 (by decide +kernel) rfl
theorem q769 : (Jvm.Cond.methodLink "LongSumsModel" (197 : Nat) ({ cls := "LongSumsModel", name := "isBelow", desc := "(II)Z" } : Jvm.MethodName)) ∈ GW := gw 769 (by decide +kernel) rfl
theorem q771 : (Jvm.Cond.instanceMethod ({ cls := "LongSumsModel", name := "isBelow", desc := "(II)Z" } : Jvm.MethodName)) ∈ GW := gw 771 (by decide +kernel) rfl
theorem q772 : (Jvm.Cond.code ({ cls := "LongSumsModel", name := "isBelow", desc := "(II)Z" } : Jvm.MethodName) prog_7_method_32_code (3 : Nat) (Option.some Jvm.ClassFile.FieldType.boolean)) ∈ GW := gw 772 (by decide +kernel) rfl
theorem q773 : (Jvm.Cond.methodLink "LongSumsModel" (183 : Nat) ({ cls := "LongSumsModel", name := "endless", desc := "(IZZ)V" } : Jvm.MethodName)) ∈ GW := gw 773 (by decide +kernel) rfl
theorem q775 : (Jvm.Cond.instanceMethod ({ cls := "LongSumsModel", name := "endless", desc := "(IZZ)V" } : Jvm.MethodName)) ∈ GW := gw 775 (by decide +kernel) rfl
theorem q776 : (Jvm.Cond.code ({ cls := "LongSumsModel", name := "endless", desc := "(IZZ)V" } : Jvm.MethodName) prog_7_method_33_code (4 : Nat) (Option.none : Option Jvm.ClassFile.FieldType)) ∈ GW := gw 776 (by decide +kernel) rfl
theorem q777 : (Jvm.Cond.methodLink "LongSumsModel" (187 : Nat) ({ cls := "LongSumsModel", name := "apart", desc := "(II)V" } : Jvm.MethodName)) ∈ GW := gw 777 (by decide +kernel) rfl
theorem q779 : (Jvm.Cond.instanceMethod ({ cls := "LongSumsModel", name := "apart", desc := "(II)V" } : Jvm.MethodName)) ∈ GW := gw 779 (by decide +kernel) rfl
theorem q780 : (Jvm.Cond.code ({ cls := "LongSumsModel", name := "apart", desc := "(II)V" } : Jvm.MethodName) prog_7_method_28_code (3 : Nat) (Option.none : Option Jvm.ClassFile.FieldType)) ∈ GW := gw 780 (by decide +kernel) rfl
theorem q781 : (Jvm.Cond.methodLink "LongSumsModel" (169 : Nat) ({ cls := "LongSumsModel", name := "apart", desc := "(D)V" } : Jvm.MethodName)) ∈ GW := gw 781 (by decide +kernel) rfl
theorem q783 : (Jvm.Cond.instanceMethod ({ cls := "LongSumsModel", name := "apart", desc := "(D)V" } : Jvm.MethodName)) ∈ GW := gw 783 (by decide +kernel) rfl
theorem q784 : (Jvm.Cond.code ({ cls := "LongSumsModel", name := "apart", desc := "(D)V" } : Jvm.MethodName) prog_7_method_29_code (5 : Nat) (Option.none : Option Jvm.ClassFile.FieldType)) ∈ GW := gw 784 (by decide +kernel) rfl
theorem q785 : (Jvm.Cond.constantDouble "LongSumsModel" (173 : Nat) (4845873199050653696 : UInt64)) ∈ GW := gw 785 (by decide +kernel) rfl
theorem q786 : (Jvm.Cond.methodLink "LongSumsModel" (200 : Nat) ({ cls := "java/lang/Math", name := "multiplyHigh", desc := "(JJ)J" } : Jvm.MethodName)) ∈ GW := gw 786 (by decide +kernel) rfl
theorem q787 : (Jvm.Cond.static ({ cls := "java/lang/Math", name := "multiplyHigh", desc := "(JJ)J" } : Jvm.MethodName)) ∈ GW := gw 787 (by decide +kernel) rfl
theorem q788 : (Jvm.Cond.code ({ cls := "java/lang/Math", name := "multiplyHigh", desc := "(JJ)J" } : Jvm.MethodName) prog_10_method_45_code (20 : Nat) (Option.some Jvm.ClassFile.FieldType.long)) ∈ GW := gw 788 (by decide +kernel) rfl
theorem q789 : (Jvm.Cond.constantLong "java/lang/Math" (138 : Nat) (4294967295 : Int64)) ∈ GW := gw 789 (by decide +kernel) rfl
theorem q790 : (Jvm.Cond.methodLink "LongSumsModel" (190 : Nat) ({ cls := "LongSumsModel", name := "addBits", desc := "(IJJIZ)V" } : Jvm.MethodName)) ∈ GW := gw 790 (by decide +kernel) rfl
theorem q792 : (Jvm.Cond.instanceMethod ({ cls := "LongSumsModel", name := "addBits", desc := "(IJJIZ)V" } : Jvm.MethodName)) ∈ GW := gw 792 (by decide +kernel) rfl
theorem q793 : (Jvm.Cond.code ({ cls := "LongSumsModel", name := "addBits", desc := "(IJJIZ)V" } : Jvm.MethodName) prog_7_method_27_code (20 : Nat) (Option.none : Option Jvm.ClassFile.FieldType)) ∈ GW := gw 793 (by decide +kernel) rfl
theorem q794 : (Jvm.Cond.constantLong "LongSumsModel" (152 : Nat) (-1 : Int64)) ∈ GW := gw 794 (by decide +kernel) rfl
theorem q795 : (Jvm.Cond.constantLong "LongSumsModel" (150 : Nat) (4294967295 : Int64)) ∈ GW := gw 795 (by decide +kernel) rfl
theorem q796 : (Jvm.Cond.methodLink "LongSumsModel" (154 : Nat) ({ cls := "LongSumsModel", name := "carry", desc := "(IJJ)J" } : Jvm.MethodName)) ∈ GW := gw 796 (by decide +kernel) rfl
theorem q798 : (Jvm.Cond.instanceMethod ({ cls := "LongSumsModel", name := "carry", desc := "(IJJ)J" } : Jvm.MethodName)) ∈ GW := gw 798 (by decide +kernel) rfl
theorem q799 : (Jvm.Cond.code ({ cls := "LongSumsModel", name := "carry", desc := "(IJJ)J" } : Jvm.MethodName) prog_7_method_26_code (8 : Nat) (Option.some Jvm.ClassFile.FieldType.long)) ∈ GW := gw 799 (by decide +kernel) rfl
theorem q800 : (Jvm.Cond.methodLink "LongSumsModel" (218 : Nat) ({ cls := "LongSumsModel", name := "addPlace", desc := "(IIIZ)V" } : Jvm.MethodName)) ∈ GW := gw 800 (by decide +kernel) rfl
theorem q802 : (Jvm.Cond.instanceMethod ({ cls := "LongSumsModel", name := "addPlace", desc := "(IIIZ)V" } : Jvm.MethodName)) ∈ GW := gw 802 (by decide +kernel) rfl
theorem q803 : (Jvm.Cond.code ({ cls := "LongSumsModel", name := "addPlace", desc := "(IIIZ)V" } : Jvm.MethodName) prog_7_method_34_code (6 : Nat) (Option.none : Option Jvm.ClassFile.FieldType)) ∈ GW := gw 803 (by decide +kernel) rfl
theorem q820 : (Jvm.Cond.methodLink "LongSumsModel" (225 : Nat) ({ cls := "LongSumsModel", name := "plainOf", desc := "(III)D" } : Jvm.MethodName)) ∈ GW := gw 820 (by decide +kernel) rfl
theorem q822 : (Jvm.Cond.instanceMethod ({ cls := "LongSumsModel", name := "plainOf", desc := "(III)D" } : Jvm.MethodName)) ∈ GW := gw 822 (by decide +kernel) rfl
theorem q823 : (Jvm.Cond.code ({ cls := "LongSumsModel", name := "plainOf", desc := "(III)D" } : Jvm.MethodName) prog_7_method_41_code (10 : Nat) (Option.some Jvm.ClassFile.FieldType.double)) ∈ GW := gw 823 (by decide +kernel) rfl
theorem q832 : (Jvm.Cond.methodLink "LongSumsModel" (229 : Nat) ({ cls := "LongSumsModel", name := "sortOf", desc := "(I)I" } : Jvm.MethodName)) ∈ GW := gw 832 (by decide +kernel) rfl
theorem q834 : (Jvm.Cond.instanceMethod ({ cls := "LongSumsModel", name := "sortOf", desc := "(I)I" } : Jvm.MethodName)) ∈ GW := gw 834 (by decide +kernel) rfl
theorem q835 : (Jvm.Cond.code ({ cls := "LongSumsModel", name := "sortOf", desc := "(I)I" } : Jvm.MethodName) prog_7_method_44_code (4 : Nat) (Option.some Jvm.ClassFile.FieldType.int)) ∈ GW := gw 835 (by decide +kernel) rfl
theorem q844 : (Jvm.Cond.methodLink "LongSumsModel" (244 : Nat) ({ cls := "LongSumsModel", name := "endlessBy", desc := "(I)D" } : Jvm.MethodName)) ∈ GW := gw 844 (by decide +kernel) rfl
theorem q846 : (Jvm.Cond.instanceMethod ({ cls := "LongSumsModel", name := "endlessBy", desc := "(I)D" } : Jvm.MethodName)) ∈ GW := gw 846 (by decide +kernel) rfl
theorem q847 : (Jvm.Cond.code ({ cls := "LongSumsModel", name := "endlessBy", desc := "(I)D" } : Jvm.MethodName) prog_7_method_51_code (2 : Nat) (Option.some Jvm.ClassFile.FieldType.double)) ∈ GW := gw 847 (by decide +kernel) rfl
theorem q848 : (Jvm.Cond.methodLink "LongSumsModel" (248 : Nat) ({ cls := "LongSumsModel", name := "take", desc := "(I)V" } : Jvm.MethodName)) ∈ GW := gw 848 (by decide +kernel) rfl
theorem q850 : (Jvm.Cond.instanceMethod ({ cls := "LongSumsModel", name := "take", desc := "(I)V" } : Jvm.MethodName)) ∈ GW := gw 850 (by decide +kernel) rfl
theorem q851 : (Jvm.Cond.code ({ cls := "LongSumsModel", name := "take", desc := "(I)V" } : Jvm.MethodName) prog_7_method_47_code (8 : Nat) (Option.none : Option Jvm.ClassFile.FieldType)) ∈ GW := gw 851 (by decide +kernel) rfl
theorem q852 : (Jvm.Cond.methodLink "LongSumsModel" (251 : Nat) ({ cls := "LongSumsModel", name := "rounded", desc := "(IIII)D" } : Jvm.MethodName)) ∈ GW := gw 852 (by decide +kernel) rfl
theorem q854 : (Jvm.Cond.instanceMethod ({ cls := "LongSumsModel", name := "rounded", desc := "(IIII)D" } : Jvm.MethodName)) ∈ GW := gw 854 (by decide +kernel) rfl
theorem q855 : (Jvm.Cond.code ({ cls := "LongSumsModel", name := "rounded", desc := "(IIII)D" } : Jvm.MethodName) prog_7_method_50_code (18 : Nat) (Option.some Jvm.ClassFile.FieldType.double)) ∈ GW := gw 855 (by decide +kernel) rfl
theorem q856 : (Jvm.Cond.methodLink "LongSumsModel" (240 : Nat) ({ cls := "LongSumsModel", name := "highest", desc := "()I" } : Jvm.MethodName)) ∈ GW := gw 856 (by decide +kernel) rfl
theorem q858 : (Jvm.Cond.instanceMethod ({ cls := "LongSumsModel", name := "highest", desc := "()I" } : Jvm.MethodName)) ∈ GW := gw 858 (by decide +kernel) rfl
theorem q859 : (Jvm.Cond.code ({ cls := "LongSumsModel", name := "highest", desc := "()I" } : Jvm.MethodName) prog_7_method_48_code (2 : Nat) (Option.some Jvm.ClassFile.FieldType.int)) ∈ GW := gw 859 (by decide +kernel) rfl
theorem q860 : (Jvm.Cond.methodLink "LongSumsModel" (237 : Nat) ({ cls := "LongSumsModel", name := "bitAt", desc := "(I)I" } : Jvm.MethodName)) ∈ GW := gw 860 (by decide +kernel) rfl
theorem q862 : (Jvm.Cond.instanceMethod ({ cls := "LongSumsModel", name := "bitAt", desc := "(I)I" } : Jvm.MethodName)) ∈ GW := gw 862 (by decide +kernel) rfl
theorem q863 : (Jvm.Cond.code ({ cls := "LongSumsModel", name := "bitAt", desc := "(I)I" } : Jvm.MethodName) prog_7_method_49_code (2 : Nat) (Option.some Jvm.ClassFile.FieldType.int)) ∈ GW := gw 863 (by decide +kernel) rfl
theorem q868 : (Jvm.Cond.constantLong "LongSumsModel" (255 : Nat) (1000000 : Int64)) ∈ GW := gw 868 (by decide +kernel) rfl
theorem q873 : (Jvm.Cond.constantLong "LongSumsModel" (261 : Nat) (9218868437227405311 : Int64)) ∈ GW := gw 873 (by decide +kernel) rfl
theorem q874 : (Jvm.Cond.methodLink "LongSumsModel" (263 : Nat) ({ cls := "LongSumsModel", name := "compareSquare", desc := "(J)I" } : Jvm.MethodName)) ∈ GW := gw 874 (by decide +kernel) rfl
theorem q876 : (Jvm.Cond.instanceMethod ({ cls := "LongSumsModel", name := "compareSquare", desc := "(J)I" } : Jvm.MethodName)) ∈ GW := gw 876 (by decide +kernel) rfl
theorem q877 : (Jvm.Cond.code ({ cls := "LongSumsModel", name := "compareSquare", desc := "(J)I" } : Jvm.MethodName) prog_7_method_54_code (17 : Nat) (Option.some Jvm.ClassFile.FieldType.int)) ∈ GW := gw 877 (by decide +kernel) rfl
theorem q878 : (Jvm.Cond.constantLong "LongSumsModel" (257 : Nat) (4503599627370495 : Int64)) ∈ GW := gw 878 (by decide +kernel) rfl
theorem q879 : (Jvm.Cond.constantLong "LongSumsModel" (259 : Nat) (4503599627370496 : Int64)) ∈ GW := gw 879 (by decide +kernel) rfl
theorem q880 : (Jvm.Cond.methodLink "LongSumsModel" (267 : Nat) ({ cls := "LongSumsModel", name := "doubleOf", desc := "(J)D" } : Jvm.MethodName)) ∈ GW := gw 880 (by decide +kernel) rfl
theorem q882 : (Jvm.Cond.instanceMethod ({ cls := "LongSumsModel", name := "doubleOf", desc := "(J)D" } : Jvm.MethodName)) ∈ GW := gw 882 (by decide +kernel) rfl
theorem q883 : (Jvm.Cond.code ({ cls := "LongSumsModel", name := "doubleOf", desc := "(J)D" } : Jvm.MethodName) prog_7_method_55_code (6 : Nat) (Option.some Jvm.ClassFile.FieldType.double)) ∈ GW := gw 883 (by decide +kernel) rfl
theorem q896 : (Jvm.Cond.constantLong "LongSumsModel" (271 : Nat) (-2148 : Int64)) ∈ GW := gw 896 (by decide +kernel) rfl
theorem q897 : (Jvm.Cond.constantLong "LongSumsModel" (273 : Nat) (2200 : Int64)) ∈ GW := gw 897 (by decide +kernel) rfl
