/-! THE CLAIM OUT OF ONE WALK OF THE LAW'S BODY. Your part is whole_start (and what it stands on); all else here is the same for every law, but numbers. -/
def R_law : String := "LongSumsLaw"
def lw_P (b : Addr) (xs : List Int32) (args : Array Value) (s : State) : Prop := args = #[.ref b] ∧ s.IntsAt b xs ∧ xs.length ≤ 3072 ∧ (Jvm.Cond.and given_1 narrow_1).before args s = true
/-- what a walk over the start with the record d0 says of its end, said of the start itself -/
theorem lw_closed {s t : State} {o : Outcome} {d0 : Drawn} {L : List Loc} {k n : Nat} (hd0 : s.drawn.sameBut d0 lw_cs) (hv : ∃ v, o = .returned v) (hW : (s.setDrawn d0).WarmedH t.vm) (hs : (s.setDrawn d0).sameButNew ({ t with vm := s.vm } : State) L k n) : State.butDraws s t lw_cs (fun t1 => Framed s o t1 L k n) := by
  have h2 : t.drawn = d0 := congrArg State.drawn hs.1
  refine ⟨⟨hv, hW, State.sameButNew.setDrawn hs s.drawn⟩, ?_, by decide⟩
  rw [h2]
  exact hd0
def lw_Q (_ : Array Value) (s : State) (o : Outcome) (t : State) : Prop := o = .returned (some (.int 1)) ∧ State.butDraws s t lw_cs (fun t1 => Framed s o t1 [] 600000 7302250)
def lw_Z (below : List Frame) (a : Array Value) (s : State) : State → Prop := fun t => ∃ o, t.status = .running ∧ Ended t below o ∧ lw_Q a s o t
/-- the law's own end, with 1 on the stack, nothing written that was there before, its room as the claim has it; d0: the record of draws at this point (at the entry s.drawn: begin with 'refine W.base ?_' and 'have hd0 := Drawn.sameBut.refl s.drawn lw_cs') -/
theorem lw_ret {p : Program} {l : Launch} {e : Env} {s : State} {m : MethodId} {below : List Frame} {meth : Method} {c : Code} {b : Nat} {d0 : Drawn} (hd0 : s.drawn.sameBut d0 lw_cs) (hx : p.tables.exec = Jvm.exec) (hb : c.code = code) (hr : meth.sig.returnType = ret) (hlocks : meth.locks = false) {pc : Nat} {H : Heap} {ls : Array Slot} (hdg : decode code pc = .ok (.ireturn, 1)) : W p l e room_1 (s.setDrawn d0) m #[Value.ref b] below meth c H [] 600000 7302250 (lw_Z below #[Value.ref b] s) (F0 m pc ls [.int 1]) := by
  intro T hT X
  obtain ⟨fs, hret, hrun, hended, hW, hframe⟩ := X.leave (v := some (.int 1)) (hlocks := hlocks) (fun h => by rw [hr] at h; cases h)
  have hmeth' : T.vm.method? m = some meth := X.method'
  refine ⟨T.setFrames fs, ?_, .returned (some (.int 1)), hrun, hended, rfl, lw_closed hd0 ⟨_, rfl⟩ hW hframe⟩
  jvm_step X.here [X.here.top, hx, hb, hdg, hmeth', hr, ret, narrow_b1]
  (try refine ⟨rfl, ?_⟩); (try refine ⟨rfl, ?_⟩)
  first | (intro acts; rw [hret _ acts rfl rfl rfl]) | rw [hret _ _ rfl rfl rfl]
  exact Steps.refl _
/-- what holds at the law's entry: the machine, the code, the tables' words (any of lw_tbl by 'hts w (by decide +kernel)'), the script of L ints xs at the cell b, what the Statement gives of the start (any of its parts by flat_of_before) -/
def lw_At (p : Program) (s : State) (m : MethodId) (meth : Method) (c : Code) (b L : Nat) (xs : Nat → Int32) : Prop :=
  p.tables.exec = Jvm.exec ∧ c.code = code ∧ meth.sig.returnType = ret ∧ c.maxLocals = 8 ∧ s.vm.findClass R_law = some m.cls ∧ (∀ w ∈ lw_tbl, w.before #[Value.ref b] s = true) ∧ va_X b L xs s s.heap ∧ b < s.heap.size ∧ meth.locks = false ∧ (Jvm.Cond.and given_1 narrow_1).before #[Value.ref b] s = true
/-! the law -/
theorem q227 : (Jvm.Cond.methodLink "LongSumsLaw" (13 : Nat) ({ cls := "LongSums", name := "row", desc := "(III)I" } : Jvm.MethodName)) ∈ GW := gw 227 (by decide +kernel) rfl
theorem q228 : (Jvm.Cond.instanceMethod ({ cls := "LongSums", name := "row", desc := "(III)I" } : Jvm.MethodName)) ∈ GW := gw 228 (by decide +kernel) rfl
theorem q229 : (Jvm.Cond.selects "LongSums" ({ cls := "LongSums", name := "row", desc := "(III)I" } : Jvm.MethodName) ({ cls := "LongSums", name := "row", desc := "(III)I" } : Jvm.MethodName)) ∈ GW := gw 229 (by decide +kernel) rfl
theorem q230 : (Jvm.Cond.code ({ cls := "LongSums", name := "row", desc := "(III)I" } : Jvm.MethodName) prog_1_method_2_code (4 : Nat) (Option.some Jvm.ClassFile.FieldType.int)) ∈ GW := gw 230 (by decide +kernel) rfl
theorem q234 : (Jvm.Cond.methodLink "LongSumsLaw" (18 : Nat) ({ cls := "LongSums", name := "lose", desc := "(I)I" } : Jvm.MethodName)) ∈ GW := gw 234 (by decide +kernel) rfl
theorem q235 : (Jvm.Cond.instanceMethod ({ cls := "LongSums", name := "lose", desc := "(I)I" } : Jvm.MethodName)) ∈ GW := gw 235 (by decide +kernel) rfl
theorem q236 : (Jvm.Cond.selects "LongSums" ({ cls := "LongSums", name := "lose", desc := "(I)I" } : Jvm.MethodName) ({ cls := "LongSums", name := "lose", desc := "(I)I" } : Jvm.MethodName)) ∈ GW := gw 236 (by decide +kernel) rfl
theorem q237 : (Jvm.Cond.code ({ cls := "LongSums", name := "lose", desc := "(I)I" } : Jvm.MethodName) prog_1_method_3_code (3 : Nat) (Option.some Jvm.ClassFile.FieldType.int)) ∈ GW := gw 237 (by decide +kernel) rfl
theorem q238 : (Jvm.Cond.methodLink "LongSumsLaw" (25 : Nat) ({ cls := "LongSums", name := "put", desc := "(IIJI)I" } : Jvm.MethodName)) ∈ GW := gw 238 (by decide +kernel) rfl
theorem q239 : (Jvm.Cond.instanceMethod ({ cls := "LongSums", name := "put", desc := "(IIJI)I" } : Jvm.MethodName)) ∈ GW := gw 239 (by decide +kernel) rfl
theorem q240 : (Jvm.Cond.selects "LongSums" ({ cls := "LongSums", name := "put", desc := "(IIJI)I" } : Jvm.MethodName) ({ cls := "LongSums", name := "put", desc := "(IIJI)I" } : Jvm.MethodName)) ∈ GW := gw 240 (by decide +kernel) rfl
theorem q241 : (Jvm.Cond.code ({ cls := "LongSums", name := "put", desc := "(IIJI)I" } : Jvm.MethodName) prog_1_method_4_code (7 : Nat) (Option.some Jvm.ClassFile.FieldType.int)) ∈ GW := gw 241 (by decide +kernel) rfl
theorem q248 : (Jvm.Cond.methodLink "LongSumsLaw" (30 : Nat) ({ cls := "LongSums", name := "mark", desc := "(III)I" } : Jvm.MethodName)) ∈ GW := gw 248 (by decide +kernel) rfl
theorem q249 : (Jvm.Cond.instanceMethod ({ cls := "LongSums", name := "mark", desc := "(III)I" } : Jvm.MethodName)) ∈ GW := gw 249 (by decide +kernel) rfl
theorem q250 : (Jvm.Cond.selects "LongSums" ({ cls := "LongSums", name := "mark", desc := "(III)I" } : Jvm.MethodName) ({ cls := "LongSums", name := "mark", desc := "(III)I" } : Jvm.MethodName)) ∈ GW := gw 250 (by decide +kernel) rfl
theorem q251 : (Jvm.Cond.code ({ cls := "LongSums", name := "mark", desc := "(III)I" } : Jvm.MethodName) prog_1_method_5_code (5 : Nat) (Option.some Jvm.ClassFile.FieldType.int)) ∈ GW := gw 251 (by decide +kernel) rfl
theorem q260 : (Jvm.Cond.methodLink "LongSumsLaw" (34 : Nat) ({ cls := "LongSums", name := "copy", desc := "(IIIII)I" } : Jvm.MethodName)) ∈ GW := gw 260 (by decide +kernel) rfl
theorem q261 : (Jvm.Cond.instanceMethod ({ cls := "LongSums", name := "copy", desc := "(IIIII)I" } : Jvm.MethodName)) ∈ GW := gw 261 (by decide +kernel) rfl
theorem q262 : (Jvm.Cond.selects "LongSums" ({ cls := "LongSums", name := "copy", desc := "(IIIII)I" } : Jvm.MethodName) ({ cls := "LongSums", name := "copy", desc := "(IIIII)I" } : Jvm.MethodName)) ∈ GW := gw 262 (by decide +kernel) rfl
theorem q263 : (Jvm.Cond.code ({ cls := "LongSums", name := "copy", desc := "(IIIII)I" } : Jvm.MethodName) prog_1_method_6_code (8 : Nat) (Option.some Jvm.ClassFile.FieldType.int)) ∈ GW := gw 263 (by decide +kernel) rfl
theorem q271 : (Jvm.Cond.methodLink "LongSumsLaw" (39 : Nat) ({ cls := "LongSums", name := "look", desc := "(III)J" } : Jvm.MethodName)) ∈ GW := gw 271 (by decide +kernel) rfl
theorem q272 : (Jvm.Cond.instanceMethod ({ cls := "LongSums", name := "look", desc := "(III)J" } : Jvm.MethodName)) ∈ GW := gw 272 (by decide +kernel) rfl
theorem q273 : (Jvm.Cond.selects "LongSums" ({ cls := "LongSums", name := "look", desc := "(III)J" } : Jvm.MethodName) ({ cls := "LongSums", name := "look", desc := "(III)J" } : Jvm.MethodName)) ∈ GW := gw 273 (by decide +kernel) rfl
theorem q274 : (Jvm.Cond.code ({ cls := "LongSums", name := "look", desc := "(III)J" } : Jvm.MethodName) prog_1_method_7_code (5 : Nat) (Option.some Jvm.ClassFile.FieldType.long)) ∈ GW := gw 274 (by decide +kernel) rfl
theorem q279 : (Jvm.Cond.methodLink "LongSumsLaw" (44 : Nat) ({ cls := "LongSums", name := "see", desc := "(II)D" } : Jvm.MethodName)) ∈ GW := gw 279 (by decide +kernel) rfl
theorem q280 : (Jvm.Cond.instanceMethod ({ cls := "LongSums", name := "see", desc := "(II)D" } : Jvm.MethodName)) ∈ GW := gw 280 (by decide +kernel) rfl
theorem q281 : (Jvm.Cond.selects "LongSums" ({ cls := "LongSums", name := "see", desc := "(II)D" } : Jvm.MethodName) ({ cls := "LongSums", name := "see", desc := "(II)D" } : Jvm.MethodName)) ∈ GW := gw 281 (by decide +kernel) rfl
theorem q282 : (Jvm.Cond.code ({ cls := "LongSums", name := "see", desc := "(II)D" } : Jvm.MethodName) prog_1_method_8_code (4 : Nat) (Option.some Jvm.ClassFile.FieldType.double)) ∈ GW := gw 282 (by decide +kernel) rfl
theorem q300 : (Jvm.Cond.methodLink "LongSumsLaw" (51 : Nat) ({ cls := "LongSums", name := "compare", desc := "(IID)I" } : Jvm.MethodName)) ∈ GW := gw 300 (by decide +kernel) rfl
theorem q301 : (Jvm.Cond.instanceMethod ({ cls := "LongSums", name := "compare", desc := "(IID)I" } : Jvm.MethodName)) ∈ GW := gw 301 (by decide +kernel) rfl
theorem q302 : (Jvm.Cond.selects "LongSums" ({ cls := "LongSums", name := "compare", desc := "(IID)I" } : Jvm.MethodName) ({ cls := "LongSums", name := "compare", desc := "(IID)I" } : Jvm.MethodName)) ∈ GW := gw 302 (by decide +kernel) rfl
theorem q303 : (Jvm.Cond.code ({ cls := "LongSums", name := "compare", desc := "(IID)I" } : Jvm.MethodName) prog_1_method_9_code (8 : Nat) (Option.some Jvm.ClassFile.FieldType.int)) ∈ GW := gw 303 (by decide +kernel) rfl
theorem q308 : (Jvm.Cond.methodLink "LongSumsLaw" (56 : Nat) ({ cls := "LongSums", name := "keeper", desc := "(II)I" } : Jvm.MethodName)) ∈ GW := gw 308 (by decide +kernel) rfl
theorem q309 : (Jvm.Cond.instanceMethod ({ cls := "LongSums", name := "keeper", desc := "(II)I" } : Jvm.MethodName)) ∈ GW := gw 309 (by decide +kernel) rfl
theorem q310 : (Jvm.Cond.selects "LongSums" ({ cls := "LongSums", name := "keeper", desc := "(II)I" } : Jvm.MethodName) ({ cls := "LongSums", name := "keeper", desc := "(II)I" } : Jvm.MethodName)) ∈ GW := gw 310 (by decide +kernel) rfl
theorem q311 : (Jvm.Cond.code ({ cls := "LongSums", name := "keeper", desc := "(II)I" } : Jvm.MethodName) prog_1_method_10_code (3 : Nat) (Option.some Jvm.ClassFile.FieldType.int)) ∈ GW := gw 311 (by decide +kernel) rfl
theorem q337 : (Jvm.Cond.methodLink "LongSumsLaw" (61 : Nat) ({ cls := "LongSums", name := "add", desc := "(IIII)I" } : Jvm.MethodName)) ∈ GW := gw 337 (by decide +kernel) rfl
theorem q338 : (Jvm.Cond.instanceMethod ({ cls := "LongSums", name := "add", desc := "(IIII)I" } : Jvm.MethodName)) ∈ GW := gw 338 (by decide +kernel) rfl
theorem q339 : (Jvm.Cond.selects "LongSums" ({ cls := "LongSums", name := "add", desc := "(IIII)I" } : Jvm.MethodName) ({ cls := "LongSums", name := "add", desc := "(IIII)I" } : Jvm.MethodName)) ∈ GW := gw 339 (by decide +kernel) rfl
theorem q340 : (Jvm.Cond.code ({ cls := "LongSums", name := "add", desc := "(IIII)I" } : Jvm.MethodName) prog_1_method_11_code (7 : Nat) (Option.some Jvm.ClassFile.FieldType.int)) ∈ GW := gw 340 (by decide +kernel) rfl
theorem q377 : (Jvm.Cond.methodLink "LongSumsLaw" (66 : Nat) ({ cls := "LongSums", name := "pair", desc := "(IIIII)I" } : Jvm.MethodName)) ∈ GW := gw 377 (by decide +kernel) rfl
theorem q378 : (Jvm.Cond.instanceMethod ({ cls := "LongSums", name := "pair", desc := "(IIIII)I" } : Jvm.MethodName)) ∈ GW := gw 378 (by decide +kernel) rfl
theorem q379 : (Jvm.Cond.selects "LongSums" ({ cls := "LongSums", name := "pair", desc := "(IIIII)I" } : Jvm.MethodName) ({ cls := "LongSums", name := "pair", desc := "(IIIII)I" } : Jvm.MethodName)) ∈ GW := gw 379 (by decide +kernel) rfl
theorem q380 : (Jvm.Cond.code ({ cls := "LongSums", name := "pair", desc := "(IIIII)I" } : Jvm.MethodName) prog_1_method_12_code (8 : Nat) (Option.some Jvm.ClassFile.FieldType.int)) ∈ GW := gw 380 (by decide +kernel) rfl
theorem q381 : (Jvm.Cond.methodLink "LongSumsLaw" (70 : Nat) ({ cls := "LongSums", name := "merge", desc := "(II)I" } : Jvm.MethodName)) ∈ GW := gw 381 (by decide +kernel) rfl
theorem q382 : (Jvm.Cond.instanceMethod ({ cls := "LongSums", name := "merge", desc := "(II)I" } : Jvm.MethodName)) ∈ GW := gw 382 (by decide +kernel) rfl
theorem q383 : (Jvm.Cond.selects "LongSums" ({ cls := "LongSums", name := "merge", desc := "(II)I" } : Jvm.MethodName) ({ cls := "LongSums", name := "merge", desc := "(II)I" } : Jvm.MethodName)) ∈ GW := gw 383 (by decide +kernel) rfl
theorem q384 : (Jvm.Cond.code ({ cls := "LongSums", name := "merge", desc := "(II)I" } : Jvm.MethodName) prog_1_method_13_code (5 : Nat) (Option.some Jvm.ClassFile.FieldType.int)) ∈ GW := gw 384 (by decide +kernel) rfl
theorem q389 : (Jvm.Cond.methodLink "LongSumsLaw" (74 : Nat) ({ cls := "LongSums", name := "clear", desc := "(I)I" } : Jvm.MethodName)) ∈ GW := gw 389 (by decide +kernel) rfl
theorem q390 : (Jvm.Cond.instanceMethod ({ cls := "LongSums", name := "clear", desc := "(I)I" } : Jvm.MethodName)) ∈ GW := gw 390 (by decide +kernel) rfl
theorem q391 : (Jvm.Cond.selects "LongSums" ({ cls := "LongSums", name := "clear", desc := "(I)I" } : Jvm.MethodName) ({ cls := "LongSums", name := "clear", desc := "(I)I" } : Jvm.MethodName)) ∈ GW := gw 391 (by decide +kernel) rfl
theorem q392 : (Jvm.Cond.code ({ cls := "LongSums", name := "clear", desc := "(I)I" } : Jvm.MethodName) prog_1_method_14_code (3 : Nat) (Option.some Jvm.ClassFile.FieldType.int)) ∈ GW := gw 392 (by decide +kernel) rfl
theorem q393 : (Jvm.Cond.methodLink "LongSumsLaw" (78 : Nat) ({ cls := "LongSums", name := "error", desc := "(IIII)I" } : Jvm.MethodName)) ∈ GW := gw 393 (by decide +kernel) rfl
theorem q394 : (Jvm.Cond.instanceMethod ({ cls := "LongSums", name := "error", desc := "(IIII)I" } : Jvm.MethodName)) ∈ GW := gw 394 (by decide +kernel) rfl
theorem q395 : (Jvm.Cond.selects "LongSums" ({ cls := "LongSums", name := "error", desc := "(IIII)I" } : Jvm.MethodName) ({ cls := "LongSums", name := "error", desc := "(IIII)I" } : Jvm.MethodName)) ∈ GW := gw 395 (by decide +kernel) rfl
theorem q396 : (Jvm.Cond.code ({ cls := "LongSums", name := "error", desc := "(IIII)I" } : Jvm.MethodName) prog_1_method_15_code (7 : Nat) (Option.some Jvm.ClassFile.FieldType.int)) ∈ GW := gw 396 (by decide +kernel) rfl
theorem q417 : (Jvm.Cond.methodLink "LongSumsLaw" (82 : Nat) ({ cls := "LongSums", name := "plain", desc := "(III)D" } : Jvm.MethodName)) ∈ GW := gw 417 (by decide +kernel) rfl
theorem q418 : (Jvm.Cond.instanceMethod ({ cls := "LongSums", name := "plain", desc := "(III)D" } : Jvm.MethodName)) ∈ GW := gw 418 (by decide +kernel) rfl
theorem q419 : (Jvm.Cond.selects "LongSums" ({ cls := "LongSums", name := "plain", desc := "(III)D" } : Jvm.MethodName) ({ cls := "LongSums", name := "plain", desc := "(III)D" } : Jvm.MethodName)) ∈ GW := gw 419 (by decide +kernel) rfl
theorem q420 : (Jvm.Cond.code ({ cls := "LongSums", name := "plain", desc := "(III)D" } : Jvm.MethodName) prog_1_method_16_code (5 : Nat) (Option.some Jvm.ClassFile.FieldType.double)) ∈ GW := gw 420 (by decide +kernel) rfl
theorem q421 : (Jvm.Cond.methodLink "LongSumsLaw" (87 : Nat) ({ cls := "LongSums", name := "sort", desc := "(I)I" } : Jvm.MethodName)) ∈ GW := gw 421 (by decide +kernel) rfl
theorem q422 : (Jvm.Cond.instanceMethod ({ cls := "LongSums", name := "sort", desc := "(I)I" } : Jvm.MethodName)) ∈ GW := gw 422 (by decide +kernel) rfl
theorem q423 : (Jvm.Cond.selects "LongSums" ({ cls := "LongSums", name := "sort", desc := "(I)I" } : Jvm.MethodName) ({ cls := "LongSums", name := "sort", desc := "(I)I" } : Jvm.MethodName)) ∈ GW := gw 423 (by decide +kernel) rfl
theorem q424 : (Jvm.Cond.code ({ cls := "LongSums", name := "sort", desc := "(I)I" } : Jvm.MethodName) prog_1_method_17_code (3 : Nat) (Option.some Jvm.ClassFile.FieldType.int)) ∈ GW := gw 424 (by decide +kernel) rfl
theorem q433 : (Jvm.Cond.methodLink "LongSumsLaw" (91 : Nat) ({ cls := "LongSums", name := "seen", desc := "(II)I" } : Jvm.MethodName)) ∈ GW := gw 433 (by decide +kernel) rfl
theorem q434 : (Jvm.Cond.instanceMethod ({ cls := "LongSums", name := "seen", desc := "(II)I" } : Jvm.MethodName)) ∈ GW := gw 434 (by decide +kernel) rfl
theorem q435 : (Jvm.Cond.selects "LongSums" ({ cls := "LongSums", name := "seen", desc := "(II)I" } : Jvm.MethodName) ({ cls := "LongSums", name := "seen", desc := "(II)I" } : Jvm.MethodName)) ∈ GW := gw 435 (by decide +kernel) rfl
theorem q436 : (Jvm.Cond.code ({ cls := "LongSums", name := "seen", desc := "(II)I" } : Jvm.MethodName) prog_1_method_18_code (4 : Nat) (Option.some Jvm.ClassFile.FieldType.int)) ∈ GW := gw 436 (by decide +kernel) rfl
theorem q437 : (Jvm.Cond.methodLink "LongSumsLaw" (95 : Nat) ({ cls := "LongSums", name := "tell", desc := "(IIZ)D" } : Jvm.MethodName)) ∈ GW := gw 437 (by decide +kernel) rfl
theorem q438 : (Jvm.Cond.instanceMethod ({ cls := "LongSums", name := "tell", desc := "(IIZ)D" } : Jvm.MethodName)) ∈ GW := gw 438 (by decide +kernel) rfl
theorem q439 : (Jvm.Cond.selects "LongSums" ({ cls := "LongSums", name := "tell", desc := "(IIZ)D" } : Jvm.MethodName) ({ cls := "LongSums", name := "tell", desc := "(IIZ)D" } : Jvm.MethodName)) ∈ GW := gw 439 (by decide +kernel) rfl
theorem q440 : (Jvm.Cond.code ({ cls := "LongSums", name := "tell", desc := "(IIZ)D" } : Jvm.MethodName) prog_1_method_19_code (4 : Nat) (Option.some Jvm.ClassFile.FieldType.double)) ∈ GW := gw 440 (by decide +kernel) rfl
theorem q496 : (Jvm.Cond.methodLink "LongSumsLaw" (100 : Nat) ({ cls := "LongSums", name := "mean", desc := "(III)D" } : Jvm.MethodName)) ∈ GW := gw 496 (by decide +kernel) rfl
theorem q497 : (Jvm.Cond.instanceMethod ({ cls := "LongSums", name := "mean", desc := "(III)D" } : Jvm.MethodName)) ∈ GW := gw 497 (by decide +kernel) rfl
theorem q498 : (Jvm.Cond.selects "LongSums" ({ cls := "LongSums", name := "mean", desc := "(III)D" } : Jvm.MethodName) ({ cls := "LongSums", name := "mean", desc := "(III)D" } : Jvm.MethodName)) ∈ GW := gw 498 (by decide +kernel) rfl
theorem q499 : (Jvm.Cond.code ({ cls := "LongSums", name := "mean", desc := "(III)D" } : Jvm.MethodName) prog_1_method_20_code (4 : Nat) (Option.some Jvm.ClassFile.FieldType.double)) ∈ GW := gw 499 (by decide +kernel) rfl
theorem q501 : (Jvm.Cond.methodLink "LongSumsLaw" (104 : Nat) ({ cls := "LongSums", name := "length", desc := "(IZ)D" } : Jvm.MethodName)) ∈ GW := gw 501 (by decide +kernel) rfl
theorem q502 : (Jvm.Cond.instanceMethod ({ cls := "LongSums", name := "length", desc := "(IZ)D" } : Jvm.MethodName)) ∈ GW := gw 502 (by decide +kernel) rfl
theorem q503 : (Jvm.Cond.selects "LongSums" ({ cls := "LongSums", name := "length", desc := "(IZ)D" } : Jvm.MethodName) ({ cls := "LongSums", name := "length", desc := "(IZ)D" } : Jvm.MethodName)) ∈ GW := gw 503 (by decide +kernel) rfl
theorem q504 : (Jvm.Cond.code ({ cls := "LongSums", name := "length", desc := "(IZ)D" } : Jvm.MethodName) prog_1_method_21_code (5 : Nat) (Option.some Jvm.ClassFile.FieldType.double)) ∈ GW := gw 504 (by decide +kernel) rfl
theorem q509 : (Jvm.Cond.methodLink "LongSumsLaw" (109 : Nat) ({ cls := "LongSums", name := "sign", desc := "(I)I" } : Jvm.MethodName)) ∈ GW := gw 509 (by decide +kernel) rfl
theorem q510 : (Jvm.Cond.instanceMethod ({ cls := "LongSums", name := "sign", desc := "(I)I" } : Jvm.MethodName)) ∈ GW := gw 510 (by decide +kernel) rfl
theorem q511 : (Jvm.Cond.selects "LongSums" ({ cls := "LongSums", name := "sign", desc := "(I)I" } : Jvm.MethodName) ({ cls := "LongSums", name := "sign", desc := "(I)I" } : Jvm.MethodName)) ∈ GW := gw 511 (by decide +kernel) rfl
theorem q512 : (Jvm.Cond.code ({ cls := "LongSums", name := "sign", desc := "(I)I" } : Jvm.MethodName) prog_1_method_22_code (4 : Nat) (Option.some Jvm.ClassFile.FieldType.int)) ∈ GW := gw 512 (by decide +kernel) rfl
theorem q517 : (Jvm.Cond.methodLink "LongSumsLaw" (113 : Nat) ({ cls := "LongSums", name := "high", desc := "(I)I" } : Jvm.MethodName)) ∈ GW := gw 517 (by decide +kernel) rfl
theorem q518 : (Jvm.Cond.instanceMethod ({ cls := "LongSums", name := "high", desc := "(I)I" } : Jvm.MethodName)) ∈ GW := gw 518 (by decide +kernel) rfl
theorem q519 : (Jvm.Cond.selects "LongSums" ({ cls := "LongSums", name := "high", desc := "(I)I" } : Jvm.MethodName) ({ cls := "LongSums", name := "high", desc := "(I)I" } : Jvm.MethodName)) ∈ GW := gw 519 (by decide +kernel) rfl
theorem q520 : (Jvm.Cond.code ({ cls := "LongSums", name := "high", desc := "(I)I" } : Jvm.MethodName) prog_1_method_23_code (4 : Nat) (Option.some Jvm.ClassFile.FieldType.int)) ∈ GW := gw 520 (by decide +kernel) rfl
theorem q522 : (Jvm.Cond.methodLink "LongSumsLaw" (117 : Nat) ({ cls := "LongSums", name := "bit", desc := "(II)I" } : Jvm.MethodName)) ∈ GW := gw 522 (by decide +kernel) rfl
theorem q523 : (Jvm.Cond.instanceMethod ({ cls := "LongSums", name := "bit", desc := "(II)I" } : Jvm.MethodName)) ∈ GW := gw 523 (by decide +kernel) rfl
theorem q524 : (Jvm.Cond.selects "LongSums" ({ cls := "LongSums", name := "bit", desc := "(II)I" } : Jvm.MethodName) ({ cls := "LongSums", name := "bit", desc := "(II)I" } : Jvm.MethodName)) ∈ GW := gw 524 (by decide +kernel) rfl
theorem q525 : (Jvm.Cond.code ({ cls := "LongSums", name := "bit", desc := "(II)I" } : Jvm.MethodName) prog_1_method_24_code (4 : Nat) (Option.some Jvm.ClassFile.FieldType.int)) ∈ GW := gw 525 (by decide +kernel) rfl
theorem q527 : (Jvm.Cond.methodLink "LongSumsLaw" (121 : Nat) ({ cls := "LongSums", name := "order", desc := "(II)I" } : Jvm.MethodName)) ∈ GW := gw 527 (by decide +kernel) rfl
theorem q528 : (Jvm.Cond.instanceMethod ({ cls := "LongSums", name := "order", desc := "(II)I" } : Jvm.MethodName)) ∈ GW := gw 528 (by decide +kernel) rfl
theorem q529 : (Jvm.Cond.selects "LongSums" ({ cls := "LongSums", name := "order", desc := "(II)I" } : Jvm.MethodName) ({ cls := "LongSums", name := "order", desc := "(II)I" } : Jvm.MethodName)) ∈ GW := gw 529 (by decide +kernel) rfl
theorem q530 : (Jvm.Cond.code ({ cls := "LongSums", name := "order", desc := "(II)I" } : Jvm.MethodName) prog_1_method_25_code (6 : Nat) (Option.some Jvm.ClassFile.FieldType.int)) ∈ GW := gw 530 (by decide +kernel) rfl
theorem q535 : (Jvm.Cond.methodLink "LongSumsLaw" (125 : Nat) ({ cls := "LongSums", name := "undo", desc := "()I" } : Jvm.MethodName)) ∈ GW := gw 535 (by decide +kernel) rfl
theorem q536 : (Jvm.Cond.instanceMethod ({ cls := "LongSums", name := "undo", desc := "()I" } : Jvm.MethodName)) ∈ GW := gw 536 (by decide +kernel) rfl
theorem q537 : (Jvm.Cond.selects "LongSums" ({ cls := "LongSums", name := "undo", desc := "()I" } : Jvm.MethodName) ({ cls := "LongSums", name := "undo", desc := "()I" } : Jvm.MethodName)) ∈ GW := gw 537 (by decide +kernel) rfl
theorem q538 : (Jvm.Cond.code ({ cls := "LongSums", name := "undo", desc := "()I" } : Jvm.MethodName) prog_1_method_26_code (2 : Nat) (Option.some Jvm.ClassFile.FieldType.int)) ∈ GW := gw 538 (by decide +kernel) rfl
theorem q547 : (Jvm.Cond.methodLink "LongSumsLaw" (130 : Nat) ({ cls := "LongSums", name := "count", desc := "(I)I" } : Jvm.MethodName)) ∈ GW := gw 547 (by decide +kernel) rfl
theorem q548 : (Jvm.Cond.instanceMethod ({ cls := "LongSums", name := "count", desc := "(I)I" } : Jvm.MethodName)) ∈ GW := gw 548 (by decide +kernel) rfl
theorem q549 : (Jvm.Cond.selects "LongSums" ({ cls := "LongSums", name := "count", desc := "(I)I" } : Jvm.MethodName) ({ cls := "LongSums", name := "count", desc := "(I)I" } : Jvm.MethodName)) ∈ GW := gw 549 (by decide +kernel) rfl
theorem q550 : (Jvm.Cond.code ({ cls := "LongSums", name := "count", desc := "(I)I" } : Jvm.MethodName) prog_1_method_27_code (2 : Nat) (Option.some Jvm.ClassFile.FieldType.int)) ∈ GW := gw 550 (by decide +kernel) rfl
theorem q640 : (Jvm.Cond.methodLink "LongSumsLaw" (17 : Nat) ({ cls := "LongSumsModel", name := "row", desc := "(III)I" } : Jvm.MethodName)) ∈ GW := gw 640 (by decide +kernel) rfl
theorem q641 : (Jvm.Cond.instanceMethod ({ cls := "LongSumsModel", name := "row", desc := "(III)I" } : Jvm.MethodName)) ∈ GW := gw 641 (by decide +kernel) rfl
theorem q642 : (Jvm.Cond.selects "LongSumsModel" ({ cls := "LongSumsModel", name := "row", desc := "(III)I" } : Jvm.MethodName) ({ cls := "LongSumsModel", name := "row", desc := "(III)I" } : Jvm.MethodName)) ∈ GW := gw 642 (by decide +kernel) rfl
theorem q643 : (Jvm.Cond.code ({ cls := "LongSumsModel", name := "row", desc := "(III)I" } : Jvm.MethodName) prog_7_method_9_code (5 : Nat) (Option.some Jvm.ClassFile.FieldType.int)) ∈ GW := gw 643 (by decide +kernel) rfl
theorem q652 : (Jvm.Cond.methodLink "LongSumsLaw" (22 : Nat) ({ cls := "LongSumsModel", name := "lose", desc := "(I)I" } : Jvm.MethodName)) ∈ GW := gw 652 (by decide +kernel) rfl
theorem q653 : (Jvm.Cond.instanceMethod ({ cls := "LongSumsModel", name := "lose", desc := "(I)I" } : Jvm.MethodName)) ∈ GW := gw 653 (by decide +kernel) rfl
theorem q654 : (Jvm.Cond.selects "LongSumsModel" ({ cls := "LongSumsModel", name := "lose", desc := "(I)I" } : Jvm.MethodName) ({ cls := "LongSumsModel", name := "lose", desc := "(I)I" } : Jvm.MethodName)) ∈ GW := gw 654 (by decide +kernel) rfl
theorem q655 : (Jvm.Cond.code ({ cls := "LongSumsModel", name := "lose", desc := "(I)I" } : Jvm.MethodName) prog_7_method_10_code (3 : Nat) (Option.some Jvm.ClassFile.FieldType.int)) ∈ GW := gw 655 (by decide +kernel) rfl
theorem q660 : (Jvm.Cond.methodLink "LongSumsLaw" (29 : Nat) ({ cls := "LongSumsModel", name := "put", desc := "(IIJI)I" } : Jvm.MethodName)) ∈ GW := gw 660 (by decide +kernel) rfl
theorem q661 : (Jvm.Cond.instanceMethod ({ cls := "LongSumsModel", name := "put", desc := "(IIJI)I" } : Jvm.MethodName)) ∈ GW := gw 661 (by decide +kernel) rfl
theorem q662 : (Jvm.Cond.selects "LongSumsModel" ({ cls := "LongSumsModel", name := "put", desc := "(IIJI)I" } : Jvm.MethodName) ({ cls := "LongSumsModel", name := "put", desc := "(IIJI)I" } : Jvm.MethodName)) ∈ GW := gw 662 (by decide +kernel) rfl
theorem q663 : (Jvm.Cond.code ({ cls := "LongSumsModel", name := "put", desc := "(IIJI)I" } : Jvm.MethodName) prog_7_method_12_code (7 : Nat) (Option.some Jvm.ClassFile.FieldType.int)) ∈ GW := gw 663 (by decide +kernel) rfl
theorem q682 : (Jvm.Cond.methodLink "LongSumsLaw" (33 : Nat) ({ cls := "LongSumsModel", name := "mark", desc := "(III)I" } : Jvm.MethodName)) ∈ GW := gw 682 (by decide +kernel) rfl
theorem q683 : (Jvm.Cond.instanceMethod ({ cls := "LongSumsModel", name := "mark", desc := "(III)I" } : Jvm.MethodName)) ∈ GW := gw 683 (by decide +kernel) rfl
theorem q684 : (Jvm.Cond.selects "LongSumsModel" ({ cls := "LongSumsModel", name := "mark", desc := "(III)I" } : Jvm.MethodName) ({ cls := "LongSumsModel", name := "mark", desc := "(III)I" } : Jvm.MethodName)) ∈ GW := gw 684 (by decide +kernel) rfl
theorem q685 : (Jvm.Cond.code ({ cls := "LongSumsModel", name := "mark", desc := "(III)I" } : Jvm.MethodName) prog_7_method_14_code (6 : Nat) (Option.some Jvm.ClassFile.FieldType.int)) ∈ GW := gw 685 (by decide +kernel) rfl
theorem q692 : (Jvm.Cond.methodLink "LongSumsLaw" (38 : Nat) ({ cls := "LongSumsModel", name := "copy", desc := "(IIIII)I" } : Jvm.MethodName)) ∈ GW := gw 692 (by decide +kernel) rfl
theorem q693 : (Jvm.Cond.instanceMethod ({ cls := "LongSumsModel", name := "copy", desc := "(IIIII)I" } : Jvm.MethodName)) ∈ GW := gw 693 (by decide +kernel) rfl
theorem q694 : (Jvm.Cond.selects "LongSumsModel" ({ cls := "LongSumsModel", name := "copy", desc := "(IIIII)I" } : Jvm.MethodName) ({ cls := "LongSumsModel", name := "copy", desc := "(IIIII)I" } : Jvm.MethodName)) ∈ GW := gw 694 (by decide +kernel) rfl
theorem q695 : (Jvm.Cond.code ({ cls := "LongSumsModel", name := "copy", desc := "(IIIII)I" } : Jvm.MethodName) prog_7_method_15_code (10 : Nat) (Option.some Jvm.ClassFile.FieldType.int)) ∈ GW := gw 695 (by decide +kernel) rfl
theorem q700 : (Jvm.Cond.methodLink "LongSumsLaw" (43 : Nat) ({ cls := "LongSumsModel", name := "look", desc := "(III)J" } : Jvm.MethodName)) ∈ GW := gw 700 (by decide +kernel) rfl
theorem q701 : (Jvm.Cond.instanceMethod ({ cls := "LongSumsModel", name := "look", desc := "(III)J" } : Jvm.MethodName)) ∈ GW := gw 701 (by decide +kernel) rfl
theorem q702 : (Jvm.Cond.selects "LongSumsModel" ({ cls := "LongSumsModel", name := "look", desc := "(III)J" } : Jvm.MethodName) ({ cls := "LongSumsModel", name := "look", desc := "(III)J" } : Jvm.MethodName)) ∈ GW := gw 702 (by decide +kernel) rfl
theorem q703 : (Jvm.Cond.code ({ cls := "LongSumsModel", name := "look", desc := "(III)J" } : Jvm.MethodName) prog_7_method_16_code (4 : Nat) (Option.some Jvm.ClassFile.FieldType.long)) ∈ GW := gw 703 (by decide +kernel) rfl
theorem q709 : (Jvm.Cond.methodLink "LongSumsLaw" (48 : Nat) ({ cls := "LongSumsModel", name := "see", desc := "(II)D" } : Jvm.MethodName)) ∈ GW := gw 709 (by decide +kernel) rfl
theorem q710 : (Jvm.Cond.instanceMethod ({ cls := "LongSumsModel", name := "see", desc := "(II)D" } : Jvm.MethodName)) ∈ GW := gw 710 (by decide +kernel) rfl
theorem q711 : (Jvm.Cond.selects "LongSumsModel" ({ cls := "LongSumsModel", name := "see", desc := "(II)D" } : Jvm.MethodName) ({ cls := "LongSumsModel", name := "see", desc := "(II)D" } : Jvm.MethodName)) ∈ GW := gw 711 (by decide +kernel) rfl
theorem q712 : (Jvm.Cond.code ({ cls := "LongSumsModel", name := "see", desc := "(II)D" } : Jvm.MethodName) prog_7_method_18_code (3 : Nat) (Option.some Jvm.ClassFile.FieldType.double)) ∈ GW := gw 712 (by decide +kernel) rfl
theorem q719 : (Jvm.Cond.methodLink "LongSumsLaw" (55 : Nat) ({ cls := "LongSumsModel", name := "compare", desc := "(IID)I" } : Jvm.MethodName)) ∈ GW := gw 719 (by decide +kernel) rfl
theorem q720 : (Jvm.Cond.instanceMethod ({ cls := "LongSumsModel", name := "compare", desc := "(IID)I" } : Jvm.MethodName)) ∈ GW := gw 720 (by decide +kernel) rfl
theorem q721 : (Jvm.Cond.selects "LongSumsModel" ({ cls := "LongSumsModel", name := "compare", desc := "(IID)I" } : Jvm.MethodName) ({ cls := "LongSumsModel", name := "compare", desc := "(IID)I" } : Jvm.MethodName)) ∈ GW := gw 721 (by decide +kernel) rfl
theorem q722 : (Jvm.Cond.code ({ cls := "LongSumsModel", name := "compare", desc := "(IID)I" } : Jvm.MethodName) prog_7_method_19_code (8 : Nat) (Option.some Jvm.ClassFile.FieldType.int)) ∈ GW := gw 722 (by decide +kernel) rfl
theorem q723 : (Jvm.Cond.methodLink "LongSumsLaw" (129 : Nat) ({ cls := "LongSumsModel", name := "undo", desc := "()I" } : Jvm.MethodName)) ∈ GW := gw 723 (by decide +kernel) rfl
theorem q724 : (Jvm.Cond.instanceMethod ({ cls := "LongSumsModel", name := "undo", desc := "()I" } : Jvm.MethodName)) ∈ GW := gw 724 (by decide +kernel) rfl
theorem q725 : (Jvm.Cond.selects "LongSumsModel" ({ cls := "LongSumsModel", name := "undo", desc := "()I" } : Jvm.MethodName) ({ cls := "LongSumsModel", name := "undo", desc := "()I" } : Jvm.MethodName)) ∈ GW := gw 725 (by decide +kernel) rfl
theorem q726 : (Jvm.Cond.code ({ cls := "LongSumsModel", name := "undo", desc := "()I" } : Jvm.MethodName) prog_7_method_22_code (4 : Nat) (Option.some Jvm.ClassFile.FieldType.int)) ∈ GW := gw 726 (by decide +kernel) rfl
theorem q727 : (Jvm.Cond.methodLink "LongSumsLaw" (60 : Nat) ({ cls := "LongSumsModel", name := "keeper", desc := "(II)I" } : Jvm.MethodName)) ∈ GW := gw 727 (by decide +kernel) rfl
theorem q728 : (Jvm.Cond.instanceMethod ({ cls := "LongSumsModel", name := "keeper", desc := "(II)I" } : Jvm.MethodName)) ∈ GW := gw 728 (by decide +kernel) rfl
theorem q729 : (Jvm.Cond.selects "LongSumsModel" ({ cls := "LongSumsModel", name := "keeper", desc := "(II)I" } : Jvm.MethodName) ({ cls := "LongSumsModel", name := "keeper", desc := "(II)I" } : Jvm.MethodName)) ∈ GW := gw 729 (by decide +kernel) rfl
theorem q730 : (Jvm.Cond.code ({ cls := "LongSumsModel", name := "keeper", desc := "(II)I" } : Jvm.MethodName) prog_7_method_24_code (3 : Nat) (Option.some Jvm.ClassFile.FieldType.int)) ∈ GW := gw 730 (by decide +kernel) rfl
theorem q743 : (Jvm.Cond.methodLink "LongSumsLaw" (65 : Nat) ({ cls := "LongSumsModel", name := "add", desc := "(IIII)I" } : Jvm.MethodName)) ∈ GW := gw 743 (by decide +kernel) rfl
theorem q744 : (Jvm.Cond.instanceMethod ({ cls := "LongSumsModel", name := "add", desc := "(IIII)I" } : Jvm.MethodName)) ∈ GW := gw 744 (by decide +kernel) rfl
theorem q745 : (Jvm.Cond.selects "LongSumsModel" ({ cls := "LongSumsModel", name := "add", desc := "(IIII)I" } : Jvm.MethodName) ({ cls := "LongSumsModel", name := "add", desc := "(IIII)I" } : Jvm.MethodName)) ∈ GW := gw 745 (by decide +kernel) rfl
theorem q746 : (Jvm.Cond.code ({ cls := "LongSumsModel", name := "add", desc := "(IIII)I" } : Jvm.MethodName) prog_7_method_37_code (8 : Nat) (Option.some Jvm.ClassFile.FieldType.int)) ∈ GW := gw 746 (by decide +kernel) rfl
theorem q804 : (Jvm.Cond.methodLink "LongSumsLaw" (69 : Nat) ({ cls := "LongSumsModel", name := "pair", desc := "(IIIII)I" } : Jvm.MethodName)) ∈ GW := gw 804 (by decide +kernel) rfl
theorem q805 : (Jvm.Cond.instanceMethod ({ cls := "LongSumsModel", name := "pair", desc := "(IIIII)I" } : Jvm.MethodName)) ∈ GW := gw 805 (by decide +kernel) rfl
theorem q806 : (Jvm.Cond.selects "LongSumsModel" ({ cls := "LongSumsModel", name := "pair", desc := "(IIIII)I" } : Jvm.MethodName) ({ cls := "LongSumsModel", name := "pair", desc := "(IIIII)I" } : Jvm.MethodName)) ∈ GW := gw 806 (by decide +kernel) rfl
theorem q807 : (Jvm.Cond.code ({ cls := "LongSumsModel", name := "pair", desc := "(IIIII)I" } : Jvm.MethodName) prog_7_method_38_code (8 : Nat) (Option.some Jvm.ClassFile.FieldType.int)) ∈ GW := gw 807 (by decide +kernel) rfl
theorem q808 : (Jvm.Cond.methodLink "LongSumsLaw" (73 : Nat) ({ cls := "LongSumsModel", name := "merge", desc := "(II)I" } : Jvm.MethodName)) ∈ GW := gw 808 (by decide +kernel) rfl
theorem q809 : (Jvm.Cond.instanceMethod ({ cls := "LongSumsModel", name := "merge", desc := "(II)I" } : Jvm.MethodName)) ∈ GW := gw 809 (by decide +kernel) rfl
theorem q810 : (Jvm.Cond.selects "LongSumsModel" ({ cls := "LongSumsModel", name := "merge", desc := "(II)I" } : Jvm.MethodName) ({ cls := "LongSumsModel", name := "merge", desc := "(II)I" } : Jvm.MethodName)) ∈ GW := gw 810 (by decide +kernel) rfl
theorem q811 : (Jvm.Cond.code ({ cls := "LongSumsModel", name := "merge", desc := "(II)I" } : Jvm.MethodName) prog_7_method_39_code (6 : Nat) (Option.some Jvm.ClassFile.FieldType.int)) ∈ GW := gw 811 (by decide +kernel) rfl
theorem q812 : (Jvm.Cond.methodLink "LongSumsLaw" (77 : Nat) ({ cls := "LongSumsModel", name := "clear", desc := "(I)I" } : Jvm.MethodName)) ∈ GW := gw 812 (by decide +kernel) rfl
theorem q813 : (Jvm.Cond.instanceMethod ({ cls := "LongSumsModel", name := "clear", desc := "(I)I" } : Jvm.MethodName)) ∈ GW := gw 813 (by decide +kernel) rfl
theorem q814 : (Jvm.Cond.selects "LongSumsModel" ({ cls := "LongSumsModel", name := "clear", desc := "(I)I" } : Jvm.MethodName) ({ cls := "LongSumsModel", name := "clear", desc := "(I)I" } : Jvm.MethodName)) ∈ GW := gw 814 (by decide +kernel) rfl
theorem q815 : (Jvm.Cond.code ({ cls := "LongSumsModel", name := "clear", desc := "(I)I" } : Jvm.MethodName) prog_7_method_40_code (2 : Nat) (Option.some Jvm.ClassFile.FieldType.int)) ∈ GW := gw 815 (by decide +kernel) rfl
theorem q816 : (Jvm.Cond.methodLink "LongSumsLaw" (81 : Nat) ({ cls := "LongSumsModel", name := "error", desc := "(IIII)I" } : Jvm.MethodName)) ∈ GW := gw 816 (by decide +kernel) rfl
theorem q817 : (Jvm.Cond.instanceMethod ({ cls := "LongSumsModel", name := "error", desc := "(IIII)I" } : Jvm.MethodName)) ∈ GW := gw 817 (by decide +kernel) rfl
theorem q818 : (Jvm.Cond.selects "LongSumsModel" ({ cls := "LongSumsModel", name := "error", desc := "(IIII)I" } : Jvm.MethodName) ({ cls := "LongSumsModel", name := "error", desc := "(IIII)I" } : Jvm.MethodName)) ∈ GW := gw 818 (by decide +kernel) rfl
theorem q819 : (Jvm.Cond.code ({ cls := "LongSumsModel", name := "error", desc := "(IIII)I" } : Jvm.MethodName) prog_7_method_42_code (7 : Nat) (Option.some Jvm.ClassFile.FieldType.int)) ∈ GW := gw 819 (by decide +kernel) rfl
theorem q824 : (Jvm.Cond.methodLink "LongSumsLaw" (86 : Nat) ({ cls := "LongSumsModel", name := "plain", desc := "(III)D" } : Jvm.MethodName)) ∈ GW := gw 824 (by decide +kernel) rfl
theorem q825 : (Jvm.Cond.instanceMethod ({ cls := "LongSumsModel", name := "plain", desc := "(III)D" } : Jvm.MethodName)) ∈ GW := gw 825 (by decide +kernel) rfl
theorem q826 : (Jvm.Cond.selects "LongSumsModel" ({ cls := "LongSumsModel", name := "plain", desc := "(III)D" } : Jvm.MethodName) ({ cls := "LongSumsModel", name := "plain", desc := "(III)D" } : Jvm.MethodName)) ∈ GW := gw 826 (by decide +kernel) rfl
theorem q827 : (Jvm.Cond.code ({ cls := "LongSumsModel", name := "plain", desc := "(III)D" } : Jvm.MethodName) prog_7_method_43_code (4 : Nat) (Option.some Jvm.ClassFile.FieldType.double)) ∈ GW := gw 827 (by decide +kernel) rfl
theorem q828 : (Jvm.Cond.methodLink "LongSumsLaw" (90 : Nat) ({ cls := "LongSumsModel", name := "sort", desc := "(I)I" } : Jvm.MethodName)) ∈ GW := gw 828 (by decide +kernel) rfl
theorem q829 : (Jvm.Cond.instanceMethod ({ cls := "LongSumsModel", name := "sort", desc := "(I)I" } : Jvm.MethodName)) ∈ GW := gw 829 (by decide +kernel) rfl
theorem q830 : (Jvm.Cond.selects "LongSumsModel" ({ cls := "LongSumsModel", name := "sort", desc := "(I)I" } : Jvm.MethodName) ({ cls := "LongSumsModel", name := "sort", desc := "(I)I" } : Jvm.MethodName)) ∈ GW := gw 830 (by decide +kernel) rfl
theorem q831 : (Jvm.Cond.code ({ cls := "LongSumsModel", name := "sort", desc := "(I)I" } : Jvm.MethodName) prog_7_method_45_code (2 : Nat) (Option.some Jvm.ClassFile.FieldType.int)) ∈ GW := gw 831 (by decide +kernel) rfl
theorem q836 : (Jvm.Cond.methodLink "LongSumsLaw" (94 : Nat) ({ cls := "LongSumsModel", name := "seen", desc := "(II)I" } : Jvm.MethodName)) ∈ GW := gw 836 (by decide +kernel) rfl
theorem q837 : (Jvm.Cond.instanceMethod ({ cls := "LongSumsModel", name := "seen", desc := "(II)I" } : Jvm.MethodName)) ∈ GW := gw 837 (by decide +kernel) rfl
theorem q838 : (Jvm.Cond.selects "LongSumsModel" ({ cls := "LongSumsModel", name := "seen", desc := "(II)I" } : Jvm.MethodName) ({ cls := "LongSumsModel", name := "seen", desc := "(II)I" } : Jvm.MethodName)) ∈ GW := gw 838 (by decide +kernel) rfl
theorem q839 : (Jvm.Cond.code ({ cls := "LongSumsModel", name := "seen", desc := "(II)I" } : Jvm.MethodName) prog_7_method_46_code (3 : Nat) (Option.some Jvm.ClassFile.FieldType.int)) ∈ GW := gw 839 (by decide +kernel) rfl
theorem q840 : (Jvm.Cond.methodLink "LongSumsLaw" (99 : Nat) ({ cls := "LongSumsModel", name := "tell", desc := "(IIZ)D" } : Jvm.MethodName)) ∈ GW := gw 840 (by decide +kernel) rfl
theorem q841 : (Jvm.Cond.instanceMethod ({ cls := "LongSumsModel", name := "tell", desc := "(IIZ)D" } : Jvm.MethodName)) ∈ GW := gw 841 (by decide +kernel) rfl
theorem q842 : (Jvm.Cond.selects "LongSumsModel" ({ cls := "LongSumsModel", name := "tell", desc := "(IIZ)D" } : Jvm.MethodName) ({ cls := "LongSumsModel", name := "tell", desc := "(IIZ)D" } : Jvm.MethodName)) ∈ GW := gw 842 (by decide +kernel) rfl
theorem q843 : (Jvm.Cond.code ({ cls := "LongSumsModel", name := "tell", desc := "(IIZ)D" } : Jvm.MethodName) prog_7_method_52_code (5 : Nat) (Option.some Jvm.ClassFile.FieldType.double)) ∈ GW := gw 843 (by decide +kernel) rfl
theorem q864 : (Jvm.Cond.methodLink "LongSumsLaw" (103 : Nat) ({ cls := "LongSumsModel", name := "mean", desc := "(III)D" } : Jvm.MethodName)) ∈ GW := gw 864 (by decide +kernel) rfl
theorem q865 : (Jvm.Cond.instanceMethod ({ cls := "LongSumsModel", name := "mean", desc := "(III)D" } : Jvm.MethodName)) ∈ GW := gw 865 (by decide +kernel) rfl
theorem q866 : (Jvm.Cond.selects "LongSumsModel" ({ cls := "LongSumsModel", name := "mean", desc := "(III)D" } : Jvm.MethodName) ({ cls := "LongSumsModel", name := "mean", desc := "(III)D" } : Jvm.MethodName)) ∈ GW := gw 866 (by decide +kernel) rfl
theorem q867 : (Jvm.Cond.code ({ cls := "LongSumsModel", name := "mean", desc := "(III)D" } : Jvm.MethodName) prog_7_method_53_code (10 : Nat) (Option.some Jvm.ClassFile.FieldType.double)) ∈ GW := gw 867 (by decide +kernel) rfl
theorem q869 : (Jvm.Cond.methodLink "LongSumsLaw" (108 : Nat) ({ cls := "LongSumsModel", name := "length", desc := "(IZ)D" } : Jvm.MethodName)) ∈ GW := gw 869 (by decide +kernel) rfl
theorem q870 : (Jvm.Cond.instanceMethod ({ cls := "LongSumsModel", name := "length", desc := "(IZ)D" } : Jvm.MethodName)) ∈ GW := gw 870 (by decide +kernel) rfl
theorem q871 : (Jvm.Cond.selects "LongSumsModel" ({ cls := "LongSumsModel", name := "length", desc := "(IZ)D" } : Jvm.MethodName) ({ cls := "LongSumsModel", name := "length", desc := "(IZ)D" } : Jvm.MethodName)) ∈ GW := gw 871 (by decide +kernel) rfl
theorem q872 : (Jvm.Cond.code ({ cls := "LongSumsModel", name := "length", desc := "(IZ)D" } : Jvm.MethodName) prog_7_method_56_code (12 : Nat) (Option.some Jvm.ClassFile.FieldType.double)) ∈ GW := gw 872 (by decide +kernel) rfl
theorem q884 : (Jvm.Cond.methodLink "LongSumsLaw" (112 : Nat) ({ cls := "LongSumsModel", name := "sign", desc := "(I)I" } : Jvm.MethodName)) ∈ GW := gw 884 (by decide +kernel) rfl
theorem q885 : (Jvm.Cond.instanceMethod ({ cls := "LongSumsModel", name := "sign", desc := "(I)I" } : Jvm.MethodName)) ∈ GW := gw 885 (by decide +kernel) rfl
theorem q886 : (Jvm.Cond.selects "LongSumsModel" ({ cls := "LongSumsModel", name := "sign", desc := "(I)I" } : Jvm.MethodName) ({ cls := "LongSumsModel", name := "sign", desc := "(I)I" } : Jvm.MethodName)) ∈ GW := gw 886 (by decide +kernel) rfl
theorem q887 : (Jvm.Cond.code ({ cls := "LongSumsModel", name := "sign", desc := "(I)I" } : Jvm.MethodName) prog_7_method_57_code (2 : Nat) (Option.some Jvm.ClassFile.FieldType.int)) ∈ GW := gw 887 (by decide +kernel) rfl
theorem q888 : (Jvm.Cond.methodLink "LongSumsLaw" (116 : Nat) ({ cls := "LongSumsModel", name := "high", desc := "(I)I" } : Jvm.MethodName)) ∈ GW := gw 888 (by decide +kernel) rfl
theorem q889 : (Jvm.Cond.instanceMethod ({ cls := "LongSumsModel", name := "high", desc := "(I)I" } : Jvm.MethodName)) ∈ GW := gw 889 (by decide +kernel) rfl
theorem q890 : (Jvm.Cond.selects "LongSumsModel" ({ cls := "LongSumsModel", name := "high", desc := "(I)I" } : Jvm.MethodName) ({ cls := "LongSumsModel", name := "high", desc := "(I)I" } : Jvm.MethodName)) ∈ GW := gw 890 (by decide +kernel) rfl
theorem q891 : (Jvm.Cond.code ({ cls := "LongSumsModel", name := "high", desc := "(I)I" } : Jvm.MethodName) prog_7_method_58_code (3 : Nat) (Option.some Jvm.ClassFile.FieldType.int)) ∈ GW := gw 891 (by decide +kernel) rfl
theorem q892 : (Jvm.Cond.methodLink "LongSumsLaw" (120 : Nat) ({ cls := "LongSumsModel", name := "bit", desc := "(II)I" } : Jvm.MethodName)) ∈ GW := gw 892 (by decide +kernel) rfl
theorem q893 : (Jvm.Cond.instanceMethod ({ cls := "LongSumsModel", name := "bit", desc := "(II)I" } : Jvm.MethodName)) ∈ GW := gw 893 (by decide +kernel) rfl
theorem q894 : (Jvm.Cond.selects "LongSumsModel" ({ cls := "LongSumsModel", name := "bit", desc := "(II)I" } : Jvm.MethodName) ({ cls := "LongSumsModel", name := "bit", desc := "(II)I" } : Jvm.MethodName)) ∈ GW := gw 894 (by decide +kernel) rfl
theorem q895 : (Jvm.Cond.code ({ cls := "LongSumsModel", name := "bit", desc := "(II)I" } : Jvm.MethodName) prog_7_method_59_code (3 : Nat) (Option.some Jvm.ClassFile.FieldType.int)) ∈ GW := gw 895 (by decide +kernel) rfl
theorem q898 : (Jvm.Cond.methodLink "LongSumsLaw" (124 : Nat) ({ cls := "LongSumsModel", name := "order", desc := "(II)I" } : Jvm.MethodName)) ∈ GW := gw 898 (by decide +kernel) rfl
theorem q899 : (Jvm.Cond.instanceMethod ({ cls := "LongSumsModel", name := "order", desc := "(II)I" } : Jvm.MethodName)) ∈ GW := gw 899 (by decide +kernel) rfl
theorem q900 : (Jvm.Cond.selects "LongSumsModel" ({ cls := "LongSumsModel", name := "order", desc := "(II)I" } : Jvm.MethodName) ({ cls := "LongSumsModel", name := "order", desc := "(II)I" } : Jvm.MethodName)) ∈ GW := gw 900 (by decide +kernel) rfl
theorem q901 : (Jvm.Cond.code ({ cls := "LongSumsModel", name := "order", desc := "(II)I" } : Jvm.MethodName) prog_7_method_60_code (6 : Nat) (Option.some Jvm.ClassFile.FieldType.int)) ∈ GW := gw 901 (by decide +kernel) rfl
theorem q902 : (Jvm.Cond.methodLink "LongSumsLaw" (133 : Nat) ({ cls := "LongSumsModel", name := "count", desc := "(I)I" } : Jvm.MethodName)) ∈ GW := gw 902 (by decide +kernel) rfl
theorem q903 : (Jvm.Cond.instanceMethod ({ cls := "LongSumsModel", name := "count", desc := "(I)I" } : Jvm.MethodName)) ∈ GW := gw 903 (by decide +kernel) rfl
theorem q904 : (Jvm.Cond.selects "LongSumsModel" ({ cls := "LongSumsModel", name := "count", desc := "(I)I" } : Jvm.MethodName) ({ cls := "LongSumsModel", name := "count", desc := "(I)I" } : Jvm.MethodName)) ∈ GW := gw 904 (by decide +kernel) rfl
theorem q905 : (Jvm.Cond.code ({ cls := "LongSumsModel", name := "count", desc := "(I)I" } : Jvm.MethodName) prog_7_method_61_code (4 : Nat) (Option.some Jvm.ClassFile.FieldType.int)) ∈ GW := gw 905 (by decide +kernel) rfl
theorem q906 : (Jvm.Cond.constantLong "LongSumsLaw" (23 : Nat) (4294967295 : Int64)) ∈ GW := gw 906 (by decide +kernel) rfl
theorem q907 : (Jvm.Cond.constantDouble "LongSumsLaw" (49 : Nat) (4593671619917905920 : UInt64)) ∈ GW := gw 907 (by decide +kernel) rfl
theorem u_125 : (4593671619917905920 : UInt64) = U false (2 ^ 1071) := by
  have h : FP.Core.val64 (4593671619917905920 : UInt64) = .fin false (2 ^ 52) (-55) := by decide +kernel
  rw [(u_of h).1, show ((-55 : Int) + 1074).toNat = 1019 by decide, ← Nat.pow_add]
theorem u_i2d (a : Int32) : FP.i2d a = U (decide (a.toInt < 0)) (a.toInt.natAbs * 2 ^ 1074) := by
  have e : FP.i2d a = dv (decide (a.toInt < 0)) a.toInt.natAbs 0 := rfl
  rw [e, dv_U (by decide)]; rfl
theorem eighth (a : Int32) : vf_n64 (FP.dmul (FP.i2d a) (4593671619917905920 : UInt64)) ∧ nn (FP.dmul (FP.i2d a) (4593671619917905920 : UInt64)) := by
  have hb := ib a
  have e : FP.dmul (FP.i2d a) (4593671619917905920 : UInt64) = U (decide (a.toInt < 0)) (a.toInt.natAbs * 2 ^ 1071) := by
    rw [u_125, u_i2d, u_mulPow (rn_of (by omega) (by decide)) (by decide) (r := a.toInt.natAbs * 2 ^ 1071)]
    rw [Nat.mul_right_comm]
  rw [e]
  exact ⟨u_vf _ _, nn_U _ _⟩
theorem lcmp_rf (x : Int64) : lg_cmp x x = 0 := by
  unfold lg_cmp
  simp
section LAW
variable {p : Program} {e : Env} {s : State} {m : MethodId} {below : List Frame} {meth : Method} {c : Code} {l : Launch} {D : va_G} {cA : Nat → ClassId} {b L : Nat} {xs : Nat → Int32}
theorem w_case0 (X : Cx p room_1 s m #[Value.ref b] meth c cL_law 8 RL D cA (fun q => s.heap.size ≤ q)) (hX : va_X b L xs s s.heap) (hbl : b < s.heap.size) (hL : L ≤ 3072) {i N : Nat} {A : AS} {σ τ : St} (hi : i + 6 ≤ L) (hN : N ≤ 512) (ho : OK N A) (hC : RC A σ) (hR : RR A τ)
    (IH : ∀ (A' : AS) (σ' τ' : St), OK (N + 1) A' → RC A' σ' → RR A' τ' → G p l e room_1 s m #[Value.ref b] below meth c 8 D cA (fun q => s.heap.size ≤ q) (lw_Z below #[Value.ref b] s) 133 9561 (fun ad => ad 1000 = b) shB (cat σ' τ') [(3, .int (nI i)), (2, .ref 118), (1, .ref 0), (0, .ref 1000)] 1333 []) : G p l e room_1 s m #[Value.ref b] below meth c 8 D cA (fun q => s.heap.size ≤ q) (lw_Z below #[Value.ref b] s) 133 9561 (fun ad => ad 1000 = b) shB (cat σ τ) [(3, .int (nI i)), (2, .ref 118), (1, .ref 0), (0, .ref 1000)] 152 [] := by
  have hbA : ¬ s.heap.size ≤ b := by omega
  have hln := hC.ln
  refine g_aload_n X 2 dL_law_152 rfl rfl ?_
  refine g_aload_n X 3 dL_law_153 rfl rfl ?_
  refine g_iload_n X 0 dL_law_154 rfl rfl ?_
  refine g_iconst X (1 : Int32) dL_law_155 (by decide) ?_
  refine g_iadd X dL_law_156 ?_
  refine l_sld X hX hbl hbA dL_law_157 (nI_add i 1) (by omega) (by omega) ?_
  refine g_aload_n X 3 dL_law_158 rfl rfl ?_
  refine g_iload_n X 0 dL_law_159 rfl rfl ?_
  refine g_iconst X (2 : Int32) dL_law_160 (by decide) ?_
  refine g_iadd X dL_law_161 ?_
  refine l_sld X hX hbl hbA dL_law_162 (nI_add i 2) (by omega) (by omega) ?_
  refine g_aload_n X 3 dL_law_163 rfl rfl ?_
  refine g_iload_n X 0 dL_law_164 rfl rfl ?_
  refine g_iconst X (3 : Int32) dL_law_165 (by decide) ?_
  refine g_iadd X dL_law_166 ?_
  refine l_sld X hX hbl hbA dL_law_167 (nI_add i 3) (by omega) (by omega) ?_
  refine l_callIC X (n := 3) (C := RX4) (Qp := fun r σ' => r = (t_row A (xs (i + 1)) (xs (i + 2)) (xs (i + 3))).1 ∧ RC (t_row A (xs (i + 1)) (xs (i + 2)) (xs (i + 3))).2 σ') [.int (xs (i + 1)), .int (xs (i + 2)), .int (xs (i + 3))] [] dL_law_168 (c_X4_row l D cA (s_rowC hC  (fun σ' h => ⟨rfl, h⟩))) q227 q228 q229 q47 q230 rfl ⟨rfl, by decide, by decide, by decide +kernel⟩ rfl ⟨trivial, ⟨trivial, ⟨trivial, trivial⟩⟩⟩ rfl (Nat.le_of_ble_eq_true rfl) rfl rfl ⟨(Nat.le_of_ble_eq_true rfl), (Nat.le_of_ble_eq_true rfl)⟩ (Nat.le_of_ble_eq_true rfl) (Nat.le_of_ble_eq_true rfl) (fun r1 σ1 h1 => ?_)
  refine g_aload_n X 1 dL_law_171 rfl rfl ?_
  refine g_aload_n X 3 dL_law_172 rfl rfl ?_
  refine g_iload_n X 0 dL_law_173 rfl rfl ?_
  refine g_iconst X (1 : Int32) dL_law_174 (by decide) ?_
  refine g_iadd X dL_law_175 ?_
  refine l_sld X hX hbl hbA dL_law_176 (nI_add i 1) (by omega) (by omega) ?_
  refine g_aload_n X 3 dL_law_177 rfl rfl ?_
  refine g_iload_n X 0 dL_law_178 rfl rfl ?_
  refine g_iconst X (2 : Int32) dL_law_179 (by decide) ?_
  refine g_iadd X dL_law_180 ?_
  refine l_sld X hX hbl hbA dL_law_181 (nI_add i 2) (by omega) (by omega) ?_
  refine g_aload_n X 3 dL_law_182 rfl rfl ?_
  refine g_iload_n X 0 dL_law_183 rfl rfl ?_
  refine g_iconst X (3 : Int32) dL_law_184 (by decide) ?_
  refine g_iadd X dL_law_185 ?_
  refine l_sld X hX hbl hbA dL_law_186 (nI_add i 3) (by omega) (by omega) ?_
  refine l_callIR X (n := 3) (C := RX5) (Qp := fun r σ' => r = (t_row A (xs (i + 1)) (xs (i + 2)) (xs (i + 3))).1 ∧ RR (t_row A (xs (i + 1)) (xs (i + 2)) (xs (i + 3))).2 σ') [.int (xs (i + 1)), .int (xs (i + 2)), .int (xs (i + 3))] [.int r1] dL_law_187 (c_X5_row l D cA (s_rowR hR  (fun σ' h => ⟨rfl, h⟩))) q640 q641 q642 q57 q643 rfl ⟨rfl, by decide, by decide, by decide +kernel⟩ rfl ⟨trivial, ⟨trivial, ⟨trivial, trivial⟩⟩⟩ rfl (Nat.le_of_ble_eq_true rfl) rfl rfl ⟨(Nat.le_of_ble_eq_true rfl), (Nat.le_of_ble_eq_true rfl)⟩ (Nat.le_of_ble_eq_true rfl) (Nat.le_of_ble_eq_true rfl) (fun r2 σ2 h2 => ?_)
  exact g_icmp_eq X 1333 dL_law_190 (by decide) (fun _ => IH _ _ _ (k_row ho) h1.2 h2.2) (fun z => absurd (h1.1.trans h2.1.symm) z)
theorem w_case1 (X : Cx p room_1 s m #[Value.ref b] meth c cL_law 8 RL D cA (fun q => s.heap.size ≤ q)) (hX : va_X b L xs s s.heap) (hbl : b < s.heap.size) (hL : L ≤ 3072) {i N : Nat} {A : AS} {σ τ : St} (hi : i + 6 ≤ L) (hN : N ≤ 512) (ho : OK N A) (hC : RC A σ) (hR : RR A τ)
    (IH : ∀ (A' : AS) (σ' τ' : St), OK (N + 1) A' → RC A' σ' → RR A' τ' → G p l e room_1 s m #[Value.ref b] below meth c 8 D cA (fun q => s.heap.size ≤ q) (lw_Z below #[Value.ref b] s) 133 9561 (fun ad => ad 1000 = b) shB (cat σ' τ') [(3, .int (nI i)), (2, .ref 118), (1, .ref 0), (0, .ref 1000)] 1333 []) : G p l e room_1 s m #[Value.ref b] below meth c 8 D cA (fun q => s.heap.size ≤ q) (lw_Z below #[Value.ref b] s) 133 9561 (fun ad => ad 1000 = b) shB (cat σ τ) [(3, .int (nI i)), (2, .ref 118), (1, .ref 0), (0, .ref 1000)] 195 [] := by
  have hbA : ¬ s.heap.size ≤ b := by omega
  have hln := hC.ln
  refine g_aload_n X 2 dL_law_195 rfl rfl ?_
  refine g_aload_n X 3 dL_law_196 rfl rfl ?_
  refine g_iload_n X 0 dL_law_197 rfl rfl ?_
  refine g_iconst X (1 : Int32) dL_law_198 (by decide) ?_
  refine g_iadd X dL_law_199 ?_
  refine l_sld X hX hbl hbA dL_law_200 (nI_add i 1) (by omega) (by omega) ?_
  refine l_callIC X (n := 1) (C := RX4) (Qp := fun r σ' => r = (t_lose A (xs (i + 1))).1 ∧ RC (t_lose A (xs (i + 1))).2 σ') [.int (xs (i + 1))] [] dL_law_201 (c_X4_lose l D cA (s_loseC hC  (fun σ' h => ⟨rfl, h⟩))) q234 q235 q236 q47 q237 rfl ⟨rfl, by decide, by decide, by decide +kernel⟩ rfl ⟨trivial, trivial⟩ rfl (Nat.le_of_ble_eq_true rfl) rfl rfl ⟨(Nat.le_of_ble_eq_true rfl), (Nat.le_of_ble_eq_true rfl)⟩ (Nat.le_of_ble_eq_true rfl) (Nat.le_of_ble_eq_true rfl) (fun r1 σ1 h1 => ?_)
  refine g_aload_n X 1 dL_law_204 rfl rfl ?_
  refine g_aload_n X 3 dL_law_205 rfl rfl ?_
  refine g_iload_n X 0 dL_law_206 rfl rfl ?_
  refine g_iconst X (1 : Int32) dL_law_207 (by decide) ?_
  refine g_iadd X dL_law_208 ?_
  refine l_sld X hX hbl hbA dL_law_209 (nI_add i 1) (by omega) (by omega) ?_
  refine l_callIR X (n := 1) (C := RX5) (Qp := fun r σ' => r = (t_lose A (xs (i + 1))).1 ∧ RR (t_lose A (xs (i + 1))).2 σ') [.int (xs (i + 1))] [.int r1] dL_law_210 (c_X5_lose l D cA (s_loseR hR  (fun σ' h => ⟨rfl, h⟩))) q652 q653 q654 q57 q655 rfl ⟨rfl, by decide, by decide, by decide +kernel⟩ rfl ⟨trivial, trivial⟩ rfl (Nat.le_of_ble_eq_true rfl) rfl rfl ⟨(Nat.le_of_ble_eq_true rfl), (Nat.le_of_ble_eq_true rfl)⟩ (Nat.le_of_ble_eq_true rfl) (Nat.le_of_ble_eq_true rfl) (fun r2 σ2 h2 => ?_)
  exact g_icmp_eq X 1333 dL_law_213 (by decide) (fun _ => IH _ _ _ (k_lose ho) h1.2 h2.2) (fun z => absurd (h1.1.trans h2.1.symm) z)
theorem w_case2 (X : Cx p room_1 s m #[Value.ref b] meth c cL_law 8 RL D cA (fun q => s.heap.size ≤ q)) (hX : va_X b L xs s s.heap) (hbl : b < s.heap.size) (hL : L ≤ 3072) {i N : Nat} {A : AS} {σ τ : St} (hi : i + 6 ≤ L) (hN : N ≤ 512) (ho : OK N A) (hC : RC A σ) (hR : RR A τ)
    (IH : ∀ (A' : AS) (σ' τ' : St), OK (N + 1) A' → RC A' σ' → RR A' τ' → G p l e room_1 s m #[Value.ref b] below meth c 8 D cA (fun q => s.heap.size ≤ q) (lw_Z below #[Value.ref b] s) 133 9561 (fun ad => ad 1000 = b) shB (cat σ' τ') [(3, .int (nI i)), (2, .ref 118), (1, .ref 0), (0, .ref 1000)] 1333 []) : G p l e room_1 s m #[Value.ref b] below meth c 8 D cA (fun q => s.heap.size ≤ q) (lw_Z below #[Value.ref b] s) 133 9561 (fun ad => ad 1000 = b) shB (cat σ τ) [(3, .int (nI i)), (2, .ref 118), (1, .ref 0), (0, .ref 1000)] 218 [] := by
  have hbA : ¬ s.heap.size ≤ b := by omega
  have hln := hC.ln
  refine g_aload_n X 2 dL_law_218 rfl rfl ?_
  refine g_aload_n X 3 dL_law_219 rfl rfl ?_
  refine g_iload_n X 0 dL_law_220 rfl rfl ?_
  refine g_iconst X (1 : Int32) dL_law_221 (by decide) ?_
  refine g_iadd X dL_law_222 ?_
  refine l_sld X hX hbl hbA dL_law_223 (nI_add i 1) (by omega) (by omega) ?_
  refine g_aload_n X 3 dL_law_224 rfl rfl ?_
  refine g_iload_n X 0 dL_law_225 rfl rfl ?_
  refine g_iconst X (2 : Int32) dL_law_226 (by decide) ?_
  refine g_iadd X dL_law_227 ?_
  refine l_sld X hX hbl hbA dL_law_228 (nI_add i 2) (by omega) (by omega) ?_
  refine g_aload_n X 3 dL_law_229 rfl rfl ?_
  refine g_iload_n X 0 dL_law_230 rfl rfl ?_
  refine g_iconst X (3 : Int32) dL_law_231 (by decide) ?_
  refine g_iadd X dL_law_232 ?_
  refine l_sld X hX hbl hbA dL_law_233 (nI_add i 3) (by omega) (by omega) ?_
  refine g_i2l X dL_law_234 ?_
  refine g_bipush X (32 : Int32) dL_law_235 (by decide) ?_
  refine g_lshl X dL_law_237 ?_
  refine g_aload_n X 3 dL_law_238 rfl rfl ?_
  refine g_iload_n X 0 dL_law_239 rfl rfl ?_
  refine g_iconst X (4 : Int32) dL_law_240 (by decide) ?_
  refine g_iadd X dL_law_241 ?_
  refine l_sld X hX hbl hbA dL_law_242 (nI_add i 4) (by omega) (by omega) ?_
  refine g_i2l X dL_law_243 ?_
  refine g_ldc2 X (v := (4294967295 : Int64)) q906 dL_law_244 ?_
  refine g_land X dL_law_247 ?_
  refine g_lor X dL_law_248 ?_
  refine g_aload_n X 3 dL_law_249 rfl rfl ?_
  refine g_iload_n X 0 dL_law_250 rfl rfl ?_
  refine g_iconst X (5 : Int32) dL_law_251 (by decide) ?_
  refine g_iadd X dL_law_252 ?_
  refine l_sld X hX hbl hbA dL_law_253 (nI_add i 5) (by omega) (by omega) ?_
  refine l_callIC X (n := 4) (C := RX4) (Qp := fun r σ' => r = (t_put A (xs (i + 1)) (xs (i + 2)) ((lshlF ((xs (i + 3)).toInt64) (32 : Int32)) ||| (((xs (i + 4)).toInt64) &&& (4294967295 : Int64))) (xs (i + 5))).1 ∧ RC (t_put A (xs (i + 1)) (xs (i + 2)) ((lshlF ((xs (i + 3)).toInt64) (32 : Int32)) ||| (((xs (i + 4)).toInt64) &&& (4294967295 : Int64))) (xs (i + 5))).2 σ') [.int (xs (i + 1)), .int (xs (i + 2)), .long ((lshlF ((xs (i + 3)).toInt64) (32 : Int32)) ||| (((xs (i + 4)).toInt64) &&& (4294967295 : Int64))), .int (xs (i + 5))] [] dL_law_254 (c_X4_put l D cA (s_putC hC  (fun σ' h => ⟨rfl, h⟩))) q238 q239 q240 q47 q241 rfl ⟨rfl, by decide, by decide, by decide +kernel⟩ rfl ⟨trivial, ⟨trivial, ⟨trivial, ⟨trivial, trivial⟩⟩⟩⟩ rfl (Nat.le_of_ble_eq_true rfl) rfl rfl ⟨(Nat.le_of_ble_eq_true rfl), (Nat.le_of_ble_eq_true rfl)⟩ (Nat.le_of_ble_eq_true rfl) (Nat.le_of_ble_eq_true rfl) (fun r1 σ1 h1 => ?_)
  refine g_aload_n X 1 dL_law_257 rfl rfl ?_
  refine g_aload_n X 3 dL_law_258 rfl rfl ?_
  refine g_iload_n X 0 dL_law_259 rfl rfl ?_
  refine g_iconst X (1 : Int32) dL_law_260 (by decide) ?_
  refine g_iadd X dL_law_261 ?_
  refine l_sld X hX hbl hbA dL_law_262 (nI_add i 1) (by omega) (by omega) ?_
  refine g_aload_n X 3 dL_law_263 rfl rfl ?_
  refine g_iload_n X 0 dL_law_264 rfl rfl ?_
  refine g_iconst X (2 : Int32) dL_law_265 (by decide) ?_
  refine g_iadd X dL_law_266 ?_
  refine l_sld X hX hbl hbA dL_law_267 (nI_add i 2) (by omega) (by omega) ?_
  refine g_aload_n X 3 dL_law_268 rfl rfl ?_
  refine g_iload_n X 0 dL_law_269 rfl rfl ?_
  refine g_iconst X (3 : Int32) dL_law_270 (by decide) ?_
  refine g_iadd X dL_law_271 ?_
  refine l_sld X hX hbl hbA dL_law_272 (nI_add i 3) (by omega) (by omega) ?_
  refine g_i2l X dL_law_273 ?_
  refine g_bipush X (32 : Int32) dL_law_274 (by decide) ?_
  refine g_lshl X dL_law_276 ?_
  refine g_aload_n X 3 dL_law_277 rfl rfl ?_
  refine g_iload_n X 0 dL_law_278 rfl rfl ?_
  refine g_iconst X (4 : Int32) dL_law_279 (by decide) ?_
  refine g_iadd X dL_law_280 ?_
  refine l_sld X hX hbl hbA dL_law_281 (nI_add i 4) (by omega) (by omega) ?_
  refine g_i2l X dL_law_282 ?_
  refine g_ldc2 X (v := (4294967295 : Int64)) q906 dL_law_283 ?_
  refine g_land X dL_law_286 ?_
  refine g_lor X dL_law_287 ?_
  refine g_aload_n X 3 dL_law_288 rfl rfl ?_
  refine g_iload_n X 0 dL_law_289 rfl rfl ?_
  refine g_iconst X (5 : Int32) dL_law_290 (by decide) ?_
  refine g_iadd X dL_law_291 ?_
  refine l_sld X hX hbl hbA dL_law_292 (nI_add i 5) (by omega) (by omega) ?_
  refine l_callIR X (n := 4) (C := RX5) (Qp := fun r σ' => r = (t_put A (xs (i + 1)) (xs (i + 2)) ((lshlF ((xs (i + 3)).toInt64) (32 : Int32)) ||| (((xs (i + 4)).toInt64) &&& (4294967295 : Int64))) (xs (i + 5))).1 ∧ RR (t_put A (xs (i + 1)) (xs (i + 2)) ((lshlF ((xs (i + 3)).toInt64) (32 : Int32)) ||| (((xs (i + 4)).toInt64) &&& (4294967295 : Int64))) (xs (i + 5))).2 σ') [.int (xs (i + 1)), .int (xs (i + 2)), .long ((lshlF ((xs (i + 3)).toInt64) (32 : Int32)) ||| (((xs (i + 4)).toInt64) &&& (4294967295 : Int64))), .int (xs (i + 5))] [.int r1] dL_law_293 (c_X5_put l D cA (s_putR hR  (fun σ' h => ⟨rfl, h⟩))) q660 q661 q662 q57 q663 rfl ⟨rfl, by decide, by decide, by decide +kernel⟩ rfl ⟨trivial, ⟨trivial, ⟨trivial, ⟨trivial, trivial⟩⟩⟩⟩ rfl (Nat.le_of_ble_eq_true rfl) rfl rfl ⟨(Nat.le_of_ble_eq_true rfl), (Nat.le_of_ble_eq_true rfl)⟩ (Nat.le_of_ble_eq_true rfl) (Nat.le_of_ble_eq_true rfl) (fun r2 σ2 h2 => ?_)
  exact g_icmp_eq X 1333 dL_law_296 (by decide) (fun _ => IH _ _ _ (k_put ho) h1.2 h2.2) (fun z => absurd (h1.1.trans h2.1.symm) z)
theorem w_case3 (X : Cx p room_1 s m #[Value.ref b] meth c cL_law 8 RL D cA (fun q => s.heap.size ≤ q)) (hX : va_X b L xs s s.heap) (hbl : b < s.heap.size) (hL : L ≤ 3072) {i N : Nat} {A : AS} {σ τ : St} (hi : i + 6 ≤ L) (hN : N ≤ 512) (ho : OK N A) (hC : RC A σ) (hR : RR A τ)
    (IH : ∀ (A' : AS) (σ' τ' : St), OK (N + 1) A' → RC A' σ' → RR A' τ' → G p l e room_1 s m #[Value.ref b] below meth c 8 D cA (fun q => s.heap.size ≤ q) (lw_Z below #[Value.ref b] s) 133 9561 (fun ad => ad 1000 = b) shB (cat σ' τ') [(3, .int (nI i)), (2, .ref 118), (1, .ref 0), (0, .ref 1000)] 1333 []) : G p l e room_1 s m #[Value.ref b] below meth c 8 D cA (fun q => s.heap.size ≤ q) (lw_Z below #[Value.ref b] s) 133 9561 (fun ad => ad 1000 = b) shB (cat σ τ) [(3, .int (nI i)), (2, .ref 118), (1, .ref 0), (0, .ref 1000)] 301 [] := by
  have hbA : ¬ s.heap.size ≤ b := by omega
  have hln := hC.ln
  refine g_aload_n X 2 dL_law_301 rfl rfl ?_
  refine g_aload_n X 3 dL_law_302 rfl rfl ?_
  refine g_iload_n X 0 dL_law_303 rfl rfl ?_
  refine g_iconst X (1 : Int32) dL_law_304 (by decide) ?_
  refine g_iadd X dL_law_305 ?_
  refine l_sld X hX hbl hbA dL_law_306 (nI_add i 1) (by omega) (by omega) ?_
  refine g_aload_n X 3 dL_law_307 rfl rfl ?_
  refine g_iload_n X 0 dL_law_308 rfl rfl ?_
  refine g_iconst X (2 : Int32) dL_law_309 (by decide) ?_
  refine g_iadd X dL_law_310 ?_
  refine l_sld X hX hbl hbA dL_law_311 (nI_add i 2) (by omega) (by omega) ?_
  refine g_aload_n X 3 dL_law_312 rfl rfl ?_
  refine g_iload_n X 0 dL_law_313 rfl rfl ?_
  refine g_iconst X (3 : Int32) dL_law_314 (by decide) ?_
  refine g_iadd X dL_law_315 ?_
  refine l_sld X hX hbl hbA dL_law_316 (nI_add i 3) (by omega) (by omega) ?_
  refine l_callIC X (n := 3) (C := RX4) (Qp := fun r σ' => r = (t_mark A (xs (i + 1)) (xs (i + 2)) (xs (i + 3))).1 ∧ RC (t_mark A (xs (i + 1)) (xs (i + 2)) (xs (i + 3))).2 σ') [.int (xs (i + 1)), .int (xs (i + 2)), .int (xs (i + 3))] [] dL_law_317 (c_X4_mark l D cA (s_markC hC  (fun σ' h => ⟨rfl, h⟩))) q248 q249 q250 q47 q251 rfl ⟨rfl, by decide, by decide, by decide +kernel⟩ rfl ⟨trivial, ⟨trivial, ⟨trivial, trivial⟩⟩⟩ rfl (Nat.le_of_ble_eq_true rfl) rfl rfl ⟨(Nat.le_of_ble_eq_true rfl), (Nat.le_of_ble_eq_true rfl)⟩ (Nat.le_of_ble_eq_true rfl) (Nat.le_of_ble_eq_true rfl) (fun r1 σ1 h1 => ?_)
  refine g_aload_n X 1 dL_law_320 rfl rfl ?_
  refine g_aload_n X 3 dL_law_321 rfl rfl ?_
  refine g_iload_n X 0 dL_law_322 rfl rfl ?_
  refine g_iconst X (1 : Int32) dL_law_323 (by decide) ?_
  refine g_iadd X dL_law_324 ?_
  refine l_sld X hX hbl hbA dL_law_325 (nI_add i 1) (by omega) (by omega) ?_
  refine g_aload_n X 3 dL_law_326 rfl rfl ?_
  refine g_iload_n X 0 dL_law_327 rfl rfl ?_
  refine g_iconst X (2 : Int32) dL_law_328 (by decide) ?_
  refine g_iadd X dL_law_329 ?_
  refine l_sld X hX hbl hbA dL_law_330 (nI_add i 2) (by omega) (by omega) ?_
  refine g_aload_n X 3 dL_law_331 rfl rfl ?_
  refine g_iload_n X 0 dL_law_332 rfl rfl ?_
  refine g_iconst X (3 : Int32) dL_law_333 (by decide) ?_
  refine g_iadd X dL_law_334 ?_
  refine l_sld X hX hbl hbA dL_law_335 (nI_add i 3) (by omega) (by omega) ?_
  refine l_callIR X (n := 3) (C := RX5) (Qp := fun r σ' => r = (t_mark A (xs (i + 1)) (xs (i + 2)) (xs (i + 3))).1 ∧ RR (t_mark A (xs (i + 1)) (xs (i + 2)) (xs (i + 3))).2 σ') [.int (xs (i + 1)), .int (xs (i + 2)), .int (xs (i + 3))] [.int r1] dL_law_336 (c_X5_mark l D cA (s_markR hR  (fun σ' h => ⟨rfl, h⟩))) q682 q683 q684 q57 q685 rfl ⟨rfl, by decide, by decide, by decide +kernel⟩ rfl ⟨trivial, ⟨trivial, ⟨trivial, trivial⟩⟩⟩ rfl (Nat.le_of_ble_eq_true rfl) rfl rfl ⟨(Nat.le_of_ble_eq_true rfl), (Nat.le_of_ble_eq_true rfl)⟩ (Nat.le_of_ble_eq_true rfl) (Nat.le_of_ble_eq_true rfl) (fun r2 σ2 h2 => ?_)
  exact g_icmp_eq X 1333 dL_law_339 (by decide) (fun _ => IH _ _ _ (k_mark ho) h1.2 h2.2) (fun z => absurd (h1.1.trans h2.1.symm) z)
theorem w_case4 (X : Cx p room_1 s m #[Value.ref b] meth c cL_law 8 RL D cA (fun q => s.heap.size ≤ q)) (hX : va_X b L xs s s.heap) (hbl : b < s.heap.size) (hL : L ≤ 3072) {i N : Nat} {A : AS} {σ τ : St} (hi : i + 6 ≤ L) (hN : N ≤ 512) (ho : OK N A) (hC : RC A σ) (hR : RR A τ)
    (IH : ∀ (A' : AS) (σ' τ' : St), OK (N + 1) A' → RC A' σ' → RR A' τ' → G p l e room_1 s m #[Value.ref b] below meth c 8 D cA (fun q => s.heap.size ≤ q) (lw_Z below #[Value.ref b] s) 133 9561 (fun ad => ad 1000 = b) shB (cat σ' τ') [(3, .int (nI i)), (2, .ref 118), (1, .ref 0), (0, .ref 1000)] 1333 []) : G p l e room_1 s m #[Value.ref b] below meth c 8 D cA (fun q => s.heap.size ≤ q) (lw_Z below #[Value.ref b] s) 133 9561 (fun ad => ad 1000 = b) shB (cat σ τ) [(3, .int (nI i)), (2, .ref 118), (1, .ref 0), (0, .ref 1000)] 344 [] := by
  have hbA : ¬ s.heap.size ≤ b := by omega
  have hln := hC.ln
  refine g_aload_n X 2 dL_law_344 rfl rfl ?_
  refine g_aload_n X 3 dL_law_345 rfl rfl ?_
  refine g_iload_n X 0 dL_law_346 rfl rfl ?_
  refine g_iconst X (1 : Int32) dL_law_347 (by decide) ?_
  refine g_iadd X dL_law_348 ?_
  refine l_sld X hX hbl hbA dL_law_349 (nI_add i 1) (by omega) (by omega) ?_
  refine g_aload_n X 3 dL_law_350 rfl rfl ?_
  refine g_iload_n X 0 dL_law_351 rfl rfl ?_
  refine g_iconst X (2 : Int32) dL_law_352 (by decide) ?_
  refine g_iadd X dL_law_353 ?_
  refine l_sld X hX hbl hbA dL_law_354 (nI_add i 2) (by omega) (by omega) ?_
  refine g_aload_n X 3 dL_law_355 rfl rfl ?_
  refine g_iload_n X 0 dL_law_356 rfl rfl ?_
  refine g_iconst X (3 : Int32) dL_law_357 (by decide) ?_
  refine g_iadd X dL_law_358 ?_
  refine l_sld X hX hbl hbA dL_law_359 (nI_add i 3) (by omega) (by omega) ?_
  refine g_aload_n X 3 dL_law_360 rfl rfl ?_
  refine g_iload_n X 0 dL_law_361 rfl rfl ?_
  refine g_iconst X (4 : Int32) dL_law_362 (by decide) ?_
  refine g_iadd X dL_law_363 ?_
  refine l_sld X hX hbl hbA dL_law_364 (nI_add i 4) (by omega) (by omega) ?_
  refine g_aload_n X 3 dL_law_365 rfl rfl ?_
  refine g_iload_n X 0 dL_law_366 rfl rfl ?_
  refine g_iconst X (5 : Int32) dL_law_367 (by decide) ?_
  refine g_iadd X dL_law_368 ?_
  refine l_sld X hX hbl hbA dL_law_369 (nI_add i 5) (by omega) (by omega) ?_
  refine l_callIC X (n := 5) (C := RX4) (Qp := fun r σ' => r = (t_copy A (xs (i + 1)) (xs (i + 2)) (xs (i + 3)) (xs (i + 4)) (xs (i + 5))).1 ∧ RC (t_copy A (xs (i + 1)) (xs (i + 2)) (xs (i + 3)) (xs (i + 4)) (xs (i + 5))).2 σ') [.int (xs (i + 1)), .int (xs (i + 2)), .int (xs (i + 3)), .int (xs (i + 4)), .int (xs (i + 5))] [] dL_law_370 (c_X4_copy l D cA (s_copyC hC  (fun σ' h => ⟨rfl, h⟩))) q260 q261 q262 q47 q263 rfl ⟨rfl, by decide, by decide, by decide +kernel⟩ rfl ⟨trivial, ⟨trivial, ⟨trivial, ⟨trivial, ⟨trivial, trivial⟩⟩⟩⟩⟩ rfl (Nat.le_of_ble_eq_true rfl) rfl rfl ⟨(Nat.le_of_ble_eq_true rfl), (Nat.le_of_ble_eq_true rfl)⟩ (Nat.le_of_ble_eq_true rfl) (Nat.le_of_ble_eq_true rfl) (fun r1 σ1 h1 => ?_)
  refine g_aload_n X 1 dL_law_373 rfl rfl ?_
  refine g_aload_n X 3 dL_law_374 rfl rfl ?_
  refine g_iload_n X 0 dL_law_375 rfl rfl ?_
  refine g_iconst X (1 : Int32) dL_law_376 (by decide) ?_
  refine g_iadd X dL_law_377 ?_
  refine l_sld X hX hbl hbA dL_law_378 (nI_add i 1) (by omega) (by omega) ?_
  refine g_aload_n X 3 dL_law_379 rfl rfl ?_
  refine g_iload_n X 0 dL_law_380 rfl rfl ?_
  refine g_iconst X (2 : Int32) dL_law_381 (by decide) ?_
  refine g_iadd X dL_law_382 ?_
  refine l_sld X hX hbl hbA dL_law_383 (nI_add i 2) (by omega) (by omega) ?_
  refine g_aload_n X 3 dL_law_384 rfl rfl ?_
  refine g_iload_n X 0 dL_law_385 rfl rfl ?_
  refine g_iconst X (3 : Int32) dL_law_386 (by decide) ?_
  refine g_iadd X dL_law_387 ?_
  refine l_sld X hX hbl hbA dL_law_388 (nI_add i 3) (by omega) (by omega) ?_
  refine g_aload_n X 3 dL_law_389 rfl rfl ?_
  refine g_iload_n X 0 dL_law_390 rfl rfl ?_
  refine g_iconst X (4 : Int32) dL_law_391 (by decide) ?_
  refine g_iadd X dL_law_392 ?_
  refine l_sld X hX hbl hbA dL_law_393 (nI_add i 4) (by omega) (by omega) ?_
  refine g_aload_n X 3 dL_law_394 rfl rfl ?_
  refine g_iload_n X 0 dL_law_395 rfl rfl ?_
  refine g_iconst X (5 : Int32) dL_law_396 (by decide) ?_
  refine g_iadd X dL_law_397 ?_
  refine l_sld X hX hbl hbA dL_law_398 (nI_add i 5) (by omega) (by omega) ?_
  refine l_callIR X (n := 5) (C := RX5) (Qp := fun r σ' => r = (t_copy A (xs (i + 1)) (xs (i + 2)) (xs (i + 3)) (xs (i + 4)) (xs (i + 5))).1 ∧ RR (t_copy A (xs (i + 1)) (xs (i + 2)) (xs (i + 3)) (xs (i + 4)) (xs (i + 5))).2 σ') [.int (xs (i + 1)), .int (xs (i + 2)), .int (xs (i + 3)), .int (xs (i + 4)), .int (xs (i + 5))] [.int r1] dL_law_399 (c_X5_copy l D cA (s_copyR hR  (fun σ' h => ⟨rfl, h⟩))) q692 q693 q694 q57 q695 rfl ⟨rfl, by decide, by decide, by decide +kernel⟩ rfl ⟨trivial, ⟨trivial, ⟨trivial, ⟨trivial, ⟨trivial, trivial⟩⟩⟩⟩⟩ rfl (Nat.le_of_ble_eq_true rfl) rfl rfl ⟨(Nat.le_of_ble_eq_true rfl), (Nat.le_of_ble_eq_true rfl)⟩ (Nat.le_of_ble_eq_true rfl) (Nat.le_of_ble_eq_true rfl) (fun r2 σ2 h2 => ?_)
  exact g_icmp_eq X 1333 dL_law_402 (by decide) (fun _ => IH _ _ _ (k_copy ho hln) h1.2 h2.2) (fun z => absurd (h1.1.trans h2.1.symm) z)
theorem w_case5 (X : Cx p room_1 s m #[Value.ref b] meth c cL_law 8 RL D cA (fun q => s.heap.size ≤ q)) (hX : va_X b L xs s s.heap) (hbl : b < s.heap.size) (hL : L ≤ 3072) {i N : Nat} {A : AS} {σ τ : St} (hi : i + 6 ≤ L) (hN : N ≤ 512) (ho : OK N A) (hC : RC A σ) (hR : RR A τ)
    (IH : ∀ (A' : AS) (σ' τ' : St), OK (N + 1) A' → RC A' σ' → RR A' τ' → G p l e room_1 s m #[Value.ref b] below meth c 8 D cA (fun q => s.heap.size ≤ q) (lw_Z below #[Value.ref b] s) 133 9561 (fun ad => ad 1000 = b) shB (cat σ' τ') [(3, .int (nI i)), (2, .ref 118), (1, .ref 0), (0, .ref 1000)] 1333 []) : G p l e room_1 s m #[Value.ref b] below meth c 8 D cA (fun q => s.heap.size ≤ q) (lw_Z below #[Value.ref b] s) 133 9561 (fun ad => ad 1000 = b) shB (cat σ τ) [(3, .int (nI i)), (2, .ref 118), (1, .ref 0), (0, .ref 1000)] 407 [] := by
  have hbA : ¬ s.heap.size ≤ b := by omega
  have hln := hC.ln
  refine g_aload_n X 2 dL_law_407 rfl rfl ?_
  refine g_aload_n X 3 dL_law_408 rfl rfl ?_
  refine g_iload_n X 0 dL_law_409 rfl rfl ?_
  refine g_iconst X (1 : Int32) dL_law_410 (by decide) ?_
  refine g_iadd X dL_law_411 ?_
  refine l_sld X hX hbl hbA dL_law_412 (nI_add i 1) (by omega) (by omega) ?_
  refine g_aload_n X 3 dL_law_413 rfl rfl ?_
  refine g_iload_n X 0 dL_law_414 rfl rfl ?_
  refine g_iconst X (2 : Int32) dL_law_415 (by decide) ?_
  refine g_iadd X dL_law_416 ?_
  refine l_sld X hX hbl hbA dL_law_417 (nI_add i 2) (by omega) (by omega) ?_
  refine g_aload_n X 3 dL_law_418 rfl rfl ?_
  refine g_iload_n X 0 dL_law_419 rfl rfl ?_
  refine g_iconst X (3 : Int32) dL_law_420 (by decide) ?_
  refine g_iadd X dL_law_421 ?_
  refine l_sld X hX hbl hbA dL_law_422 (nI_add i 3) (by omega) (by omega) ?_
  refine l_callLC X (n := 3) (C := RX4) (Qp := fun r σ' => r = t_look A (xs (i + 1)) (xs (i + 2)) (xs (i + 3)) ∧ RC A σ') [.int (xs (i + 1)), .int (xs (i + 2)), .int (xs (i + 3))] [] dL_law_423 (c_X4_look l D cA (s_lookC hC  (fun σ' h => ⟨rfl, h⟩))) q271 q272 q273 q47 q274 rfl ⟨rfl, by decide, by decide, by decide +kernel⟩ rfl ⟨trivial, ⟨trivial, ⟨trivial, trivial⟩⟩⟩ rfl (Nat.le_of_ble_eq_true rfl) rfl rfl ⟨(Nat.le_of_ble_eq_true rfl), (Nat.le_of_ble_eq_true rfl)⟩ (Nat.le_of_ble_eq_true rfl) (Nat.le_of_ble_eq_true rfl) (fun r1 σ1 h1 => ?_)
  refine g_aload_n X 1 dL_law_426 rfl rfl ?_
  refine g_aload_n X 3 dL_law_427 rfl rfl ?_
  refine g_iload_n X 0 dL_law_428 rfl rfl ?_
  refine g_iconst X (1 : Int32) dL_law_429 (by decide) ?_
  refine g_iadd X dL_law_430 ?_
  refine l_sld X hX hbl hbA dL_law_431 (nI_add i 1) (by omega) (by omega) ?_
  refine g_aload_n X 3 dL_law_432 rfl rfl ?_
  refine g_iload_n X 0 dL_law_433 rfl rfl ?_
  refine g_iconst X (2 : Int32) dL_law_434 (by decide) ?_
  refine g_iadd X dL_law_435 ?_
  refine l_sld X hX hbl hbA dL_law_436 (nI_add i 2) (by omega) (by omega) ?_
  refine g_aload_n X 3 dL_law_437 rfl rfl ?_
  refine g_iload_n X 0 dL_law_438 rfl rfl ?_
  refine g_iconst X (3 : Int32) dL_law_439 (by decide) ?_
  refine g_iadd X dL_law_440 ?_
  refine l_sld X hX hbl hbA dL_law_441 (nI_add i 3) (by omega) (by omega) ?_
  refine l_callLR X (n := 3) (C := RX5) (Qp := fun r σ' => r = t_look A (xs (i + 1)) (xs (i + 2)) (xs (i + 3)) ∧ RR A σ') [.int (xs (i + 1)), .int (xs (i + 2)), .int (xs (i + 3))] [.long r1] dL_law_442 (c_X5_look l D cA (s_lookR hR  (fun σ' h => ⟨rfl, h⟩))) q700 q701 q702 q57 q703 rfl ⟨rfl, by decide, by decide, by decide +kernel⟩ rfl ⟨trivial, ⟨trivial, ⟨trivial, trivial⟩⟩⟩ rfl (Nat.le_of_ble_eq_true rfl) rfl rfl ⟨(Nat.le_of_ble_eq_true rfl), (Nat.le_of_ble_eq_true rfl)⟩ (Nat.le_of_ble_eq_true rfl) (Nat.le_of_ble_eq_true rfl) (fun r2 σ2 h2 => ?_)
  refine g_lcmp X dL_law_445 ?_
  exact g_if_eq X 1333 dL_law_446 (by decide) (fun _ => IH _ _ _ ho.up h1.2 h2.2) (fun z => absurd (by rw [h1.1, h2.1]; exact lcmp_rf _) z)
theorem w_case6 (X : Cx p room_1 s m #[Value.ref b] meth c cL_law 8 RL D cA (fun q => s.heap.size ≤ q)) (hX : va_X b L xs s s.heap) (hbl : b < s.heap.size) (hL : L ≤ 3072) {i N : Nat} {A : AS} {σ τ : St} (hi : i + 6 ≤ L) (hN : N ≤ 512) (ho : OK N A) (hC : RC A σ) (hR : RR A τ)
    (IH : ∀ (A' : AS) (σ' τ' : St), OK (N + 1) A' → RC A' σ' → RR A' τ' → G p l e room_1 s m #[Value.ref b] below meth c 8 D cA (fun q => s.heap.size ≤ q) (lw_Z below #[Value.ref b] s) 133 9561 (fun ad => ad 1000 = b) shB (cat σ' τ') [(3, .int (nI i)), (2, .ref 118), (1, .ref 0), (0, .ref 1000)] 1333 []) : G p l e room_1 s m #[Value.ref b] below meth c 8 D cA (fun q => s.heap.size ≤ q) (lw_Z below #[Value.ref b] s) 133 9561 (fun ad => ad 1000 = b) shB (cat σ τ) [(3, .int (nI i)), (2, .ref 118), (1, .ref 0), (0, .ref 1000)] 451 [] := by
  have hbA : ¬ s.heap.size ≤ b := by omega
  have hln := hC.ln
  refine g_aload_n X 2 dL_law_451 rfl rfl ?_
  refine g_aload_n X 3 dL_law_452 rfl rfl ?_
  refine g_iload_n X 0 dL_law_453 rfl rfl ?_
  refine g_iconst X (1 : Int32) dL_law_454 (by decide) ?_
  refine g_iadd X dL_law_455 ?_
  refine l_sld X hX hbl hbA dL_law_456 (nI_add i 1) (by omega) (by omega) ?_
  refine g_aload_n X 3 dL_law_457 rfl rfl ?_
  refine g_iload_n X 0 dL_law_458 rfl rfl ?_
  refine g_iconst X (2 : Int32) dL_law_459 (by decide) ?_
  refine g_iadd X dL_law_460 ?_
  refine l_sld X hX hbl hbA dL_law_461 (nI_add i 2) (by omega) (by omega) ?_
  refine l_callDC X (n := 2) (C := RX4) (Qp := fun r σ' => r = t_see A (xs (i + 1)) (xs (i + 2)) ∧ RC A σ') [.int (xs (i + 1)), .int (xs (i + 2))] [] dL_law_462 (c_X4_see l D cA (s_seeC hC ho (fun σ' h => ⟨rfl, h⟩))) q279 q280 q281 q47 q282 rfl ⟨rfl, by decide, by decide, by decide +kernel⟩ rfl ⟨trivial, ⟨trivial, trivial⟩⟩ rfl (Nat.le_of_ble_eq_true rfl) rfl rfl ⟨(Nat.le_of_ble_eq_true rfl), (Nat.le_of_ble_eq_true rfl)⟩ (Nat.le_of_ble_eq_true rfl) (Nat.le_of_ble_eq_true rfl) (fun r1 σ1 h1 => ?_)
  refine g_dstore X [(4, .double r1), (3, .int (nI i)), (2, .ref 118), (1, .ref 0), (0, .ref 1000)] dL_law_465 (Nat.le_of_ble_eq_true rfl) rfl ?_
  refine g_aload_n X 2 dL_law_467 rfl rfl ?_
  refine g_aload_n X 4 dL_law_468 rfl rfl ?_
  refine g_iload_n X 1 dL_law_469 rfl rfl ?_
  refine g_iconst X (1 : Int32) dL_law_470 (by decide) ?_
  refine g_iadd X dL_law_471 ?_
  refine l_sld X hX hbl hbA dL_law_472 (nI_add i 1) (by omega) (by omega) ?_
  refine g_aload_n X 4 dL_law_473 rfl rfl ?_
  refine g_iload_n X 1 dL_law_474 rfl rfl ?_
  refine g_iconst X (2 : Int32) dL_law_475 (by decide) ?_
  refine g_iadd X dL_law_476 ?_
  refine l_sld X hX hbl hbA dL_law_477 (nI_add i 2) (by omega) (by omega) ?_
  refine l_callDR X (n := 2) (C := RX5) (Qp := fun r σ' => r = t_see A (xs (i + 1)) (xs (i + 2)) ∧ RR A σ') [.int (xs (i + 1)), .int (xs (i + 2))] [] dL_law_478 (c_X5_see l D cA (s_seeR hR ho (fun σ' h => ⟨rfl, h⟩))) q709 q710 q711 q57 q712 rfl ⟨rfl, by decide, by decide, by decide +kernel⟩ rfl ⟨trivial, ⟨trivial, trivial⟩⟩ rfl (Nat.le_of_ble_eq_true rfl) rfl rfl ⟨(Nat.le_of_ble_eq_true rfl), (Nat.le_of_ble_eq_true rfl)⟩ (Nat.le_of_ble_eq_true rfl) (Nat.le_of_ble_eq_true rfl) (fun r2 σ2 h2 => ?_)
  refine g_dstore X [(6, .double r2), (4, .double r1), (3, .int (nI i)), (2, .ref 118), (1, .ref 0), (0, .ref 1000)] dL_law_481 (Nat.le_of_ble_eq_true rfl) rfl ?_
  obtain ⟨rfl, h1⟩ := h1
  obtain ⟨rfl, h2⟩ := h2
  refine g_dload X 1 dL_law_483 rfl ?_
  refine g_dload X 0 dL_law_485 rfl ?_
  refine g_dcmp X dL_law_487 ?_
  have fin : G p l e room_1 s m #[Value.ref b] below meth c 8 D cA (fun q => s.heap.size ≤ q) (lw_Z below #[Value.ref b] s) 133 9561 (fun ad => ad 1000 = b) shB (cat σ1 σ2) [(6, .double (t_see A (xs (i + 1)) (xs (i + 2)))), (4, .double (t_see A (xs (i + 1)) (xs (i + 2)))), (3, .int (nI i)), (2, .ref 118), (1, .ref 0), (0, .ref 1000)] 509 [] := g_goto X 1333 dL_law_509 (by decide) (g_weak [2, 3, 4, 5] rfl (IH _ _ _ ho.up h1 h2))
  refine g_if_eq X 509 dL_law_488 (by decide) (fun _ => fin) (fun z1 => ?_)
  refine g_dload X 1 dL_law_491 rfl ?_
  refine g_dload X 1 dL_law_493 rfl ?_
  refine g_dcmp X dL_law_495 ?_
  refine g_if_eq X 507 dL_law_496 (by decide) (fun z => absurd z z1) (fun _ => ?_)
  refine g_dload X 0 dL_law_499 rfl ?_
  refine g_dload X 0 dL_law_501 rfl ?_
  refine g_dcmp X dL_law_503 ?_
  exact g_if_ne X 509 dL_law_504 (by decide) (fun _ => fin) (fun z => absurd z z1)
theorem w_case7 (X : Cx p room_1 s m #[Value.ref b] meth c cL_law 8 RL D cA (fun q => s.heap.size ≤ q)) (hX : va_X b L xs s s.heap) (hbl : b < s.heap.size) (hL : L ≤ 3072) {i N : Nat} {A : AS} {σ τ : St} (hi : i + 6 ≤ L) (hN : N ≤ 512) (ho : OK N A) (hC : RC A σ) (hR : RR A τ)
    (IH : ∀ (A' : AS) (σ' τ' : St), OK (N + 1) A' → RC A' σ' → RR A' τ' → G p l e room_1 s m #[Value.ref b] below meth c 8 D cA (fun q => s.heap.size ≤ q) (lw_Z below #[Value.ref b] s) 133 9561 (fun ad => ad 1000 = b) shB (cat σ' τ') [(3, .int (nI i)), (2, .ref 118), (1, .ref 0), (0, .ref 1000)] 1333 []) : G p l e room_1 s m #[Value.ref b] below meth c 8 D cA (fun q => s.heap.size ≤ q) (lw_Z below #[Value.ref b] s) 133 9561 (fun ad => ad 1000 = b) shB (cat σ τ) [(3, .int (nI i)), (2, .ref 118), (1, .ref 0), (0, .ref 1000)] 512 [] := by
  have hbA : ¬ s.heap.size ≤ b := by omega
  have hln := hC.ln
  have hy := (eighth (xs (i + 3))).2
  refine g_aload_n X 2 dL_law_512 rfl rfl ?_
  refine g_aload_n X 3 dL_law_513 rfl rfl ?_
  refine g_iload_n X 0 dL_law_514 rfl rfl ?_
  refine g_iconst X (1 : Int32) dL_law_515 (by decide) ?_
  refine g_iadd X dL_law_516 ?_
  refine l_sld X hX hbl hbA dL_law_517 (nI_add i 1) (by omega) (by omega) ?_
  refine g_aload_n X 3 dL_law_518 rfl rfl ?_
  refine g_iload_n X 0 dL_law_519 rfl rfl ?_
  refine g_iconst X (2 : Int32) dL_law_520 (by decide) ?_
  refine g_iadd X dL_law_521 ?_
  refine l_sld X hX hbl hbA dL_law_522 (nI_add i 2) (by omega) (by omega) ?_
  refine g_aload_n X 3 dL_law_523 rfl rfl ?_
  refine g_iload_n X 0 dL_law_524 rfl rfl ?_
  refine g_iconst X (3 : Int32) dL_law_525 (by decide) ?_
  refine g_iadd X dL_law_526 ?_
  refine l_sld X hX hbl hbA dL_law_527 (nI_add i 3) (by omega) (by omega) ?_
  refine g_i2d X dL_law_528 ?_
  refine g_ldc2d X (v := (4593671619917905920 : UInt64)) q907 dL_law_529 ?_
  refine g_dmul X dL_law_532 (eighth _).1 ?_
  refine l_callIC X (n := 3) (C := RX4) (Qp := fun r σ' => r = t_compare A (xs (i + 1)) (xs (i + 2)) (FP.dmul (FP.i2d (xs (i + 3))) (4593671619917905920 : UInt64)) ∧ RC A σ') [.int (xs (i + 1)), .int (xs (i + 2)), .double (FP.dmul (FP.i2d (xs (i + 3))) (4593671619917905920 : UInt64))] [] dL_law_533 (c_X4_compare l D cA (s_compareC hC ho hy nn_dblP (fun σ' h => ⟨rfl, h⟩))) q300 q301 q302 q47 q303 rfl ⟨rfl, by decide, by decide, by decide +kernel⟩ rfl ⟨trivial, ⟨trivial, ⟨trivial, trivial⟩⟩⟩ rfl (Nat.le_of_ble_eq_true rfl) rfl rfl ⟨(Nat.le_of_ble_eq_true rfl), (Nat.le_of_ble_eq_true rfl)⟩ (Nat.le_of_ble_eq_true rfl) (Nat.le_of_ble_eq_true rfl) (fun r1 σ1 h1 => ?_)
  refine g_aload_n X 1 dL_law_536 rfl rfl ?_
  refine g_aload_n X 3 dL_law_537 rfl rfl ?_
  refine g_iload_n X 0 dL_law_538 rfl rfl ?_
  refine g_iconst X (1 : Int32) dL_law_539 (by decide) ?_
  refine g_iadd X dL_law_540 ?_
  refine l_sld X hX hbl hbA dL_law_541 (nI_add i 1) (by omega) (by omega) ?_
  refine g_aload_n X 3 dL_law_542 rfl rfl ?_
  refine g_iload_n X 0 dL_law_543 rfl rfl ?_
  refine g_iconst X (2 : Int32) dL_law_544 (by decide) ?_
  refine g_iadd X dL_law_545 ?_
  refine l_sld X hX hbl hbA dL_law_546 (nI_add i 2) (by omega) (by omega) ?_
  refine g_aload_n X 3 dL_law_547 rfl rfl ?_
  refine g_iload_n X 0 dL_law_548 rfl rfl ?_
  refine g_iconst X (3 : Int32) dL_law_549 (by decide) ?_
  refine g_iadd X dL_law_550 ?_
  refine l_sld X hX hbl hbA dL_law_551 (nI_add i 3) (by omega) (by omega) ?_
  refine g_i2d X dL_law_552 ?_
  refine g_ldc2d X (v := (4593671619917905920 : UInt64)) q907 dL_law_553 ?_
  refine g_dmul X dL_law_556 (eighth _).1 ?_
  refine l_callIR X (n := 3) (C := RX5) (Qp := fun r σ' => r = t_compare A (xs (i + 1)) (xs (i + 2)) (FP.dmul (FP.i2d (xs (i + 3))) (4593671619917905920 : UInt64)) ∧ RR A σ') [.int (xs (i + 1)), .int (xs (i + 2)), .double (FP.dmul (FP.i2d (xs (i + 3))) (4593671619917905920 : UInt64))] [.int r1] dL_law_557 (c_X5_compare l D cA (s_compareR hR ho hy (fun σ' h => ⟨rfl, h⟩))) q719 q720 q721 q57 q722 rfl ⟨rfl, by decide, by decide, by decide +kernel⟩ rfl ⟨trivial, ⟨trivial, ⟨trivial, trivial⟩⟩⟩ rfl (Nat.le_of_ble_eq_true rfl) rfl rfl ⟨(Nat.le_of_ble_eq_true rfl), (Nat.le_of_ble_eq_true rfl)⟩ (Nat.le_of_ble_eq_true rfl) (Nat.le_of_ble_eq_true rfl) (fun r2 σ2 h2 => ?_)
  exact g_icmp_eq X 1333 dL_law_560 (by decide) (fun _ => IH _ _ _ ho.up h1.2 h2.2) (fun z => absurd (h1.1.trans h2.1.symm) z)
theorem w_case8 (X : Cx p room_1 s m #[Value.ref b] meth c cL_law 8 RL D cA (fun q => s.heap.size ≤ q)) (hX : va_X b L xs s s.heap) (hbl : b < s.heap.size) (hL : L ≤ 3072) {i N : Nat} {A : AS} {σ τ : St} (hi : i + 6 ≤ L) (hN : N ≤ 512) (ho : OK N A) (hC : RC A σ) (hR : RR A τ)
    (IH : ∀ (A' : AS) (σ' τ' : St), OK (N + 1) A' → RC A' σ' → RR A' τ' → G p l e room_1 s m #[Value.ref b] below meth c 8 D cA (fun q => s.heap.size ≤ q) (lw_Z below #[Value.ref b] s) 133 9561 (fun ad => ad 1000 = b) shB (cat σ' τ') [(3, .int (nI i)), (2, .ref 118), (1, .ref 0), (0, .ref 1000)] 1333 []) : G p l e room_1 s m #[Value.ref b] below meth c 8 D cA (fun q => s.heap.size ≤ q) (lw_Z below #[Value.ref b] s) 133 9561 (fun ad => ad 1000 = b) shB (cat σ τ) [(3, .int (nI i)), (2, .ref 118), (1, .ref 0), (0, .ref 1000)] 565 [] := by
  have hbA : ¬ s.heap.size ≤ b := by omega
  have hln := hC.ln
  refine g_aload_n X 2 dL_law_565 rfl rfl ?_
  refine g_aload_n X 3 dL_law_566 rfl rfl ?_
  refine g_iload_n X 0 dL_law_567 rfl rfl ?_
  refine g_iconst X (1 : Int32) dL_law_568 (by decide) ?_
  refine g_iadd X dL_law_569 ?_
  refine l_sld X hX hbl hbA dL_law_570 (nI_add i 1) (by omega) (by omega) ?_
  refine g_aload_n X 3 dL_law_571 rfl rfl ?_
  refine g_iload_n X 0 dL_law_572 rfl rfl ?_
  refine g_iconst X (2 : Int32) dL_law_573 (by decide) ?_
  refine g_iadd X dL_law_574 ?_
  refine l_sld X hX hbl hbA dL_law_575 (nI_add i 2) (by omega) (by omega) ?_
  refine l_callIC X (n := 2) (C := RX4) (Qp := fun r σ' => r = (t_keeper A (xs (i + 1)) (xs (i + 2))).1 ∧ RC (t_keeper A (xs (i + 1)) (xs (i + 2))).2 σ') [.int (xs (i + 1)), .int (xs (i + 2))] [] dL_law_576 (c_X4_keeper l D cA (s_keeperC hC  (fun σ' h => ⟨rfl, h⟩))) q308 q309 q310 q47 q311 rfl ⟨rfl, by decide, by decide, by decide +kernel⟩ rfl ⟨trivial, ⟨trivial, trivial⟩⟩ rfl (Nat.le_of_ble_eq_true rfl) rfl rfl ⟨(Nat.le_of_ble_eq_true rfl), (Nat.le_of_ble_eq_true rfl)⟩ (Nat.le_of_ble_eq_true rfl) (Nat.le_of_ble_eq_true rfl) (fun r1 σ1 h1 => ?_)
  refine g_aload_n X 1 dL_law_579 rfl rfl ?_
  refine g_aload_n X 3 dL_law_580 rfl rfl ?_
  refine g_iload_n X 0 dL_law_581 rfl rfl ?_
  refine g_iconst X (1 : Int32) dL_law_582 (by decide) ?_
  refine g_iadd X dL_law_583 ?_
  refine l_sld X hX hbl hbA dL_law_584 (nI_add i 1) (by omega) (by omega) ?_
  refine g_aload_n X 3 dL_law_585 rfl rfl ?_
  refine g_iload_n X 0 dL_law_586 rfl rfl ?_
  refine g_iconst X (2 : Int32) dL_law_587 (by decide) ?_
  refine g_iadd X dL_law_588 ?_
  refine l_sld X hX hbl hbA dL_law_589 (nI_add i 2) (by omega) (by omega) ?_
  refine l_callIR X (n := 2) (C := RX5) (Qp := fun r σ' => r = (t_keeper A (xs (i + 1)) (xs (i + 2))).1 ∧ RR (t_keeper A (xs (i + 1)) (xs (i + 2))).2 σ') [.int (xs (i + 1)), .int (xs (i + 2))] [.int r1] dL_law_590 (c_X5_keeper l D cA (s_keeperR hR  (fun σ' h => ⟨rfl, h⟩))) q727 q728 q729 q57 q730 rfl ⟨rfl, by decide, by decide, by decide +kernel⟩ rfl ⟨trivial, ⟨trivial, trivial⟩⟩ rfl (Nat.le_of_ble_eq_true rfl) rfl rfl ⟨(Nat.le_of_ble_eq_true rfl), (Nat.le_of_ble_eq_true rfl)⟩ (Nat.le_of_ble_eq_true rfl) (Nat.le_of_ble_eq_true rfl) (fun r2 σ2 h2 => ?_)
  exact g_icmp_eq X 1333 dL_law_593 (by decide) (fun _ => IH _ _ _ (k_keeper ho) h1.2 h2.2) (fun z => absurd (h1.1.trans h2.1.symm) z)
theorem w_case9 (X : Cx p room_1 s m #[Value.ref b] meth c cL_law 8 RL D cA (fun q => s.heap.size ≤ q)) (hX : va_X b L xs s s.heap) (hbl : b < s.heap.size) (hL : L ≤ 3072) {i N : Nat} {A : AS} {σ τ : St} (hi : i + 6 ≤ L) (hN : N ≤ 512) (ho : OK N A) (hC : RC A σ) (hR : RR A τ)
    (IH : ∀ (A' : AS) (σ' τ' : St), OK (N + 1) A' → RC A' σ' → RR A' τ' → G p l e room_1 s m #[Value.ref b] below meth c 8 D cA (fun q => s.heap.size ≤ q) (lw_Z below #[Value.ref b] s) 133 9561 (fun ad => ad 1000 = b) shB (cat σ' τ') [(3, .int (nI i)), (2, .ref 118), (1, .ref 0), (0, .ref 1000)] 1333 []) : G p l e room_1 s m #[Value.ref b] below meth c 8 D cA (fun q => s.heap.size ≤ q) (lw_Z below #[Value.ref b] s) 133 9561 (fun ad => ad 1000 = b) shB (cat σ τ) [(3, .int (nI i)), (2, .ref 118), (1, .ref 0), (0, .ref 1000)] 598 [] := by
  have hbA : ¬ s.heap.size ≤ b := by omega
  have hln := hC.ln
  refine g_aload_n X 2 dL_law_598 rfl rfl ?_
  refine g_aload_n X 3 dL_law_599 rfl rfl ?_
  refine g_iload_n X 0 dL_law_600 rfl rfl ?_
  refine g_iconst X (1 : Int32) dL_law_601 (by decide) ?_
  refine g_iadd X dL_law_602 ?_
  refine l_sld X hX hbl hbA dL_law_603 (nI_add i 1) (by omega) (by omega) ?_
  refine g_aload_n X 3 dL_law_604 rfl rfl ?_
  refine g_iload_n X 0 dL_law_605 rfl rfl ?_
  refine g_iconst X (2 : Int32) dL_law_606 (by decide) ?_
  refine g_iadd X dL_law_607 ?_
  refine l_sld X hX hbl hbA dL_law_608 (nI_add i 2) (by omega) (by omega) ?_
  refine g_aload_n X 3 dL_law_609 rfl rfl ?_
  refine g_iload_n X 0 dL_law_610 rfl rfl ?_
  refine g_iconst X (3 : Int32) dL_law_611 (by decide) ?_
  refine g_iadd X dL_law_612 ?_
  refine l_sld X hX hbl hbA dL_law_613 (nI_add i 3) (by omega) (by omega) ?_
  refine g_aload_n X 3 dL_law_614 rfl rfl ?_
  refine g_iload_n X 0 dL_law_615 rfl rfl ?_
  refine g_iconst X (4 : Int32) dL_law_616 (by decide) ?_
  refine g_iadd X dL_law_617 ?_
  refine l_sld X hX hbl hbA dL_law_618 (nI_add i 4) (by omega) (by omega) ?_
  refine l_callIC X (n := 4) (C := RX4) (Qp := fun r σ' => r = (t_add A (xs (i + 1)) (xs (i + 2)) (xs (i + 3)) (xs (i + 4))).1 ∧ RC (t_add A (xs (i + 1)) (xs (i + 2)) (xs (i + 3)) (xs (i + 4))).2 σ') [.int (xs (i + 1)), .int (xs (i + 2)), .int (xs (i + 3)), .int (xs (i + 4))] [] dL_law_619 (c_X4_add l D cA (s_addC hC ho hN (fun σ' h => ⟨rfl, h⟩))) q337 q338 q339 q47 q340 rfl ⟨rfl, by decide, by decide, by decide +kernel⟩ rfl ⟨trivial, ⟨trivial, ⟨trivial, ⟨trivial, trivial⟩⟩⟩⟩ rfl (Nat.le_of_ble_eq_true rfl) rfl rfl ⟨(Nat.le_of_ble_eq_true rfl), (Nat.le_of_ble_eq_true rfl)⟩ (Nat.le_of_ble_eq_true rfl) (Nat.le_of_ble_eq_true rfl) (fun r1 σ1 h1 => ?_)
  refine g_aload_n X 1 dL_law_622 rfl rfl ?_
  refine g_aload_n X 3 dL_law_623 rfl rfl ?_
  refine g_iload_n X 0 dL_law_624 rfl rfl ?_
  refine g_iconst X (1 : Int32) dL_law_625 (by decide) ?_
  refine g_iadd X dL_law_626 ?_
  refine l_sld X hX hbl hbA dL_law_627 (nI_add i 1) (by omega) (by omega) ?_
  refine g_aload_n X 3 dL_law_628 rfl rfl ?_
  refine g_iload_n X 0 dL_law_629 rfl rfl ?_
  refine g_iconst X (2 : Int32) dL_law_630 (by decide) ?_
  refine g_iadd X dL_law_631 ?_
  refine l_sld X hX hbl hbA dL_law_632 (nI_add i 2) (by omega) (by omega) ?_
  refine g_aload_n X 3 dL_law_633 rfl rfl ?_
  refine g_iload_n X 0 dL_law_634 rfl rfl ?_
  refine g_iconst X (3 : Int32) dL_law_635 (by decide) ?_
  refine g_iadd X dL_law_636 ?_
  refine l_sld X hX hbl hbA dL_law_637 (nI_add i 3) (by omega) (by omega) ?_
  refine g_aload_n X 3 dL_law_638 rfl rfl ?_
  refine g_iload_n X 0 dL_law_639 rfl rfl ?_
  refine g_iconst X (4 : Int32) dL_law_640 (by decide) ?_
  refine g_iadd X dL_law_641 ?_
  refine l_sld X hX hbl hbA dL_law_642 (nI_add i 4) (by omega) (by omega) ?_
  refine l_callIR X (n := 4) (C := RX5) (Qp := fun r σ' => r = (t_add A (xs (i + 1)) (xs (i + 2)) (xs (i + 3)) (xs (i + 4))).1 ∧ RR (t_add A (xs (i + 1)) (xs (i + 2)) (xs (i + 3)) (xs (i + 4))).2 σ') [.int (xs (i + 1)), .int (xs (i + 2)), .int (xs (i + 3)), .int (xs (i + 4))] [.int r1] dL_law_643 (c_X5_add l D cA (s_addR hR ho (fun σ' h => ⟨rfl, h⟩))) q743 q744 q745 q57 q746 rfl ⟨rfl, by decide, by decide, by decide +kernel⟩ rfl ⟨trivial, ⟨trivial, ⟨trivial, ⟨trivial, trivial⟩⟩⟩⟩ rfl (Nat.le_of_ble_eq_true rfl) rfl rfl ⟨(Nat.le_of_ble_eq_true rfl), (Nat.le_of_ble_eq_true rfl)⟩ (Nat.le_of_ble_eq_true rfl) (Nat.le_of_ble_eq_true rfl) (fun r2 σ2 h2 => ?_)
  exact g_icmp_eq X 1333 dL_law_646 (by decide) (fun _ => IH _ _ _ (k_add ho hln) h1.2 h2.2) (fun z => absurd (h1.1.trans h2.1.symm) z)
theorem w_case10 (X : Cx p room_1 s m #[Value.ref b] meth c cL_law 8 RL D cA (fun q => s.heap.size ≤ q)) (hX : va_X b L xs s s.heap) (hbl : b < s.heap.size) (hL : L ≤ 3072) {i N : Nat} {A : AS} {σ τ : St} (hi : i + 6 ≤ L) (hN : N ≤ 512) (ho : OK N A) (hC : RC A σ) (hR : RR A τ)
    (IH : ∀ (A' : AS) (σ' τ' : St), OK (N + 1) A' → RC A' σ' → RR A' τ' → G p l e room_1 s m #[Value.ref b] below meth c 8 D cA (fun q => s.heap.size ≤ q) (lw_Z below #[Value.ref b] s) 133 9561 (fun ad => ad 1000 = b) shB (cat σ' τ') [(3, .int (nI i)), (2, .ref 118), (1, .ref 0), (0, .ref 1000)] 1333 []) : G p l e room_1 s m #[Value.ref b] below meth c 8 D cA (fun q => s.heap.size ≤ q) (lw_Z below #[Value.ref b] s) 133 9561 (fun ad => ad 1000 = b) shB (cat σ τ) [(3, .int (nI i)), (2, .ref 118), (1, .ref 0), (0, .ref 1000)] 651 [] := by
  have hbA : ¬ s.heap.size ≤ b := by omega
  have hln := hC.ln
  refine g_aload_n X 2 dL_law_651 rfl rfl ?_
  refine g_aload_n X 3 dL_law_652 rfl rfl ?_
  refine g_iload_n X 0 dL_law_653 rfl rfl ?_
  refine g_iconst X (1 : Int32) dL_law_654 (by decide) ?_
  refine g_iadd X dL_law_655 ?_
  refine l_sld X hX hbl hbA dL_law_656 (nI_add i 1) (by omega) (by omega) ?_
  refine g_aload_n X 3 dL_law_657 rfl rfl ?_
  refine g_iload_n X 0 dL_law_658 rfl rfl ?_
  refine g_iconst X (2 : Int32) dL_law_659 (by decide) ?_
  refine g_iadd X dL_law_660 ?_
  refine l_sld X hX hbl hbA dL_law_661 (nI_add i 2) (by omega) (by omega) ?_
  refine g_aload_n X 3 dL_law_662 rfl rfl ?_
  refine g_iload_n X 0 dL_law_663 rfl rfl ?_
  refine g_iconst X (3 : Int32) dL_law_664 (by decide) ?_
  refine g_iadd X dL_law_665 ?_
  refine l_sld X hX hbl hbA dL_law_666 (nI_add i 3) (by omega) (by omega) ?_
  refine g_aload_n X 3 dL_law_667 rfl rfl ?_
  refine g_iload_n X 0 dL_law_668 rfl rfl ?_
  refine g_iconst X (4 : Int32) dL_law_669 (by decide) ?_
  refine g_iadd X dL_law_670 ?_
  refine l_sld X hX hbl hbA dL_law_671 (nI_add i 4) (by omega) (by omega) ?_
  refine g_aload_n X 3 dL_law_672 rfl rfl ?_
  refine g_iload_n X 0 dL_law_673 rfl rfl ?_
  refine g_iconst X (5 : Int32) dL_law_674 (by decide) ?_
  refine g_iadd X dL_law_675 ?_
  refine l_sld X hX hbl hbA dL_law_676 (nI_add i 5) (by omega) (by omega) ?_
  refine l_callIC X (n := 5) (C := RX4) (Qp := fun r σ' => r = (t_pair A (xs (i + 1)) (xs (i + 2)) (xs (i + 3)) (xs (i + 4)) (xs (i + 5))).1 ∧ RC (t_pair A (xs (i + 1)) (xs (i + 2)) (xs (i + 3)) (xs (i + 4)) (xs (i + 5))).2 σ') [.int (xs (i + 1)), .int (xs (i + 2)), .int (xs (i + 3)), .int (xs (i + 4)), .int (xs (i + 5))] [] dL_law_677 (c_X4_pair l D cA (s_pairC hC ho hN (fun σ' h => ⟨rfl, h⟩))) q377 q378 q379 q47 q380 rfl ⟨rfl, by decide, by decide, by decide +kernel⟩ rfl ⟨trivial, ⟨trivial, ⟨trivial, ⟨trivial, ⟨trivial, trivial⟩⟩⟩⟩⟩ rfl (Nat.le_of_ble_eq_true rfl) rfl rfl ⟨(Nat.le_of_ble_eq_true rfl), (Nat.le_of_ble_eq_true rfl)⟩ (Nat.le_of_ble_eq_true rfl) (Nat.le_of_ble_eq_true rfl) (fun r1 σ1 h1 => ?_)
  refine g_aload_n X 1 dL_law_680 rfl rfl ?_
  refine g_aload_n X 3 dL_law_681 rfl rfl ?_
  refine g_iload_n X 0 dL_law_682 rfl rfl ?_
  refine g_iconst X (1 : Int32) dL_law_683 (by decide) ?_
  refine g_iadd X dL_law_684 ?_
  refine l_sld X hX hbl hbA dL_law_685 (nI_add i 1) (by omega) (by omega) ?_
  refine g_aload_n X 3 dL_law_686 rfl rfl ?_
  refine g_iload_n X 0 dL_law_687 rfl rfl ?_
  refine g_iconst X (2 : Int32) dL_law_688 (by decide) ?_
  refine g_iadd X dL_law_689 ?_
  refine l_sld X hX hbl hbA dL_law_690 (nI_add i 2) (by omega) (by omega) ?_
  refine g_aload_n X 3 dL_law_691 rfl rfl ?_
  refine g_iload_n X 0 dL_law_692 rfl rfl ?_
  refine g_iconst X (3 : Int32) dL_law_693 (by decide) ?_
  refine g_iadd X dL_law_694 ?_
  refine l_sld X hX hbl hbA dL_law_695 (nI_add i 3) (by omega) (by omega) ?_
  refine g_aload_n X 3 dL_law_696 rfl rfl ?_
  refine g_iload_n X 0 dL_law_697 rfl rfl ?_
  refine g_iconst X (4 : Int32) dL_law_698 (by decide) ?_
  refine g_iadd X dL_law_699 ?_
  refine l_sld X hX hbl hbA dL_law_700 (nI_add i 4) (by omega) (by omega) ?_
  refine g_aload_n X 3 dL_law_701 rfl rfl ?_
  refine g_iload_n X 0 dL_law_702 rfl rfl ?_
  refine g_iconst X (5 : Int32) dL_law_703 (by decide) ?_
  refine g_iadd X dL_law_704 ?_
  refine l_sld X hX hbl hbA dL_law_705 (nI_add i 5) (by omega) (by omega) ?_
  refine l_callIR X (n := 5) (C := RX5) (Qp := fun r σ' => r = (t_pair A (xs (i + 1)) (xs (i + 2)) (xs (i + 3)) (xs (i + 4)) (xs (i + 5))).1 ∧ RR (t_pair A (xs (i + 1)) (xs (i + 2)) (xs (i + 3)) (xs (i + 4)) (xs (i + 5))).2 σ') [.int (xs (i + 1)), .int (xs (i + 2)), .int (xs (i + 3)), .int (xs (i + 4)), .int (xs (i + 5))] [.int r1] dL_law_706 (c_X5_pair l D cA (s_pairR hR ho (fun σ' h => ⟨rfl, h⟩))) q804 q805 q806 q57 q807 rfl ⟨rfl, by decide, by decide, by decide +kernel⟩ rfl ⟨trivial, ⟨trivial, ⟨trivial, ⟨trivial, ⟨trivial, trivial⟩⟩⟩⟩⟩ rfl (Nat.le_of_ble_eq_true rfl) rfl rfl ⟨(Nat.le_of_ble_eq_true rfl), (Nat.le_of_ble_eq_true rfl)⟩ (Nat.le_of_ble_eq_true rfl) (Nat.le_of_ble_eq_true rfl) (fun r2 σ2 h2 => ?_)
  exact g_icmp_eq X 1333 dL_law_709 (by decide) (fun _ => IH _ _ _ (k_pair ho hln) h1.2 h2.2) (fun z => absurd (h1.1.trans h2.1.symm) z)
theorem w_case11 (X : Cx p room_1 s m #[Value.ref b] meth c cL_law 8 RL D cA (fun q => s.heap.size ≤ q)) (hX : va_X b L xs s s.heap) (hbl : b < s.heap.size) (hL : L ≤ 3072) {i N : Nat} {A : AS} {σ τ : St} (hi : i + 6 ≤ L) (hN : N ≤ 512) (ho : OK N A) (hC : RC A σ) (hR : RR A τ)
    (IH : ∀ (A' : AS) (σ' τ' : St), OK (N + 1) A' → RC A' σ' → RR A' τ' → G p l e room_1 s m #[Value.ref b] below meth c 8 D cA (fun q => s.heap.size ≤ q) (lw_Z below #[Value.ref b] s) 133 9561 (fun ad => ad 1000 = b) shB (cat σ' τ') [(3, .int (nI i)), (2, .ref 118), (1, .ref 0), (0, .ref 1000)] 1333 []) : G p l e room_1 s m #[Value.ref b] below meth c 8 D cA (fun q => s.heap.size ≤ q) (lw_Z below #[Value.ref b] s) 133 9561 (fun ad => ad 1000 = b) shB (cat σ τ) [(3, .int (nI i)), (2, .ref 118), (1, .ref 0), (0, .ref 1000)] 714 [] := by
  have hbA : ¬ s.heap.size ≤ b := by omega
  have hln := hC.ln
  refine g_aload_n X 2 dL_law_714 rfl rfl ?_
  refine g_aload_n X 3 dL_law_715 rfl rfl ?_
  refine g_iload_n X 0 dL_law_716 rfl rfl ?_
  refine g_iconst X (1 : Int32) dL_law_717 (by decide) ?_
  refine g_iadd X dL_law_718 ?_
  refine l_sld X hX hbl hbA dL_law_719 (nI_add i 1) (by omega) (by omega) ?_
  refine g_aload_n X 3 dL_law_720 rfl rfl ?_
  refine g_iload_n X 0 dL_law_721 rfl rfl ?_
  refine g_iconst X (2 : Int32) dL_law_722 (by decide) ?_
  refine g_iadd X dL_law_723 ?_
  refine l_sld X hX hbl hbA dL_law_724 (nI_add i 2) (by omega) (by omega) ?_
  refine l_callIC X (n := 2) (C := RX4) (Qp := fun r σ' => r = (t_merge A (xs (i + 1)) (xs (i + 2))).1 ∧ RC (t_merge A (xs (i + 1)) (xs (i + 2))).2 σ') [.int (xs (i + 1)), .int (xs (i + 2))] [] dL_law_725 (c_X4_merge l D cA (s_mergeC hC ho hN (fun σ' h => ⟨rfl, h⟩))) q381 q382 q383 q47 q384 rfl ⟨rfl, by decide, by decide, by decide +kernel⟩ rfl ⟨trivial, ⟨trivial, trivial⟩⟩ rfl (Nat.le_of_ble_eq_true rfl) rfl rfl ⟨(Nat.le_of_ble_eq_true rfl), (Nat.le_of_ble_eq_true rfl)⟩ (Nat.le_of_ble_eq_true rfl) (Nat.le_of_ble_eq_true rfl) (fun r1 σ1 h1 => ?_)
  refine g_aload_n X 1 dL_law_728 rfl rfl ?_
  refine g_aload_n X 3 dL_law_729 rfl rfl ?_
  refine g_iload_n X 0 dL_law_730 rfl rfl ?_
  refine g_iconst X (1 : Int32) dL_law_731 (by decide) ?_
  refine g_iadd X dL_law_732 ?_
  refine l_sld X hX hbl hbA dL_law_733 (nI_add i 1) (by omega) (by omega) ?_
  refine g_aload_n X 3 dL_law_734 rfl rfl ?_
  refine g_iload_n X 0 dL_law_735 rfl rfl ?_
  refine g_iconst X (2 : Int32) dL_law_736 (by decide) ?_
  refine g_iadd X dL_law_737 ?_
  refine l_sld X hX hbl hbA dL_law_738 (nI_add i 2) (by omega) (by omega) ?_
  refine l_callIR X (n := 2) (C := RX5) (Qp := fun r σ' => r = (t_merge A (xs (i + 1)) (xs (i + 2))).1 ∧ RR (t_merge A (xs (i + 1)) (xs (i + 2))).2 σ') [.int (xs (i + 1)), .int (xs (i + 2))] [.int r1] dL_law_739 (c_X5_merge l D cA (s_mergeR hR ho (fun σ' h => ⟨rfl, h⟩))) q808 q809 q810 q57 q811 rfl ⟨rfl, by decide, by decide, by decide +kernel⟩ rfl ⟨trivial, ⟨trivial, trivial⟩⟩ rfl (Nat.le_of_ble_eq_true rfl) rfl rfl ⟨(Nat.le_of_ble_eq_true rfl), (Nat.le_of_ble_eq_true rfl)⟩ (Nat.le_of_ble_eq_true rfl) (Nat.le_of_ble_eq_true rfl) (fun r2 σ2 h2 => ?_)
  exact g_icmp_eq X 1333 dL_law_742 (by decide) (fun _ => IH _ _ _ (k_merge ho) h1.2 h2.2) (fun z => absurd (h1.1.trans h2.1.symm) z)
theorem w_case12 (X : Cx p room_1 s m #[Value.ref b] meth c cL_law 8 RL D cA (fun q => s.heap.size ≤ q)) (hX : va_X b L xs s s.heap) (hbl : b < s.heap.size) (hL : L ≤ 3072) {i N : Nat} {A : AS} {σ τ : St} (hi : i + 6 ≤ L) (hN : N ≤ 512) (ho : OK N A) (hC : RC A σ) (hR : RR A τ)
    (IH : ∀ (A' : AS) (σ' τ' : St), OK (N + 1) A' → RC A' σ' → RR A' τ' → G p l e room_1 s m #[Value.ref b] below meth c 8 D cA (fun q => s.heap.size ≤ q) (lw_Z below #[Value.ref b] s) 133 9561 (fun ad => ad 1000 = b) shB (cat σ' τ') [(3, .int (nI i)), (2, .ref 118), (1, .ref 0), (0, .ref 1000)] 1333 []) : G p l e room_1 s m #[Value.ref b] below meth c 8 D cA (fun q => s.heap.size ≤ q) (lw_Z below #[Value.ref b] s) 133 9561 (fun ad => ad 1000 = b) shB (cat σ τ) [(3, .int (nI i)), (2, .ref 118), (1, .ref 0), (0, .ref 1000)] 747 [] := by
  have hbA : ¬ s.heap.size ≤ b := by omega
  have hln := hC.ln
  refine g_aload_n X 2 dL_law_747 rfl rfl ?_
  refine g_aload_n X 3 dL_law_748 rfl rfl ?_
  refine g_iload_n X 0 dL_law_749 rfl rfl ?_
  refine g_iconst X (1 : Int32) dL_law_750 (by decide) ?_
  refine g_iadd X dL_law_751 ?_
  refine l_sld X hX hbl hbA dL_law_752 (nI_add i 1) (by omega) (by omega) ?_
  refine l_callIC X (n := 1) (C := RX4) (Qp := fun r σ' => r = (t_clear A (xs (i + 1))).1 ∧ RC (t_clear A (xs (i + 1))).2 σ') [.int (xs (i + 1))] [] dL_law_753 (c_X4_clear l D cA (s_clearC hC  (fun σ' h => ⟨rfl, h⟩))) q389 q390 q391 q47 q392 rfl ⟨rfl, by decide, by decide, by decide +kernel⟩ rfl ⟨trivial, trivial⟩ rfl (Nat.le_of_ble_eq_true rfl) rfl rfl ⟨(Nat.le_of_ble_eq_true rfl), (Nat.le_of_ble_eq_true rfl)⟩ (Nat.le_of_ble_eq_true rfl) (Nat.le_of_ble_eq_true rfl) (fun r1 σ1 h1 => ?_)
  refine g_aload_n X 1 dL_law_756 rfl rfl ?_
  refine g_aload_n X 3 dL_law_757 rfl rfl ?_
  refine g_iload_n X 0 dL_law_758 rfl rfl ?_
  refine g_iconst X (1 : Int32) dL_law_759 (by decide) ?_
  refine g_iadd X dL_law_760 ?_
  refine l_sld X hX hbl hbA dL_law_761 (nI_add i 1) (by omega) (by omega) ?_
  refine l_callIR X (n := 1) (C := RX5) (Qp := fun r σ' => r = (t_clear A (xs (i + 1))).1 ∧ RR (t_clear A (xs (i + 1))).2 σ') [.int (xs (i + 1))] [.int r1] dL_law_762 (c_X5_clear l D cA (s_clearR hR  (fun σ' h => ⟨rfl, h⟩))) q812 q813 q814 q57 q815 rfl ⟨rfl, by decide, by decide, by decide +kernel⟩ rfl ⟨trivial, trivial⟩ rfl (Nat.le_of_ble_eq_true rfl) rfl rfl ⟨(Nat.le_of_ble_eq_true rfl), (Nat.le_of_ble_eq_true rfl)⟩ (Nat.le_of_ble_eq_true rfl) (Nat.le_of_ble_eq_true rfl) (fun r2 σ2 h2 => ?_)
  exact g_icmp_eq X 1333 dL_law_765 (by decide) (fun _ => IH _ _ _ (k_clear ho) h1.2 h2.2) (fun z => absurd (h1.1.trans h2.1.symm) z)
theorem w_case13 (X : Cx p room_1 s m #[Value.ref b] meth c cL_law 8 RL D cA (fun q => s.heap.size ≤ q)) (hX : va_X b L xs s s.heap) (hbl : b < s.heap.size) (hL : L ≤ 3072) {i N : Nat} {A : AS} {σ τ : St} (hi : i + 6 ≤ L) (hN : N ≤ 512) (ho : OK N A) (hC : RC A σ) (hR : RR A τ)
    (IH : ∀ (A' : AS) (σ' τ' : St), OK (N + 1) A' → RC A' σ' → RR A' τ' → G p l e room_1 s m #[Value.ref b] below meth c 8 D cA (fun q => s.heap.size ≤ q) (lw_Z below #[Value.ref b] s) 133 9561 (fun ad => ad 1000 = b) shB (cat σ' τ') [(3, .int (nI i)), (2, .ref 118), (1, .ref 0), (0, .ref 1000)] 1333 []) : G p l e room_1 s m #[Value.ref b] below meth c 8 D cA (fun q => s.heap.size ≤ q) (lw_Z below #[Value.ref b] s) 133 9561 (fun ad => ad 1000 = b) shB (cat σ τ) [(3, .int (nI i)), (2, .ref 118), (1, .ref 0), (0, .ref 1000)] 770 [] := by
  have hbA : ¬ s.heap.size ≤ b := by omega
  have hln := hC.ln
  refine g_aload_n X 2 dL_law_770 rfl rfl ?_
  refine g_aload_n X 3 dL_law_771 rfl rfl ?_
  refine g_iload_n X 0 dL_law_772 rfl rfl ?_
  refine g_iconst X (1 : Int32) dL_law_773 (by decide) ?_
  refine g_iadd X dL_law_774 ?_
  refine l_sld X hX hbl hbA dL_law_775 (nI_add i 1) (by omega) (by omega) ?_
  refine g_aload_n X 3 dL_law_776 rfl rfl ?_
  refine g_iload_n X 0 dL_law_777 rfl rfl ?_
  refine g_iconst X (2 : Int32) dL_law_778 (by decide) ?_
  refine g_iadd X dL_law_779 ?_
  refine l_sld X hX hbl hbA dL_law_780 (nI_add i 2) (by omega) (by omega) ?_
  refine g_aload_n X 3 dL_law_781 rfl rfl ?_
  refine g_iload_n X 0 dL_law_782 rfl rfl ?_
  refine g_iconst X (3 : Int32) dL_law_783 (by decide) ?_
  refine g_iadd X dL_law_784 ?_
  refine l_sld X hX hbl hbA dL_law_785 (nI_add i 3) (by omega) (by omega) ?_
  refine g_aload_n X 3 dL_law_786 rfl rfl ?_
  refine g_iload_n X 0 dL_law_787 rfl rfl ?_
  refine g_iconst X (4 : Int32) dL_law_788 (by decide) ?_
  refine g_iadd X dL_law_789 ?_
  refine l_sld X hX hbl hbA dL_law_790 (nI_add i 4) (by omega) (by omega) ?_
  refine l_callIC X (n := 4) (C := RX4) (Qp := fun r σ' => r = (t_error A (xs (i + 1)) (xs (i + 2)) (xs (i + 3)) (xs (i + 4))).1 ∧ RC (t_error A (xs (i + 1)) (xs (i + 2)) (xs (i + 3)) (xs (i + 4))).2 σ') [.int (xs (i + 1)), .int (xs (i + 2)), .int (xs (i + 3)), .int (xs (i + 4))] [] dL_law_791 (c_X4_error l D cA (s_errorC hC ho h_err (fun σ' h => ⟨rfl, h⟩))) q393 q394 q395 q47 q396 rfl ⟨rfl, by decide, by decide, by decide +kernel⟩ rfl ⟨trivial, ⟨trivial, ⟨trivial, ⟨trivial, trivial⟩⟩⟩⟩ rfl (Nat.le_of_ble_eq_true rfl) rfl rfl ⟨(Nat.le_of_ble_eq_true rfl), (Nat.le_of_ble_eq_true rfl)⟩ (Nat.le_of_ble_eq_true rfl) (Nat.le_of_ble_eq_true rfl) (fun r1 σ1 h1 => ?_)
  refine g_aload_n X 1 dL_law_794 rfl rfl ?_
  refine g_aload_n X 3 dL_law_795 rfl rfl ?_
  refine g_iload_n X 0 dL_law_796 rfl rfl ?_
  refine g_iconst X (1 : Int32) dL_law_797 (by decide) ?_
  refine g_iadd X dL_law_798 ?_
  refine l_sld X hX hbl hbA dL_law_799 (nI_add i 1) (by omega) (by omega) ?_
  refine g_aload_n X 3 dL_law_800 rfl rfl ?_
  refine g_iload_n X 0 dL_law_801 rfl rfl ?_
  refine g_iconst X (2 : Int32) dL_law_802 (by decide) ?_
  refine g_iadd X dL_law_803 ?_
  refine l_sld X hX hbl hbA dL_law_804 (nI_add i 2) (by omega) (by omega) ?_
  refine g_aload_n X 3 dL_law_805 rfl rfl ?_
  refine g_iload_n X 0 dL_law_806 rfl rfl ?_
  refine g_iconst X (3 : Int32) dL_law_807 (by decide) ?_
  refine g_iadd X dL_law_808 ?_
  refine l_sld X hX hbl hbA dL_law_809 (nI_add i 3) (by omega) (by omega) ?_
  refine g_aload_n X 3 dL_law_810 rfl rfl ?_
  refine g_iload_n X 0 dL_law_811 rfl rfl ?_
  refine g_iconst X (4 : Int32) dL_law_812 (by decide) ?_
  refine g_iadd X dL_law_813 ?_
  refine l_sld X hX hbl hbA dL_law_814 (nI_add i 4) (by omega) (by omega) ?_
  refine l_callIR X (n := 4) (C := RX5) (Qp := fun r σ' => r = (t_error A (xs (i + 1)) (xs (i + 2)) (xs (i + 3)) (xs (i + 4))).1 ∧ RR (t_error A (xs (i + 1)) (xs (i + 2)) (xs (i + 3)) (xs (i + 4))).2 σ') [.int (xs (i + 1)), .int (xs (i + 2)), .int (xs (i + 3)), .int (xs (i + 4))] [.int r1] dL_law_815 (c_X5_error l D cA (s_errorR hR ho (fun σ' h => ⟨rfl, h⟩))) q816 q817 q818 q57 q819 rfl ⟨rfl, by decide, by decide, by decide +kernel⟩ rfl ⟨trivial, ⟨trivial, ⟨trivial, ⟨trivial, trivial⟩⟩⟩⟩ rfl (Nat.le_of_ble_eq_true rfl) rfl rfl ⟨(Nat.le_of_ble_eq_true rfl), (Nat.le_of_ble_eq_true rfl)⟩ (Nat.le_of_ble_eq_true rfl) (Nat.le_of_ble_eq_true rfl) (fun r2 σ2 h2 => ?_)
  exact g_icmp_eq X 1333 dL_law_818 (by decide) (fun _ => IH _ _ _ (k_error ho hln) h1.2 h2.2) (fun z => absurd (h1.1.trans h2.1.symm) z)
theorem w_case14 (X : Cx p room_1 s m #[Value.ref b] meth c cL_law 8 RL D cA (fun q => s.heap.size ≤ q)) (hX : va_X b L xs s s.heap) (hbl : b < s.heap.size) (hL : L ≤ 3072) {i N : Nat} {A : AS} {σ τ : St} (hi : i + 6 ≤ L) (hN : N ≤ 512) (ho : OK N A) (hC : RC A σ) (hR : RR A τ)
    (IH : ∀ (A' : AS) (σ' τ' : St), OK (N + 1) A' → RC A' σ' → RR A' τ' → G p l e room_1 s m #[Value.ref b] below meth c 8 D cA (fun q => s.heap.size ≤ q) (lw_Z below #[Value.ref b] s) 133 9561 (fun ad => ad 1000 = b) shB (cat σ' τ') [(3, .int (nI i)), (2, .ref 118), (1, .ref 0), (0, .ref 1000)] 1333 []) : G p l e room_1 s m #[Value.ref b] below meth c 8 D cA (fun q => s.heap.size ≤ q) (lw_Z below #[Value.ref b] s) 133 9561 (fun ad => ad 1000 = b) shB (cat σ τ) [(3, .int (nI i)), (2, .ref 118), (1, .ref 0), (0, .ref 1000)] 823 [] := by
  have hbA : ¬ s.heap.size ≤ b := by omega
  have hln := hC.ln
  refine g_aload_n X 2 dL_law_823 rfl rfl ?_
  refine g_aload_n X 3 dL_law_824 rfl rfl ?_
  refine g_iload_n X 0 dL_law_825 rfl rfl ?_
  refine g_iconst X (1 : Int32) dL_law_826 (by decide) ?_
  refine g_iadd X dL_law_827 ?_
  refine l_sld X hX hbl hbA dL_law_828 (nI_add i 1) (by omega) (by omega) ?_
  refine g_aload_n X 3 dL_law_829 rfl rfl ?_
  refine g_iload_n X 0 dL_law_830 rfl rfl ?_
  refine g_iconst X (2 : Int32) dL_law_831 (by decide) ?_
  refine g_iadd X dL_law_832 ?_
  refine l_sld X hX hbl hbA dL_law_833 (nI_add i 2) (by omega) (by omega) ?_
  refine g_aload_n X 3 dL_law_834 rfl rfl ?_
  refine g_iload_n X 0 dL_law_835 rfl rfl ?_
  refine g_iconst X (3 : Int32) dL_law_836 (by decide) ?_
  refine g_iadd X dL_law_837 ?_
  refine l_sld X hX hbl hbA dL_law_838 (nI_add i 3) (by omega) (by omega) ?_
  refine l_callDC X (n := 3) (C := RX4) (Qp := fun r σ' => r = t_plain A (xs (i + 1)) (xs (i + 2)) (xs (i + 3)) ∧ RC A σ') [.int (xs (i + 1)), .int (xs (i + 2)), .int (xs (i + 3))] [] dL_law_839 (c_X4_plain l D cA (s_plainC hC ho (fun σ' h => ⟨rfl, h⟩))) q417 q418 q419 q47 q420 rfl ⟨rfl, by decide, by decide, by decide +kernel⟩ rfl ⟨trivial, ⟨trivial, ⟨trivial, trivial⟩⟩⟩ rfl (Nat.le_of_ble_eq_true rfl) rfl rfl ⟨(Nat.le_of_ble_eq_true rfl), (Nat.le_of_ble_eq_true rfl)⟩ (Nat.le_of_ble_eq_true rfl) (Nat.le_of_ble_eq_true rfl) (fun r1 σ1 h1 => ?_)
  refine g_dstore X [(4, .double r1), (3, .int (nI i)), (2, .ref 118), (1, .ref 0), (0, .ref 1000)] dL_law_842 (Nat.le_of_ble_eq_true rfl) rfl ?_
  refine g_aload_n X 2 dL_law_844 rfl rfl ?_
  refine g_aload_n X 4 dL_law_845 rfl rfl ?_
  refine g_iload_n X 1 dL_law_846 rfl rfl ?_
  refine g_iconst X (1 : Int32) dL_law_847 (by decide) ?_
  refine g_iadd X dL_law_848 ?_
  refine l_sld X hX hbl hbA dL_law_849 (nI_add i 1) (by omega) (by omega) ?_
  refine g_aload_n X 4 dL_law_850 rfl rfl ?_
  refine g_iload_n X 1 dL_law_851 rfl rfl ?_
  refine g_iconst X (2 : Int32) dL_law_852 (by decide) ?_
  refine g_iadd X dL_law_853 ?_
  refine l_sld X hX hbl hbA dL_law_854 (nI_add i 2) (by omega) (by omega) ?_
  refine g_aload_n X 4 dL_law_855 rfl rfl ?_
  refine g_iload_n X 1 dL_law_856 rfl rfl ?_
  refine g_iconst X (3 : Int32) dL_law_857 (by decide) ?_
  refine g_iadd X dL_law_858 ?_
  refine l_sld X hX hbl hbA dL_law_859 (nI_add i 3) (by omega) (by omega) ?_
  refine l_callDR X (n := 3) (C := RX5) (Qp := fun r σ' => r = t_plain A (xs (i + 1)) (xs (i + 2)) (xs (i + 3)) ∧ RR A σ') [.int (xs (i + 1)), .int (xs (i + 2)), .int (xs (i + 3))] [] dL_law_860 (c_X5_plain l D cA (s_plainR hR ho (fun σ' h => ⟨rfl, h⟩))) q824 q825 q826 q57 q827 rfl ⟨rfl, by decide, by decide, by decide +kernel⟩ rfl ⟨trivial, ⟨trivial, ⟨trivial, trivial⟩⟩⟩ rfl (Nat.le_of_ble_eq_true rfl) rfl rfl ⟨(Nat.le_of_ble_eq_true rfl), (Nat.le_of_ble_eq_true rfl)⟩ (Nat.le_of_ble_eq_true rfl) (Nat.le_of_ble_eq_true rfl) (fun r2 σ2 h2 => ?_)
  refine g_dstore X [(6, .double r2), (4, .double r1), (3, .int (nI i)), (2, .ref 118), (1, .ref 0), (0, .ref 1000)] dL_law_863 (Nat.le_of_ble_eq_true rfl) rfl ?_
  obtain ⟨rfl, h1⟩ := h1
  obtain ⟨rfl, h2⟩ := h2
  refine g_dload X 1 dL_law_865 rfl ?_
  refine g_dload X 0 dL_law_867 rfl ?_
  refine g_dcmp X dL_law_869 ?_
  have fin : G p l e room_1 s m #[Value.ref b] below meth c 8 D cA (fun q => s.heap.size ≤ q) (lw_Z below #[Value.ref b] s) 133 9561 (fun ad => ad 1000 = b) shB (cat σ1 σ2) [(6, .double (t_plain A (xs (i + 1)) (xs (i + 2)) (xs (i + 3)))), (4, .double (t_plain A (xs (i + 1)) (xs (i + 2)) (xs (i + 3)))), (3, .int (nI i)), (2, .ref 118), (1, .ref 0), (0, .ref 1000)] 891 [] := g_goto X 1333 dL_law_891 (by decide) (g_weak [2, 3, 4, 5] rfl (IH _ _ _ ho.up h1 h2))
  refine g_if_eq X 891 dL_law_870 (by decide) (fun _ => fin) (fun z1 => ?_)
  refine g_dload X 1 dL_law_873 rfl ?_
  refine g_dload X 1 dL_law_875 rfl ?_
  refine g_dcmp X dL_law_877 ?_
  refine g_if_eq X 889 dL_law_878 (by decide) (fun z => absurd z z1) (fun _ => ?_)
  refine g_dload X 0 dL_law_881 rfl ?_
  refine g_dload X 0 dL_law_883 rfl ?_
  refine g_dcmp X dL_law_885 ?_
  exact g_if_ne X 891 dL_law_886 (by decide) (fun _ => fin) (fun z => absurd z z1)
theorem w_case15 (X : Cx p room_1 s m #[Value.ref b] meth c cL_law 8 RL D cA (fun q => s.heap.size ≤ q)) (hX : va_X b L xs s s.heap) (hbl : b < s.heap.size) (hL : L ≤ 3072) {i N : Nat} {A : AS} {σ τ : St} (hi : i + 6 ≤ L) (hN : N ≤ 512) (ho : OK N A) (hC : RC A σ) (hR : RR A τ)
    (IH : ∀ (A' : AS) (σ' τ' : St), OK (N + 1) A' → RC A' σ' → RR A' τ' → G p l e room_1 s m #[Value.ref b] below meth c 8 D cA (fun q => s.heap.size ≤ q) (lw_Z below #[Value.ref b] s) 133 9561 (fun ad => ad 1000 = b) shB (cat σ' τ') [(3, .int (nI i)), (2, .ref 118), (1, .ref 0), (0, .ref 1000)] 1333 []) : G p l e room_1 s m #[Value.ref b] below meth c 8 D cA (fun q => s.heap.size ≤ q) (lw_Z below #[Value.ref b] s) 133 9561 (fun ad => ad 1000 = b) shB (cat σ τ) [(3, .int (nI i)), (2, .ref 118), (1, .ref 0), (0, .ref 1000)] 894 [] := by
  have hbA : ¬ s.heap.size ≤ b := by omega
  have hln := hC.ln
  refine g_aload_n X 2 dL_law_894 rfl rfl ?_
  refine g_aload_n X 3 dL_law_895 rfl rfl ?_
  refine g_iload_n X 0 dL_law_896 rfl rfl ?_
  refine g_iconst X (1 : Int32) dL_law_897 (by decide) ?_
  refine g_iadd X dL_law_898 ?_
  refine l_sld X hX hbl hbA dL_law_899 (nI_add i 1) (by omega) (by omega) ?_
  refine l_callIC X (n := 1) (C := RX4) (Qp := fun r σ' => r = t_sort A (xs (i + 1)) ∧ RC A σ') [.int (xs (i + 1))] [] dL_law_900 (c_X4_sort l D cA (s_sortC hC  (fun σ' h => ⟨rfl, h⟩))) q421 q422 q423 q47 q424 rfl ⟨rfl, by decide, by decide, by decide +kernel⟩ rfl ⟨trivial, trivial⟩ rfl (Nat.le_of_ble_eq_true rfl) rfl rfl ⟨(Nat.le_of_ble_eq_true rfl), (Nat.le_of_ble_eq_true rfl)⟩ (Nat.le_of_ble_eq_true rfl) (Nat.le_of_ble_eq_true rfl) (fun r1 σ1 h1 => ?_)
  refine g_aload_n X 1 dL_law_903 rfl rfl ?_
  refine g_aload_n X 3 dL_law_904 rfl rfl ?_
  refine g_iload_n X 0 dL_law_905 rfl rfl ?_
  refine g_iconst X (1 : Int32) dL_law_906 (by decide) ?_
  refine g_iadd X dL_law_907 ?_
  refine l_sld X hX hbl hbA dL_law_908 (nI_add i 1) (by omega) (by omega) ?_
  refine l_callIR X (n := 1) (C := RX5) (Qp := fun r σ' => r = t_sort A (xs (i + 1)) ∧ RR A σ') [.int (xs (i + 1))] [.int r1] dL_law_909 (c_X5_sort l D cA (s_sortR hR  (fun σ' h => ⟨rfl, h⟩))) q828 q829 q830 q57 q831 rfl ⟨rfl, by decide, by decide, by decide +kernel⟩ rfl ⟨trivial, trivial⟩ rfl (Nat.le_of_ble_eq_true rfl) rfl rfl ⟨(Nat.le_of_ble_eq_true rfl), (Nat.le_of_ble_eq_true rfl)⟩ (Nat.le_of_ble_eq_true rfl) (Nat.le_of_ble_eq_true rfl) (fun r2 σ2 h2 => ?_)
  exact g_icmp_eq X 1333 dL_law_912 (by decide) (fun _ => IH _ _ _ ho.up h1.2 h2.2) (fun z => absurd (h1.1.trans h2.1.symm) z)
theorem w_case16 (X : Cx p room_1 s m #[Value.ref b] meth c cL_law 8 RL D cA (fun q => s.heap.size ≤ q)) (hX : va_X b L xs s s.heap) (hbl : b < s.heap.size) (hL : L ≤ 3072) {i N : Nat} {A : AS} {σ τ : St} (hi : i + 6 ≤ L) (hN : N ≤ 512) (ho : OK N A) (hC : RC A σ) (hR : RR A τ)
    (IH : ∀ (A' : AS) (σ' τ' : St), OK (N + 1) A' → RC A' σ' → RR A' τ' → G p l e room_1 s m #[Value.ref b] below meth c 8 D cA (fun q => s.heap.size ≤ q) (lw_Z below #[Value.ref b] s) 133 9561 (fun ad => ad 1000 = b) shB (cat σ' τ') [(3, .int (nI i)), (2, .ref 118), (1, .ref 0), (0, .ref 1000)] 1333 []) : G p l e room_1 s m #[Value.ref b] below meth c 8 D cA (fun q => s.heap.size ≤ q) (lw_Z below #[Value.ref b] s) 133 9561 (fun ad => ad 1000 = b) shB (cat σ τ) [(3, .int (nI i)), (2, .ref 118), (1, .ref 0), (0, .ref 1000)] 917 [] := by
  have hbA : ¬ s.heap.size ≤ b := by omega
  have hln := hC.ln
  refine g_aload_n X 2 dL_law_917 rfl rfl ?_
  refine g_aload_n X 3 dL_law_918 rfl rfl ?_
  refine g_iload_n X 0 dL_law_919 rfl rfl ?_
  refine g_iconst X (1 : Int32) dL_law_920 (by decide) ?_
  refine g_iadd X dL_law_921 ?_
  refine l_sld X hX hbl hbA dL_law_922 (nI_add i 1) (by omega) (by omega) ?_
  refine g_aload_n X 3 dL_law_923 rfl rfl ?_
  refine g_iload_n X 0 dL_law_924 rfl rfl ?_
  refine g_iconst X (2 : Int32) dL_law_925 (by decide) ?_
  refine g_iadd X dL_law_926 ?_
  refine l_sld X hX hbl hbA dL_law_927 (nI_add i 2) (by omega) (by omega) ?_
  refine l_callIC X (n := 2) (C := RX4) (Qp := fun r σ' => r = t_seen A (xs (i + 1)) (xs (i + 2)) ∧ RC A σ') [.int (xs (i + 1)), .int (xs (i + 2))] [] dL_law_928 (c_X4_seen l D cA (s_seenC hC  (fun σ' h => ⟨rfl, h⟩))) q433 q434 q435 q47 q436 rfl ⟨rfl, by decide, by decide, by decide +kernel⟩ rfl ⟨trivial, ⟨trivial, trivial⟩⟩ rfl (Nat.le_of_ble_eq_true rfl) rfl rfl ⟨(Nat.le_of_ble_eq_true rfl), (Nat.le_of_ble_eq_true rfl)⟩ (Nat.le_of_ble_eq_true rfl) (Nat.le_of_ble_eq_true rfl) (fun r1 σ1 h1 => ?_)
  refine g_aload_n X 1 dL_law_931 rfl rfl ?_
  refine g_aload_n X 3 dL_law_932 rfl rfl ?_
  refine g_iload_n X 0 dL_law_933 rfl rfl ?_
  refine g_iconst X (1 : Int32) dL_law_934 (by decide) ?_
  refine g_iadd X dL_law_935 ?_
  refine l_sld X hX hbl hbA dL_law_936 (nI_add i 1) (by omega) (by omega) ?_
  refine g_aload_n X 3 dL_law_937 rfl rfl ?_
  refine g_iload_n X 0 dL_law_938 rfl rfl ?_
  refine g_iconst X (2 : Int32) dL_law_939 (by decide) ?_
  refine g_iadd X dL_law_940 ?_
  refine l_sld X hX hbl hbA dL_law_941 (nI_add i 2) (by omega) (by omega) ?_
  refine l_callIR X (n := 2) (C := RX5) (Qp := fun r σ' => r = t_seen A (xs (i + 1)) (xs (i + 2)) ∧ RR A σ') [.int (xs (i + 1)), .int (xs (i + 2))] [.int r1] dL_law_942 (c_X5_seen l D cA (s_seenR hR  (fun σ' h => ⟨rfl, h⟩))) q836 q837 q838 q57 q839 rfl ⟨rfl, by decide, by decide, by decide +kernel⟩ rfl ⟨trivial, ⟨trivial, trivial⟩⟩ rfl (Nat.le_of_ble_eq_true rfl) rfl rfl ⟨(Nat.le_of_ble_eq_true rfl), (Nat.le_of_ble_eq_true rfl)⟩ (Nat.le_of_ble_eq_true rfl) (Nat.le_of_ble_eq_true rfl) (fun r2 σ2 h2 => ?_)
  exact g_icmp_eq X 1333 dL_law_945 (by decide) (fun _ => IH _ _ _ ho.up h1.2 h2.2) (fun z => absurd (h1.1.trans h2.1.symm) z)
theorem w_case17 (X : Cx p room_1 s m #[Value.ref b] meth c cL_law 8 RL D cA (fun q => s.heap.size ≤ q)) (hX : va_X b L xs s s.heap) (hbl : b < s.heap.size) (hL : L ≤ 3072) {i N : Nat} {A : AS} {σ τ : St} (hi : i + 6 ≤ L) (hN : N ≤ 512) (ho : OK N A) (hC : RC A σ) (hR : RR A τ)
    (IH : ∀ (A' : AS) (σ' τ' : St), OK (N + 1) A' → RC A' σ' → RR A' τ' → G p l e room_1 s m #[Value.ref b] below meth c 8 D cA (fun q => s.heap.size ≤ q) (lw_Z below #[Value.ref b] s) 133 9561 (fun ad => ad 1000 = b) shB (cat σ' τ') [(3, .int (nI i)), (2, .ref 118), (1, .ref 0), (0, .ref 1000)] 1333 []) : G p l e room_1 s m #[Value.ref b] below meth c 8 D cA (fun q => s.heap.size ≤ q) (lw_Z below #[Value.ref b] s) 133 9561 (fun ad => ad 1000 = b) shB (cat σ τ) [(3, .int (nI i)), (2, .ref 118), (1, .ref 0), (0, .ref 1000)] 950 [] := by
  have hbA : ¬ s.heap.size ≤ b := by omega
  have hln := hC.ln
  by_cases hz : (xs (i + 3)) = 0
  · skip
    refine g_aload_n X 2 dL_law_950 rfl rfl ?_
    refine g_aload_n X 3 dL_law_951 rfl rfl ?_
    refine g_iload_n X 0 dL_law_952 rfl rfl ?_
    refine g_iconst X (1 : Int32) dL_law_953 (by decide) ?_
    refine g_iadd X dL_law_954 ?_
    refine l_sld X hX hbl hbA dL_law_955 (nI_add i 1) (by omega) (by omega) ?_
    refine g_aload_n X 3 dL_law_956 rfl rfl ?_
    refine g_iload_n X 0 dL_law_957 rfl rfl ?_
    refine g_iconst X (2 : Int32) dL_law_958 (by decide) ?_
    refine g_iadd X dL_law_959 ?_
    refine l_sld X hX hbl hbA dL_law_960 (nI_add i 2) (by omega) (by omega) ?_
    refine g_aload_n X 3 dL_law_961 rfl rfl ?_
    refine g_iload_n X 0 dL_law_962 rfl rfl ?_
    refine g_iconst X (3 : Int32) dL_law_963 (by decide) ?_
    refine g_iadd X dL_law_964 ?_
    refine l_sld X hX hbl hbA dL_law_965 (nI_add i 3) (by omega) (by omega) ?_
    refine g_if_eq X 973 dL_law_966 (by decide) (fun _ => ?_) (fun z => absurd hz z)
    refine g_iconst X (0 : Int32) dL_law_973 (by decide) ?_
    refine l_callDC X (n := 3) (C := RX4) (Qp := fun r σ' => r = t_tell A (xs (i + 1)) (xs (i + 2)) (0 : Int32) ∧ RC A σ') [.int (xs (i + 1)), .int (xs (i + 2)), .int (0 : Int32)] [] dL_law_974 (c_X4_tell l D cA (s_tellC hC ho hN (fun σ' h => ⟨rfl, h⟩))) q437 q438 q439 q47 q440 rfl ⟨rfl, by decide, by decide, by decide +kernel⟩ rfl ⟨trivial, ⟨trivial, ⟨trivial, trivial⟩⟩⟩ rfl (Nat.le_of_ble_eq_true rfl) rfl rfl ⟨(Nat.le_of_ble_eq_true rfl), (Nat.le_of_ble_eq_true rfl)⟩ (Nat.le_of_ble_eq_true rfl) (Nat.le_of_ble_eq_true rfl) (fun r1 σ1 h1 => ?_)
    refine g_dstore X [(4, .double r1), (3, .int (nI i)), (2, .ref 118), (1, .ref 0), (0, .ref 1000)] dL_law_977 (Nat.le_of_ble_eq_true rfl) rfl ?_
    refine g_aload_n X 2 dL_law_979 rfl rfl ?_
    refine g_aload_n X 4 dL_law_980 rfl rfl ?_
    refine g_iload_n X 1 dL_law_981 rfl rfl ?_
    refine g_iconst X (1 : Int32) dL_law_982 (by decide) ?_
    refine g_iadd X dL_law_983 ?_
    refine l_sld X hX hbl hbA dL_law_984 (nI_add i 1) (by omega) (by omega) ?_
    refine g_aload_n X 4 dL_law_985 rfl rfl ?_
    refine g_iload_n X 1 dL_law_986 rfl rfl ?_
    refine g_iconst X (2 : Int32) dL_law_987 (by decide) ?_
    refine g_iadd X dL_law_988 ?_
    refine l_sld X hX hbl hbA dL_law_989 (nI_add i 2) (by omega) (by omega) ?_
    refine g_aload_n X 4 dL_law_990 rfl rfl ?_
    refine g_iload_n X 1 dL_law_991 rfl rfl ?_
    refine g_iconst X (3 : Int32) dL_law_992 (by decide) ?_
    refine g_iadd X dL_law_993 ?_
    refine l_sld X hX hbl hbA dL_law_994 (nI_add i 3) (by omega) (by omega) ?_
    refine g_if_eq X 1002 dL_law_995 (by decide) (fun _ => ?_) (fun z => absurd hz z)
    refine g_iconst X (0 : Int32) dL_law_1002 (by decide) ?_
    refine l_callDR X (n := 3) (C := RX5) (Qp := fun r σ' => r = t_tell A (xs (i + 1)) (xs (i + 2)) (0 : Int32) ∧ RR A σ') [.int (xs (i + 1)), .int (xs (i + 2)), .int (0 : Int32)] [] dL_law_1003 (c_X5_tell l D cA (s_tellR hR ho hN (fun σ' h => ⟨rfl, h⟩))) q840 q841 q842 q57 q843 rfl ⟨rfl, by decide, by decide, by decide +kernel⟩ rfl ⟨trivial, ⟨trivial, ⟨trivial, trivial⟩⟩⟩ rfl (Nat.le_of_ble_eq_true rfl) rfl rfl ⟨(Nat.le_of_ble_eq_true rfl), (Nat.le_of_ble_eq_true rfl)⟩ (Nat.le_of_ble_eq_true rfl) (Nat.le_of_ble_eq_true rfl) (fun r2 σ2 h2 => ?_)
    refine g_dstore X [(6, .double r2), (4, .double r1), (3, .int (nI i)), (2, .ref 118), (1, .ref 0), (0, .ref 1000)] dL_law_1006 (Nat.le_of_ble_eq_true rfl) rfl ?_
    obtain ⟨rfl, h1⟩ := h1
    obtain ⟨rfl, h2⟩ := h2
    refine g_dload X 1 dL_law_1008 rfl ?_
    refine g_dload X 0 dL_law_1010 rfl ?_
    refine g_dcmp X dL_law_1012 ?_
    have fin : G p l e room_1 s m #[Value.ref b] below meth c 8 D cA (fun q => s.heap.size ≤ q) (lw_Z below #[Value.ref b] s) 133 9561 (fun ad => ad 1000 = b) shB (cat σ1 σ2) [(6, .double (t_tell A (xs (i + 1)) (xs (i + 2)) (0 : Int32))), (4, .double (t_tell A (xs (i + 1)) (xs (i + 2)) (0 : Int32))), (3, .int (nI i)), (2, .ref 118), (1, .ref 0), (0, .ref 1000)] 1034 [] := g_goto X 1333 dL_law_1034 (by decide) (g_weak [2, 3, 4, 5] rfl (IH _ _ _ ho.up h1 h2))
    refine g_if_eq X 1034 dL_law_1013 (by decide) (fun _ => fin) (fun z1 => ?_)
    refine g_dload X 1 dL_law_1016 rfl ?_
    refine g_dload X 1 dL_law_1018 rfl ?_
    refine g_dcmp X dL_law_1020 ?_
    refine g_if_eq X 1032 dL_law_1021 (by decide) (fun z => absurd z z1) (fun _ => ?_)
    refine g_dload X 0 dL_law_1024 rfl ?_
    refine g_dload X 0 dL_law_1026 rfl ?_
    refine g_dcmp X dL_law_1028 ?_
    exact g_if_ne X 1034 dL_law_1029 (by decide) (fun _ => fin) (fun z => absurd z z1)
  · skip
    refine g_aload_n X 2 dL_law_950 rfl rfl ?_
    refine g_aload_n X 3 dL_law_951 rfl rfl ?_
    refine g_iload_n X 0 dL_law_952 rfl rfl ?_
    refine g_iconst X (1 : Int32) dL_law_953 (by decide) ?_
    refine g_iadd X dL_law_954 ?_
    refine l_sld X hX hbl hbA dL_law_955 (nI_add i 1) (by omega) (by omega) ?_
    refine g_aload_n X 3 dL_law_956 rfl rfl ?_
    refine g_iload_n X 0 dL_law_957 rfl rfl ?_
    refine g_iconst X (2 : Int32) dL_law_958 (by decide) ?_
    refine g_iadd X dL_law_959 ?_
    refine l_sld X hX hbl hbA dL_law_960 (nI_add i 2) (by omega) (by omega) ?_
    refine g_aload_n X 3 dL_law_961 rfl rfl ?_
    refine g_iload_n X 0 dL_law_962 rfl rfl ?_
    refine g_iconst X (3 : Int32) dL_law_963 (by decide) ?_
    refine g_iadd X dL_law_964 ?_
    refine l_sld X hX hbl hbA dL_law_965 (nI_add i 3) (by omega) (by omega) ?_
    refine g_if_eq X 973 dL_law_966 (by decide) (fun z => absurd z hz) (fun _ => ?_)
    refine g_iconst X (1 : Int32) dL_law_969 (by decide) ?_
    refine g_goto X 974 dL_law_970 (by decide) ?_
    refine l_callDC X (n := 3) (C := RX4) (Qp := fun r σ' => r = t_tell A (xs (i + 1)) (xs (i + 2)) (1 : Int32) ∧ RC A σ') [.int (xs (i + 1)), .int (xs (i + 2)), .int (1 : Int32)] [] dL_law_974 (c_X4_tell l D cA (s_tellC hC ho hN (fun σ' h => ⟨rfl, h⟩))) q437 q438 q439 q47 q440 rfl ⟨rfl, by decide, by decide, by decide +kernel⟩ rfl ⟨trivial, ⟨trivial, ⟨trivial, trivial⟩⟩⟩ rfl (Nat.le_of_ble_eq_true rfl) rfl rfl ⟨(Nat.le_of_ble_eq_true rfl), (Nat.le_of_ble_eq_true rfl)⟩ (Nat.le_of_ble_eq_true rfl) (Nat.le_of_ble_eq_true rfl) (fun r1 σ1 h1 => ?_)
    refine g_dstore X [(4, .double r1), (3, .int (nI i)), (2, .ref 118), (1, .ref 0), (0, .ref 1000)] dL_law_977 (Nat.le_of_ble_eq_true rfl) rfl ?_
    refine g_aload_n X 2 dL_law_979 rfl rfl ?_
    refine g_aload_n X 4 dL_law_980 rfl rfl ?_
    refine g_iload_n X 1 dL_law_981 rfl rfl ?_
    refine g_iconst X (1 : Int32) dL_law_982 (by decide) ?_
    refine g_iadd X dL_law_983 ?_
    refine l_sld X hX hbl hbA dL_law_984 (nI_add i 1) (by omega) (by omega) ?_
    refine g_aload_n X 4 dL_law_985 rfl rfl ?_
    refine g_iload_n X 1 dL_law_986 rfl rfl ?_
    refine g_iconst X (2 : Int32) dL_law_987 (by decide) ?_
    refine g_iadd X dL_law_988 ?_
    refine l_sld X hX hbl hbA dL_law_989 (nI_add i 2) (by omega) (by omega) ?_
    refine g_aload_n X 4 dL_law_990 rfl rfl ?_
    refine g_iload_n X 1 dL_law_991 rfl rfl ?_
    refine g_iconst X (3 : Int32) dL_law_992 (by decide) ?_
    refine g_iadd X dL_law_993 ?_
    refine l_sld X hX hbl hbA dL_law_994 (nI_add i 3) (by omega) (by omega) ?_
    refine g_if_eq X 1002 dL_law_995 (by decide) (fun z => absurd z hz) (fun _ => ?_)
    refine g_iconst X (1 : Int32) dL_law_998 (by decide) ?_
    refine g_goto X 1003 dL_law_999 (by decide) ?_
    refine l_callDR X (n := 3) (C := RX5) (Qp := fun r σ' => r = t_tell A (xs (i + 1)) (xs (i + 2)) (1 : Int32) ∧ RR A σ') [.int (xs (i + 1)), .int (xs (i + 2)), .int (1 : Int32)] [] dL_law_1003 (c_X5_tell l D cA (s_tellR hR ho hN (fun σ' h => ⟨rfl, h⟩))) q840 q841 q842 q57 q843 rfl ⟨rfl, by decide, by decide, by decide +kernel⟩ rfl ⟨trivial, ⟨trivial, ⟨trivial, trivial⟩⟩⟩ rfl (Nat.le_of_ble_eq_true rfl) rfl rfl ⟨(Nat.le_of_ble_eq_true rfl), (Nat.le_of_ble_eq_true rfl)⟩ (Nat.le_of_ble_eq_true rfl) (Nat.le_of_ble_eq_true rfl) (fun r2 σ2 h2 => ?_)
    refine g_dstore X [(6, .double r2), (4, .double r1), (3, .int (nI i)), (2, .ref 118), (1, .ref 0), (0, .ref 1000)] dL_law_1006 (Nat.le_of_ble_eq_true rfl) rfl ?_
    obtain ⟨rfl, h1⟩ := h1
    obtain ⟨rfl, h2⟩ := h2
    refine g_dload X 1 dL_law_1008 rfl ?_
    refine g_dload X 0 dL_law_1010 rfl ?_
    refine g_dcmp X dL_law_1012 ?_
    have fin : G p l e room_1 s m #[Value.ref b] below meth c 8 D cA (fun q => s.heap.size ≤ q) (lw_Z below #[Value.ref b] s) 133 9561 (fun ad => ad 1000 = b) shB (cat σ1 σ2) [(6, .double (t_tell A (xs (i + 1)) (xs (i + 2)) (1 : Int32))), (4, .double (t_tell A (xs (i + 1)) (xs (i + 2)) (1 : Int32))), (3, .int (nI i)), (2, .ref 118), (1, .ref 0), (0, .ref 1000)] 1034 [] := g_goto X 1333 dL_law_1034 (by decide) (g_weak [2, 3, 4, 5] rfl (IH _ _ _ ho.up h1 h2))
    refine g_if_eq X 1034 dL_law_1013 (by decide) (fun _ => fin) (fun z1 => ?_)
    refine g_dload X 1 dL_law_1016 rfl ?_
    refine g_dload X 1 dL_law_1018 rfl ?_
    refine g_dcmp X dL_law_1020 ?_
    refine g_if_eq X 1032 dL_law_1021 (by decide) (fun z => absurd z z1) (fun _ => ?_)
    refine g_dload X 0 dL_law_1024 rfl ?_
    refine g_dload X 0 dL_law_1026 rfl ?_
    refine g_dcmp X dL_law_1028 ?_
    exact g_if_ne X 1034 dL_law_1029 (by decide) (fun _ => fin) (fun z => absurd z z1)
theorem w_case18 (X : Cx p room_1 s m #[Value.ref b] meth c cL_law 8 RL D cA (fun q => s.heap.size ≤ q)) (hX : va_X b L xs s s.heap) (hbl : b < s.heap.size) (hL : L ≤ 3072) {i N : Nat} {A : AS} {σ τ : St} (hi : i + 6 ≤ L) (hN : N ≤ 512) (ho : OK N A) (hC : RC A σ) (hR : RR A τ)
    (IH : ∀ (A' : AS) (σ' τ' : St), OK (N + 1) A' → RC A' σ' → RR A' τ' → G p l e room_1 s m #[Value.ref b] below meth c 8 D cA (fun q => s.heap.size ≤ q) (lw_Z below #[Value.ref b] s) 133 9561 (fun ad => ad 1000 = b) shB (cat σ' τ') [(3, .int (nI i)), (2, .ref 118), (1, .ref 0), (0, .ref 1000)] 1333 []) : G p l e room_1 s m #[Value.ref b] below meth c 8 D cA (fun q => s.heap.size ≤ q) (lw_Z below #[Value.ref b] s) 133 9561 (fun ad => ad 1000 = b) shB (cat σ τ) [(3, .int (nI i)), (2, .ref 118), (1, .ref 0), (0, .ref 1000)] 1037 [] := by
  have hbA : ¬ s.heap.size ≤ b := by omega
  have hln := hC.ln
  refine g_aload_n X 2 dL_law_1037 rfl rfl ?_
  refine g_aload_n X 3 dL_law_1038 rfl rfl ?_
  refine g_iload_n X 0 dL_law_1039 rfl rfl ?_
  refine g_iconst X (1 : Int32) dL_law_1040 (by decide) ?_
  refine g_iadd X dL_law_1041 ?_
  refine l_sld X hX hbl hbA dL_law_1042 (nI_add i 1) (by omega) (by omega) ?_
  refine g_aload_n X 3 dL_law_1043 rfl rfl ?_
  refine g_iload_n X 0 dL_law_1044 rfl rfl ?_
  refine g_iconst X (2 : Int32) dL_law_1045 (by decide) ?_
  refine g_iadd X dL_law_1046 ?_
  refine l_sld X hX hbl hbA dL_law_1047 (nI_add i 2) (by omega) (by omega) ?_
  refine g_aload_n X 3 dL_law_1048 rfl rfl ?_
  refine g_iload_n X 0 dL_law_1049 rfl rfl ?_
  refine g_iconst X (3 : Int32) dL_law_1050 (by decide) ?_
  refine g_iadd X dL_law_1051 ?_
  refine l_sld X hX hbl hbA dL_law_1052 (nI_add i 3) (by omega) (by omega) ?_
  refine l_callDC X (n := 3) (C := RX4) (Qp := fun r σ' => r = t_mean A (xs (i + 1)) (xs (i + 2)) (xs (i + 3)) ∧ RC A σ') [.int (xs (i + 1)), .int (xs (i + 2)), .int (xs (i + 3))] [] dL_law_1053 (c_X4_mean l D cA (s_meanC hC ho hN (fun σ' h => ⟨rfl, h⟩))) q496 q497 q498 q47 q499 rfl ⟨rfl, by decide, by decide, by decide +kernel⟩ rfl ⟨trivial, ⟨trivial, ⟨trivial, trivial⟩⟩⟩ rfl (Nat.le_of_ble_eq_true rfl) rfl rfl ⟨(Nat.le_of_ble_eq_true rfl), (Nat.le_of_ble_eq_true rfl)⟩ (Nat.le_of_ble_eq_true rfl) (Nat.le_of_ble_eq_true rfl) (fun r1 σ1 h1 => ?_)
  refine g_dstore X [(4, .double r1), (3, .int (nI i)), (2, .ref 118), (1, .ref 0), (0, .ref 1000)] dL_law_1056 (Nat.le_of_ble_eq_true rfl) rfl ?_
  refine g_aload_n X 2 dL_law_1058 rfl rfl ?_
  refine g_aload_n X 4 dL_law_1059 rfl rfl ?_
  refine g_iload_n X 1 dL_law_1060 rfl rfl ?_
  refine g_iconst X (1 : Int32) dL_law_1061 (by decide) ?_
  refine g_iadd X dL_law_1062 ?_
  refine l_sld X hX hbl hbA dL_law_1063 (nI_add i 1) (by omega) (by omega) ?_
  refine g_aload_n X 4 dL_law_1064 rfl rfl ?_
  refine g_iload_n X 1 dL_law_1065 rfl rfl ?_
  refine g_iconst X (2 : Int32) dL_law_1066 (by decide) ?_
  refine g_iadd X dL_law_1067 ?_
  refine l_sld X hX hbl hbA dL_law_1068 (nI_add i 2) (by omega) (by omega) ?_
  refine g_aload_n X 4 dL_law_1069 rfl rfl ?_
  refine g_iload_n X 1 dL_law_1070 rfl rfl ?_
  refine g_iconst X (3 : Int32) dL_law_1071 (by decide) ?_
  refine g_iadd X dL_law_1072 ?_
  refine l_sld X hX hbl hbA dL_law_1073 (nI_add i 3) (by omega) (by omega) ?_
  refine l_callDR X (n := 3) (C := RX5) (Qp := fun r σ' => r = t_mean A (xs (i + 1)) (xs (i + 2)) (xs (i + 3)) ∧ RR A σ') [.int (xs (i + 1)), .int (xs (i + 2)), .int (xs (i + 3))] [] dL_law_1074 (c_X5_mean l D cA (s_meanR hR ho hN (fun σ' h => ⟨rfl, h⟩))) q864 q865 q866 q57 q867 rfl ⟨rfl, by decide, by decide, by decide +kernel⟩ rfl ⟨trivial, ⟨trivial, ⟨trivial, trivial⟩⟩⟩ rfl (Nat.le_of_ble_eq_true rfl) rfl rfl ⟨(Nat.le_of_ble_eq_true rfl), (Nat.le_of_ble_eq_true rfl)⟩ (Nat.le_of_ble_eq_true rfl) (Nat.le_of_ble_eq_true rfl) (fun r2 σ2 h2 => ?_)
  refine g_dstore X [(6, .double r2), (4, .double r1), (3, .int (nI i)), (2, .ref 118), (1, .ref 0), (0, .ref 1000)] dL_law_1077 (Nat.le_of_ble_eq_true rfl) rfl ?_
  obtain ⟨rfl, h1⟩ := h1
  obtain ⟨rfl, h2⟩ := h2
  refine g_dload X 1 dL_law_1079 rfl ?_
  refine g_dload X 0 dL_law_1081 rfl ?_
  refine g_dcmp X dL_law_1083 ?_
  have fin : G p l e room_1 s m #[Value.ref b] below meth c 8 D cA (fun q => s.heap.size ≤ q) (lw_Z below #[Value.ref b] s) 133 9561 (fun ad => ad 1000 = b) shB (cat σ1 σ2) [(6, .double (t_mean A (xs (i + 1)) (xs (i + 2)) (xs (i + 3)))), (4, .double (t_mean A (xs (i + 1)) (xs (i + 2)) (xs (i + 3)))), (3, .int (nI i)), (2, .ref 118), (1, .ref 0), (0, .ref 1000)] 1105 [] := g_goto X 1333 dL_law_1105 (by decide) (g_weak [2, 3, 4, 5] rfl (IH _ _ _ ho.up h1 h2))
  refine g_if_eq X 1105 dL_law_1084 (by decide) (fun _ => fin) (fun z1 => ?_)
  refine g_dload X 1 dL_law_1087 rfl ?_
  refine g_dload X 1 dL_law_1089 rfl ?_
  refine g_dcmp X dL_law_1091 ?_
  refine g_if_eq X 1103 dL_law_1092 (by decide) (fun z => absurd z z1) (fun _ => ?_)
  refine g_dload X 0 dL_law_1095 rfl ?_
  refine g_dload X 0 dL_law_1097 rfl ?_
  refine g_dcmp X dL_law_1099 ?_
  exact g_if_ne X 1105 dL_law_1100 (by decide) (fun _ => fin) (fun z => absurd z z1)
theorem w_case19 (X : Cx p room_1 s m #[Value.ref b] meth c cL_law 8 RL D cA (fun q => s.heap.size ≤ q)) (hX : va_X b L xs s s.heap) (hbl : b < s.heap.size) (hL : L ≤ 3072) {i N : Nat} {A : AS} {σ τ : St} (hi : i + 6 ≤ L) (hN : N ≤ 512) (ho : OK N A) (hC : RC A σ) (hR : RR A τ)
    (IH : ∀ (A' : AS) (σ' τ' : St), OK (N + 1) A' → RC A' σ' → RR A' τ' → G p l e room_1 s m #[Value.ref b] below meth c 8 D cA (fun q => s.heap.size ≤ q) (lw_Z below #[Value.ref b] s) 133 9561 (fun ad => ad 1000 = b) shB (cat σ' τ') [(3, .int (nI i)), (2, .ref 118), (1, .ref 0), (0, .ref 1000)] 1333 []) : G p l e room_1 s m #[Value.ref b] below meth c 8 D cA (fun q => s.heap.size ≤ q) (lw_Z below #[Value.ref b] s) 133 9561 (fun ad => ad 1000 = b) shB (cat σ τ) [(3, .int (nI i)), (2, .ref 118), (1, .ref 0), (0, .ref 1000)] 1108 [] := by
  have hbA : ¬ s.heap.size ≤ b := by omega
  have hln := hC.ln
  by_cases hz : (xs (i + 2)) = 0
  · skip
    refine g_aload_n X 2 dL_law_1108 rfl rfl ?_
    refine g_aload_n X 3 dL_law_1109 rfl rfl ?_
    refine g_iload_n X 0 dL_law_1110 rfl rfl ?_
    refine g_iconst X (1 : Int32) dL_law_1111 (by decide) ?_
    refine g_iadd X dL_law_1112 ?_
    refine l_sld X hX hbl hbA dL_law_1113 (nI_add i 1) (by omega) (by omega) ?_
    refine g_aload_n X 3 dL_law_1114 rfl rfl ?_
    refine g_iload_n X 0 dL_law_1115 rfl rfl ?_
    refine g_iconst X (2 : Int32) dL_law_1116 (by decide) ?_
    refine g_iadd X dL_law_1117 ?_
    refine l_sld X hX hbl hbA dL_law_1118 (nI_add i 2) (by omega) (by omega) ?_
    refine g_if_eq X 1126 dL_law_1119 (by decide) (fun _ => ?_) (fun z => absurd hz z)
    refine g_iconst X (0 : Int32) dL_law_1126 (by decide) ?_
    refine l_callDC X (n := 2) (C := RX4) (Qp := fun r σ' => r = t_length A (xs (i + 1)) (0 : Int32) ∧ RC A σ') [.int (xs (i + 1)), .int (0 : Int32)] [] dL_law_1127 (c_X4_length l D cA (s_lengthC hC ho hN (fun σ' h => ⟨rfl, h⟩))) q501 q502 q503 q47 q504 rfl ⟨rfl, by decide, by decide, by decide +kernel⟩ rfl ⟨trivial, ⟨trivial, trivial⟩⟩ rfl (Nat.le_of_ble_eq_true rfl) rfl rfl ⟨(Nat.le_of_ble_eq_true rfl), (Nat.le_of_ble_eq_true rfl)⟩ (Nat.le_of_ble_eq_true rfl) (Nat.le_of_ble_eq_true rfl) (fun r1 σ1 h1 => ?_)
    refine g_dstore X [(4, .double r1), (3, .int (nI i)), (2, .ref 118), (1, .ref 0), (0, .ref 1000)] dL_law_1130 (Nat.le_of_ble_eq_true rfl) rfl ?_
    refine g_aload_n X 2 dL_law_1132 rfl rfl ?_
    refine g_aload_n X 4 dL_law_1133 rfl rfl ?_
    refine g_iload_n X 1 dL_law_1134 rfl rfl ?_
    refine g_iconst X (1 : Int32) dL_law_1135 (by decide) ?_
    refine g_iadd X dL_law_1136 ?_
    refine l_sld X hX hbl hbA dL_law_1137 (nI_add i 1) (by omega) (by omega) ?_
    refine g_aload_n X 4 dL_law_1138 rfl rfl ?_
    refine g_iload_n X 1 dL_law_1139 rfl rfl ?_
    refine g_iconst X (2 : Int32) dL_law_1140 (by decide) ?_
    refine g_iadd X dL_law_1141 ?_
    refine l_sld X hX hbl hbA dL_law_1142 (nI_add i 2) (by omega) (by omega) ?_
    refine g_if_eq X 1150 dL_law_1143 (by decide) (fun _ => ?_) (fun z => absurd hz z)
    refine g_iconst X (0 : Int32) dL_law_1150 (by decide) ?_
    refine l_callDR X (n := 2) (C := RX5) (Qp := fun r σ' => r = t_length A (xs (i + 1)) (0 : Int32) ∧ RR A σ') [.int (xs (i + 1)), .int (0 : Int32)] [] dL_law_1151 (c_X5_length l D cA (s_lengthR hR ho hN (fun σ' h => ⟨rfl, h⟩))) q869 q870 q871 q57 q872 rfl ⟨rfl, by decide, by decide, by decide +kernel⟩ rfl ⟨trivial, ⟨trivial, trivial⟩⟩ rfl (Nat.le_of_ble_eq_true rfl) rfl rfl ⟨(Nat.le_of_ble_eq_true rfl), (Nat.le_of_ble_eq_true rfl)⟩ (Nat.le_of_ble_eq_true rfl) (Nat.le_of_ble_eq_true rfl) (fun r2 σ2 h2 => ?_)
    refine g_dstore X [(6, .double r2), (4, .double r1), (3, .int (nI i)), (2, .ref 118), (1, .ref 0), (0, .ref 1000)] dL_law_1154 (Nat.le_of_ble_eq_true rfl) rfl ?_
    obtain ⟨rfl, h1⟩ := h1
    obtain ⟨rfl, h2⟩ := h2
    refine g_dload X 1 dL_law_1156 rfl ?_
    refine g_dload X 0 dL_law_1158 rfl ?_
    refine g_dcmp X dL_law_1160 ?_
    have fin : G p l e room_1 s m #[Value.ref b] below meth c 8 D cA (fun q => s.heap.size ≤ q) (lw_Z below #[Value.ref b] s) 133 9561 (fun ad => ad 1000 = b) shB (cat σ1 σ2) [(6, .double (t_length A (xs (i + 1)) (0 : Int32))), (4, .double (t_length A (xs (i + 1)) (0 : Int32))), (3, .int (nI i)), (2, .ref 118), (1, .ref 0), (0, .ref 1000)] 1182 [] := g_goto X 1333 dL_law_1182 (by decide) (g_weak [2, 3, 4, 5] rfl (IH _ _ _ ho.up h1 h2))
    refine g_if_eq X 1182 dL_law_1161 (by decide) (fun _ => fin) (fun z1 => ?_)
    refine g_dload X 1 dL_law_1164 rfl ?_
    refine g_dload X 1 dL_law_1166 rfl ?_
    refine g_dcmp X dL_law_1168 ?_
    refine g_if_eq X 1180 dL_law_1169 (by decide) (fun z => absurd z z1) (fun _ => ?_)
    refine g_dload X 0 dL_law_1172 rfl ?_
    refine g_dload X 0 dL_law_1174 rfl ?_
    refine g_dcmp X dL_law_1176 ?_
    exact g_if_ne X 1182 dL_law_1177 (by decide) (fun _ => fin) (fun z => absurd z z1)
  · skip
    refine g_aload_n X 2 dL_law_1108 rfl rfl ?_
    refine g_aload_n X 3 dL_law_1109 rfl rfl ?_
    refine g_iload_n X 0 dL_law_1110 rfl rfl ?_
    refine g_iconst X (1 : Int32) dL_law_1111 (by decide) ?_
    refine g_iadd X dL_law_1112 ?_
    refine l_sld X hX hbl hbA dL_law_1113 (nI_add i 1) (by omega) (by omega) ?_
    refine g_aload_n X 3 dL_law_1114 rfl rfl ?_
    refine g_iload_n X 0 dL_law_1115 rfl rfl ?_
    refine g_iconst X (2 : Int32) dL_law_1116 (by decide) ?_
    refine g_iadd X dL_law_1117 ?_
    refine l_sld X hX hbl hbA dL_law_1118 (nI_add i 2) (by omega) (by omega) ?_
    refine g_if_eq X 1126 dL_law_1119 (by decide) (fun z => absurd z hz) (fun _ => ?_)
    refine g_iconst X (1 : Int32) dL_law_1122 (by decide) ?_
    refine g_goto X 1127 dL_law_1123 (by decide) ?_
    refine l_callDC X (n := 2) (C := RX4) (Qp := fun r σ' => r = t_length A (xs (i + 1)) (1 : Int32) ∧ RC A σ') [.int (xs (i + 1)), .int (1 : Int32)] [] dL_law_1127 (c_X4_length l D cA (s_lengthC hC ho hN (fun σ' h => ⟨rfl, h⟩))) q501 q502 q503 q47 q504 rfl ⟨rfl, by decide, by decide, by decide +kernel⟩ rfl ⟨trivial, ⟨trivial, trivial⟩⟩ rfl (Nat.le_of_ble_eq_true rfl) rfl rfl ⟨(Nat.le_of_ble_eq_true rfl), (Nat.le_of_ble_eq_true rfl)⟩ (Nat.le_of_ble_eq_true rfl) (Nat.le_of_ble_eq_true rfl) (fun r1 σ1 h1 => ?_)
    refine g_dstore X [(4, .double r1), (3, .int (nI i)), (2, .ref 118), (1, .ref 0), (0, .ref 1000)] dL_law_1130 (Nat.le_of_ble_eq_true rfl) rfl ?_
    refine g_aload_n X 2 dL_law_1132 rfl rfl ?_
    refine g_aload_n X 4 dL_law_1133 rfl rfl ?_
    refine g_iload_n X 1 dL_law_1134 rfl rfl ?_
    refine g_iconst X (1 : Int32) dL_law_1135 (by decide) ?_
    refine g_iadd X dL_law_1136 ?_
    refine l_sld X hX hbl hbA dL_law_1137 (nI_add i 1) (by omega) (by omega) ?_
    refine g_aload_n X 4 dL_law_1138 rfl rfl ?_
    refine g_iload_n X 1 dL_law_1139 rfl rfl ?_
    refine g_iconst X (2 : Int32) dL_law_1140 (by decide) ?_
    refine g_iadd X dL_law_1141 ?_
    refine l_sld X hX hbl hbA dL_law_1142 (nI_add i 2) (by omega) (by omega) ?_
    refine g_if_eq X 1150 dL_law_1143 (by decide) (fun z => absurd z hz) (fun _ => ?_)
    refine g_iconst X (1 : Int32) dL_law_1146 (by decide) ?_
    refine g_goto X 1151 dL_law_1147 (by decide) ?_
    refine l_callDR X (n := 2) (C := RX5) (Qp := fun r σ' => r = t_length A (xs (i + 1)) (1 : Int32) ∧ RR A σ') [.int (xs (i + 1)), .int (1 : Int32)] [] dL_law_1151 (c_X5_length l D cA (s_lengthR hR ho hN (fun σ' h => ⟨rfl, h⟩))) q869 q870 q871 q57 q872 rfl ⟨rfl, by decide, by decide, by decide +kernel⟩ rfl ⟨trivial, ⟨trivial, trivial⟩⟩ rfl (Nat.le_of_ble_eq_true rfl) rfl rfl ⟨(Nat.le_of_ble_eq_true rfl), (Nat.le_of_ble_eq_true rfl)⟩ (Nat.le_of_ble_eq_true rfl) (Nat.le_of_ble_eq_true rfl) (fun r2 σ2 h2 => ?_)
    refine g_dstore X [(6, .double r2), (4, .double r1), (3, .int (nI i)), (2, .ref 118), (1, .ref 0), (0, .ref 1000)] dL_law_1154 (Nat.le_of_ble_eq_true rfl) rfl ?_
    obtain ⟨rfl, h1⟩ := h1
    obtain ⟨rfl, h2⟩ := h2
    refine g_dload X 1 dL_law_1156 rfl ?_
    refine g_dload X 0 dL_law_1158 rfl ?_
    refine g_dcmp X dL_law_1160 ?_
    have fin : G p l e room_1 s m #[Value.ref b] below meth c 8 D cA (fun q => s.heap.size ≤ q) (lw_Z below #[Value.ref b] s) 133 9561 (fun ad => ad 1000 = b) shB (cat σ1 σ2) [(6, .double (t_length A (xs (i + 1)) (1 : Int32))), (4, .double (t_length A (xs (i + 1)) (1 : Int32))), (3, .int (nI i)), (2, .ref 118), (1, .ref 0), (0, .ref 1000)] 1182 [] := g_goto X 1333 dL_law_1182 (by decide) (g_weak [2, 3, 4, 5] rfl (IH _ _ _ ho.up h1 h2))
    refine g_if_eq X 1182 dL_law_1161 (by decide) (fun _ => fin) (fun z1 => ?_)
    refine g_dload X 1 dL_law_1164 rfl ?_
    refine g_dload X 1 dL_law_1166 rfl ?_
    refine g_dcmp X dL_law_1168 ?_
    refine g_if_eq X 1180 dL_law_1169 (by decide) (fun z => absurd z z1) (fun _ => ?_)
    refine g_dload X 0 dL_law_1172 rfl ?_
    refine g_dload X 0 dL_law_1174 rfl ?_
    refine g_dcmp X dL_law_1176 ?_
    exact g_if_ne X 1182 dL_law_1177 (by decide) (fun _ => fin) (fun z => absurd z z1)
theorem w_case20 (X : Cx p room_1 s m #[Value.ref b] meth c cL_law 8 RL D cA (fun q => s.heap.size ≤ q)) (hX : va_X b L xs s s.heap) (hbl : b < s.heap.size) (hL : L ≤ 3072) {i N : Nat} {A : AS} {σ τ : St} (hi : i + 6 ≤ L) (hN : N ≤ 512) (ho : OK N A) (hC : RC A σ) (hR : RR A τ)
    (IH : ∀ (A' : AS) (σ' τ' : St), OK (N + 1) A' → RC A' σ' → RR A' τ' → G p l e room_1 s m #[Value.ref b] below meth c 8 D cA (fun q => s.heap.size ≤ q) (lw_Z below #[Value.ref b] s) 133 9561 (fun ad => ad 1000 = b) shB (cat σ' τ') [(3, .int (nI i)), (2, .ref 118), (1, .ref 0), (0, .ref 1000)] 1333 []) : G p l e room_1 s m #[Value.ref b] below meth c 8 D cA (fun q => s.heap.size ≤ q) (lw_Z below #[Value.ref b] s) 133 9561 (fun ad => ad 1000 = b) shB (cat σ τ) [(3, .int (nI i)), (2, .ref 118), (1, .ref 0), (0, .ref 1000)] 1185 [] := by
  have hbA : ¬ s.heap.size ≤ b := by omega
  have hln := hC.ln
  refine g_aload_n X 2 dL_law_1185 rfl rfl ?_
  refine g_aload_n X 3 dL_law_1186 rfl rfl ?_
  refine g_iload_n X 0 dL_law_1187 rfl rfl ?_
  refine g_iconst X (1 : Int32) dL_law_1188 (by decide) ?_
  refine g_iadd X dL_law_1189 ?_
  refine l_sld X hX hbl hbA dL_law_1190 (nI_add i 1) (by omega) (by omega) ?_
  refine l_callIC X (n := 1) (C := RX4) (Qp := fun r σ' => r = t_sign A (xs (i + 1)) ∧ RC A σ') [.int (xs (i + 1))] [] dL_law_1191 (c_X4_sign l D cA (s_signC hC  (fun σ' h => ⟨rfl, h⟩))) q509 q510 q511 q47 q512 rfl ⟨rfl, by decide, by decide, by decide +kernel⟩ rfl ⟨trivial, trivial⟩ rfl (Nat.le_of_ble_eq_true rfl) rfl rfl ⟨(Nat.le_of_ble_eq_true rfl), (Nat.le_of_ble_eq_true rfl)⟩ (Nat.le_of_ble_eq_true rfl) (Nat.le_of_ble_eq_true rfl) (fun r1 σ1 h1 => ?_)
  refine g_aload_n X 1 dL_law_1194 rfl rfl ?_
  refine g_aload_n X 3 dL_law_1195 rfl rfl ?_
  refine g_iload_n X 0 dL_law_1196 rfl rfl ?_
  refine g_iconst X (1 : Int32) dL_law_1197 (by decide) ?_
  refine g_iadd X dL_law_1198 ?_
  refine l_sld X hX hbl hbA dL_law_1199 (nI_add i 1) (by omega) (by omega) ?_
  refine l_callIR X (n := 1) (C := RX5) (Qp := fun r σ' => r = t_sign A (xs (i + 1)) ∧ RR A σ') [.int (xs (i + 1))] [.int r1] dL_law_1200 (c_X5_sign l D cA (s_signR hR ho hN (fun σ' h => ⟨rfl, h⟩))) q884 q885 q886 q57 q887 rfl ⟨rfl, by decide, by decide, by decide +kernel⟩ rfl ⟨trivial, trivial⟩ rfl (Nat.le_of_ble_eq_true rfl) rfl rfl ⟨(Nat.le_of_ble_eq_true rfl), (Nat.le_of_ble_eq_true rfl)⟩ (Nat.le_of_ble_eq_true rfl) (Nat.le_of_ble_eq_true rfl) (fun r2 σ2 h2 => ?_)
  exact g_icmp_eq X 1333 dL_law_1203 (by decide) (fun _ => IH _ _ _ ho.up h1.2 h2.2) (fun z => absurd (h1.1.trans h2.1.symm) z)
theorem w_case21 (X : Cx p room_1 s m #[Value.ref b] meth c cL_law 8 RL D cA (fun q => s.heap.size ≤ q)) (hX : va_X b L xs s s.heap) (hbl : b < s.heap.size) (hL : L ≤ 3072) {i N : Nat} {A : AS} {σ τ : St} (hi : i + 6 ≤ L) (hN : N ≤ 512) (ho : OK N A) (hC : RC A σ) (hR : RR A τ)
    (IH : ∀ (A' : AS) (σ' τ' : St), OK (N + 1) A' → RC A' σ' → RR A' τ' → G p l e room_1 s m #[Value.ref b] below meth c 8 D cA (fun q => s.heap.size ≤ q) (lw_Z below #[Value.ref b] s) 133 9561 (fun ad => ad 1000 = b) shB (cat σ' τ') [(3, .int (nI i)), (2, .ref 118), (1, .ref 0), (0, .ref 1000)] 1333 []) : G p l e room_1 s m #[Value.ref b] below meth c 8 D cA (fun q => s.heap.size ≤ q) (lw_Z below #[Value.ref b] s) 133 9561 (fun ad => ad 1000 = b) shB (cat σ τ) [(3, .int (nI i)), (2, .ref 118), (1, .ref 0), (0, .ref 1000)] 1208 [] := by
  have hbA : ¬ s.heap.size ≤ b := by omega
  have hln := hC.ln
  refine g_aload_n X 2 dL_law_1208 rfl rfl ?_
  refine g_aload_n X 3 dL_law_1209 rfl rfl ?_
  refine g_iload_n X 0 dL_law_1210 rfl rfl ?_
  refine g_iconst X (1 : Int32) dL_law_1211 (by decide) ?_
  refine g_iadd X dL_law_1212 ?_
  refine l_sld X hX hbl hbA dL_law_1213 (nI_add i 1) (by omega) (by omega) ?_
  refine l_callIC X (n := 1) (C := RX4) (Qp := fun r σ' => r = t_high A (xs (i + 1)) ∧ RC A σ') [.int (xs (i + 1))] [] dL_law_1214 (c_X4_high l D cA (s_highC hC ho hN (fun σ' h => ⟨rfl, h⟩))) q517 q518 q519 q47 q520 rfl ⟨rfl, by decide, by decide, by decide +kernel⟩ rfl ⟨trivial, trivial⟩ rfl (Nat.le_of_ble_eq_true rfl) rfl rfl ⟨(Nat.le_of_ble_eq_true rfl), (Nat.le_of_ble_eq_true rfl)⟩ (Nat.le_of_ble_eq_true rfl) (Nat.le_of_ble_eq_true rfl) (fun r1 σ1 h1 => ?_)
  refine g_aload_n X 1 dL_law_1217 rfl rfl ?_
  refine g_aload_n X 3 dL_law_1218 rfl rfl ?_
  refine g_iload_n X 0 dL_law_1219 rfl rfl ?_
  refine g_iconst X (1 : Int32) dL_law_1220 (by decide) ?_
  refine g_iadd X dL_law_1221 ?_
  refine l_sld X hX hbl hbA dL_law_1222 (nI_add i 1) (by omega) (by omega) ?_
  refine l_callIR X (n := 1) (C := RX5) (Qp := fun r σ' => r = t_high A (xs (i + 1)) ∧ RR A σ') [.int (xs (i + 1))] [.int r1] dL_law_1223 (c_X5_high l D cA (s_highR hR ho hN (fun σ' h => ⟨rfl, h⟩))) q888 q889 q890 q57 q891 rfl ⟨rfl, by decide, by decide, by decide +kernel⟩ rfl ⟨trivial, trivial⟩ rfl (Nat.le_of_ble_eq_true rfl) rfl rfl ⟨(Nat.le_of_ble_eq_true rfl), (Nat.le_of_ble_eq_true rfl)⟩ (Nat.le_of_ble_eq_true rfl) (Nat.le_of_ble_eq_true rfl) (fun r2 σ2 h2 => ?_)
  exact g_icmp_eq X 1333 dL_law_1226 (by decide) (fun _ => IH _ _ _ ho.up h1.2 h2.2) (fun z => absurd (h1.1.trans h2.1.symm) z)
theorem w_case22 (X : Cx p room_1 s m #[Value.ref b] meth c cL_law 8 RL D cA (fun q => s.heap.size ≤ q)) (hX : va_X b L xs s s.heap) (hbl : b < s.heap.size) (hL : L ≤ 3072) {i N : Nat} {A : AS} {σ τ : St} (hi : i + 6 ≤ L) (hN : N ≤ 512) (ho : OK N A) (hC : RC A σ) (hR : RR A τ)
    (IH : ∀ (A' : AS) (σ' τ' : St), OK (N + 1) A' → RC A' σ' → RR A' τ' → G p l e room_1 s m #[Value.ref b] below meth c 8 D cA (fun q => s.heap.size ≤ q) (lw_Z below #[Value.ref b] s) 133 9561 (fun ad => ad 1000 = b) shB (cat σ' τ') [(3, .int (nI i)), (2, .ref 118), (1, .ref 0), (0, .ref 1000)] 1333 []) : G p l e room_1 s m #[Value.ref b] below meth c 8 D cA (fun q => s.heap.size ≤ q) (lw_Z below #[Value.ref b] s) 133 9561 (fun ad => ad 1000 = b) shB (cat σ τ) [(3, .int (nI i)), (2, .ref 118), (1, .ref 0), (0, .ref 1000)] 1231 [] := by
  have hbA : ¬ s.heap.size ≤ b := by omega
  have hln := hC.ln
  refine g_aload_n X 2 dL_law_1231 rfl rfl ?_
  refine g_aload_n X 3 dL_law_1232 rfl rfl ?_
  refine g_iload_n X 0 dL_law_1233 rfl rfl ?_
  refine g_iconst X (1 : Int32) dL_law_1234 (by decide) ?_
  refine g_iadd X dL_law_1235 ?_
  refine l_sld X hX hbl hbA dL_law_1236 (nI_add i 1) (by omega) (by omega) ?_
  refine g_aload_n X 3 dL_law_1237 rfl rfl ?_
  refine g_iload_n X 0 dL_law_1238 rfl rfl ?_
  refine g_iconst X (2 : Int32) dL_law_1239 (by decide) ?_
  refine g_iadd X dL_law_1240 ?_
  refine l_sld X hX hbl hbA dL_law_1241 (nI_add i 2) (by omega) (by omega) ?_
  refine l_callIC X (n := 2) (C := RX4) (Qp := fun r σ' => r = t_bit A (xs (i + 1)) (xs (i + 2)) ∧ RC A σ') [.int (xs (i + 1)), .int (xs (i + 2))] [] dL_law_1242 (c_X4_bit l D cA (s_bitC hC ho hN (fun σ' h => ⟨rfl, h⟩))) q522 q523 q524 q47 q525 rfl ⟨rfl, by decide, by decide, by decide +kernel⟩ rfl ⟨trivial, ⟨trivial, trivial⟩⟩ rfl (Nat.le_of_ble_eq_true rfl) rfl rfl ⟨(Nat.le_of_ble_eq_true rfl), (Nat.le_of_ble_eq_true rfl)⟩ (Nat.le_of_ble_eq_true rfl) (Nat.le_of_ble_eq_true rfl) (fun r1 σ1 h1 => ?_)
  refine g_aload_n X 1 dL_law_1245 rfl rfl ?_
  refine g_aload_n X 3 dL_law_1246 rfl rfl ?_
  refine g_iload_n X 0 dL_law_1247 rfl rfl ?_
  refine g_iconst X (1 : Int32) dL_law_1248 (by decide) ?_
  refine g_iadd X dL_law_1249 ?_
  refine l_sld X hX hbl hbA dL_law_1250 (nI_add i 1) (by omega) (by omega) ?_
  refine g_aload_n X 3 dL_law_1251 rfl rfl ?_
  refine g_iload_n X 0 dL_law_1252 rfl rfl ?_
  refine g_iconst X (2 : Int32) dL_law_1253 (by decide) ?_
  refine g_iadd X dL_law_1254 ?_
  refine l_sld X hX hbl hbA dL_law_1255 (nI_add i 2) (by omega) (by omega) ?_
  refine l_callIR X (n := 2) (C := RX5) (Qp := fun r σ' => r = t_bit A (xs (i + 1)) (xs (i + 2)) ∧ RR A σ') [.int (xs (i + 1)), .int (xs (i + 2))] [.int r1] dL_law_1256 (c_X5_bit l D cA (s_bitR hR ho hN (fun σ' h => ⟨rfl, h⟩))) q892 q893 q894 q57 q895 rfl ⟨rfl, by decide, by decide, by decide +kernel⟩ rfl ⟨trivial, ⟨trivial, trivial⟩⟩ rfl (Nat.le_of_ble_eq_true rfl) rfl rfl ⟨(Nat.le_of_ble_eq_true rfl), (Nat.le_of_ble_eq_true rfl)⟩ (Nat.le_of_ble_eq_true rfl) (Nat.le_of_ble_eq_true rfl) (fun r2 σ2 h2 => ?_)
  exact g_icmp_eq X 1333 dL_law_1259 (by decide) (fun _ => IH _ _ _ ho.up h1.2 h2.2) (fun z => absurd (h1.1.trans h2.1.symm) z)
theorem w_case23 (X : Cx p room_1 s m #[Value.ref b] meth c cL_law 8 RL D cA (fun q => s.heap.size ≤ q)) (hX : va_X b L xs s s.heap) (hbl : b < s.heap.size) (hL : L ≤ 3072) {i N : Nat} {A : AS} {σ τ : St} (hi : i + 6 ≤ L) (hN : N ≤ 512) (ho : OK N A) (hC : RC A σ) (hR : RR A τ)
    (IH : ∀ (A' : AS) (σ' τ' : St), OK (N + 1) A' → RC A' σ' → RR A' τ' → G p l e room_1 s m #[Value.ref b] below meth c 8 D cA (fun q => s.heap.size ≤ q) (lw_Z below #[Value.ref b] s) 133 9561 (fun ad => ad 1000 = b) shB (cat σ' τ') [(3, .int (nI i)), (2, .ref 118), (1, .ref 0), (0, .ref 1000)] 1333 []) : G p l e room_1 s m #[Value.ref b] below meth c 8 D cA (fun q => s.heap.size ≤ q) (lw_Z below #[Value.ref b] s) 133 9561 (fun ad => ad 1000 = b) shB (cat σ τ) [(3, .int (nI i)), (2, .ref 118), (1, .ref 0), (0, .ref 1000)] 1264 [] := by
  have hbA : ¬ s.heap.size ≤ b := by omega
  have hln := hC.ln
  refine g_aload_n X 2 dL_law_1264 rfl rfl ?_
  refine g_aload_n X 3 dL_law_1265 rfl rfl ?_
  refine g_iload_n X 0 dL_law_1266 rfl rfl ?_
  refine g_iconst X (1 : Int32) dL_law_1267 (by decide) ?_
  refine g_iadd X dL_law_1268 ?_
  refine l_sld X hX hbl hbA dL_law_1269 (nI_add i 1) (by omega) (by omega) ?_
  refine g_aload_n X 3 dL_law_1270 rfl rfl ?_
  refine g_iload_n X 0 dL_law_1271 rfl rfl ?_
  refine g_iconst X (2 : Int32) dL_law_1272 (by decide) ?_
  refine g_iadd X dL_law_1273 ?_
  refine l_sld X hX hbl hbA dL_law_1274 (nI_add i 2) (by omega) (by omega) ?_
  refine l_callIC X (n := 2) (C := RX4) (Qp := fun r σ' => r = t_order A (xs (i + 1)) (xs (i + 2)) ∧ RC A σ') [.int (xs (i + 1)), .int (xs (i + 2))] [] dL_law_1275 (c_X4_order l D cA (s_orderC hC  (fun σ' h => ⟨rfl, h⟩))) q527 q528 q529 q47 q530 rfl ⟨rfl, by decide, by decide, by decide +kernel⟩ rfl ⟨trivial, ⟨trivial, trivial⟩⟩ rfl (Nat.le_of_ble_eq_true rfl) rfl rfl ⟨(Nat.le_of_ble_eq_true rfl), (Nat.le_of_ble_eq_true rfl)⟩ (Nat.le_of_ble_eq_true rfl) (Nat.le_of_ble_eq_true rfl) (fun r1 σ1 h1 => ?_)
  refine g_aload_n X 1 dL_law_1278 rfl rfl ?_
  refine g_aload_n X 3 dL_law_1279 rfl rfl ?_
  refine g_iload_n X 0 dL_law_1280 rfl rfl ?_
  refine g_iconst X (1 : Int32) dL_law_1281 (by decide) ?_
  refine g_iadd X dL_law_1282 ?_
  refine l_sld X hX hbl hbA dL_law_1283 (nI_add i 1) (by omega) (by omega) ?_
  refine g_aload_n X 3 dL_law_1284 rfl rfl ?_
  refine g_iload_n X 0 dL_law_1285 rfl rfl ?_
  refine g_iconst X (2 : Int32) dL_law_1286 (by decide) ?_
  refine g_iadd X dL_law_1287 ?_
  refine l_sld X hX hbl hbA dL_law_1288 (nI_add i 2) (by omega) (by omega) ?_
  refine l_callIR X (n := 2) (C := RX5) (Qp := fun r σ' => r = t_order A (xs (i + 1)) (xs (i + 2)) ∧ RR A σ') [.int (xs (i + 1)), .int (xs (i + 2))] [.int r1] dL_law_1289 (c_X5_order l D cA (s_orderR hR ho hN (fun σ' h => ⟨rfl, h⟩))) q898 q899 q900 q57 q901 rfl ⟨rfl, by decide, by decide, by decide +kernel⟩ rfl ⟨trivial, ⟨trivial, trivial⟩⟩ rfl (Nat.le_of_ble_eq_true rfl) rfl rfl ⟨(Nat.le_of_ble_eq_true rfl), (Nat.le_of_ble_eq_true rfl)⟩ (Nat.le_of_ble_eq_true rfl) (Nat.le_of_ble_eq_true rfl) (fun r2 σ2 h2 => ?_)
  exact g_icmp_eq X 1333 dL_law_1292 (by decide) (fun _ => IH _ _ _ ho.up h1.2 h2.2) (fun z => absurd (h1.1.trans h2.1.symm) z)
theorem w_case24 (X : Cx p room_1 s m #[Value.ref b] meth c cL_law 8 RL D cA (fun q => s.heap.size ≤ q)) (hX : va_X b L xs s s.heap) (hbl : b < s.heap.size) (hL : L ≤ 3072) {i N : Nat} {A : AS} {σ τ : St} (hi : i + 6 ≤ L) (hN : N ≤ 512) (ho : OK N A) (hC : RC A σ) (hR : RR A τ)
    (IH : ∀ (A' : AS) (σ' τ' : St), OK (N + 1) A' → RC A' σ' → RR A' τ' → G p l e room_1 s m #[Value.ref b] below meth c 8 D cA (fun q => s.heap.size ≤ q) (lw_Z below #[Value.ref b] s) 133 9561 (fun ad => ad 1000 = b) shB (cat σ' τ') [(3, .int (nI i)), (2, .ref 118), (1, .ref 0), (0, .ref 1000)] 1333 []) : G p l e room_1 s m #[Value.ref b] below meth c 8 D cA (fun q => s.heap.size ≤ q) (lw_Z below #[Value.ref b] s) 133 9561 (fun ad => ad 1000 = b) shB (cat σ τ) [(3, .int (nI i)), (2, .ref 118), (1, .ref 0), (0, .ref 1000)] 1297 [] := by
  have hbA : ¬ s.heap.size ≤ b := by omega
  have hln := hC.ln
  refine g_aload_n X 2 dL_law_1297 rfl rfl ?_
  refine l_callIC X (n := 0) (C := RX4) (Qp := fun r σ' => r = (t_undo A).1 ∧ RC (t_undo A).2 σ') [] [] dL_law_1298 (c_X4_undo l D cA (s_undoC hC ho (fun σ' h => ⟨rfl, h⟩))) q535 q536 q537 q47 q538 rfl ⟨rfl, by decide, by decide, by decide +kernel⟩ rfl trivial rfl (Nat.le_of_ble_eq_true rfl) rfl rfl ⟨(Nat.le_of_ble_eq_true rfl), (Nat.le_of_ble_eq_true rfl)⟩ (Nat.le_of_ble_eq_true rfl) (Nat.le_of_ble_eq_true rfl) (fun r1 σ1 h1 => ?_)
  refine g_aload_n X 1 dL_law_1301 rfl rfl ?_
  refine l_callIR X (n := 0) (C := RX5) (Qp := fun r σ' => r = (t_undo A).1 ∧ RR (t_undo A).2 σ') [] [.int r1] dL_law_1302 (c_X5_undo l D cA (s_undoR hR ho (fun σ' h => ⟨rfl, h⟩))) q723 q724 q725 q57 q726 rfl ⟨rfl, by decide, by decide, by decide +kernel⟩ rfl trivial rfl (Nat.le_of_ble_eq_true rfl) rfl rfl ⟨(Nat.le_of_ble_eq_true rfl), (Nat.le_of_ble_eq_true rfl)⟩ (Nat.le_of_ble_eq_true rfl) (Nat.le_of_ble_eq_true rfl) (fun r2 σ2 h2 => ?_)
  exact g_icmp_eq X 1333 dL_law_1305 (by decide) (fun _ => IH _ _ _ (k_undo ho) h1.2 h2.2) (fun z => absurd (h1.1.trans h2.1.symm) z)
theorem w_case25 (X : Cx p room_1 s m #[Value.ref b] meth c cL_law 8 RL D cA (fun q => s.heap.size ≤ q)) (hX : va_X b L xs s s.heap) (hbl : b < s.heap.size) (hL : L ≤ 3072) {i N : Nat} {A : AS} {σ τ : St} (hi : i + 6 ≤ L) (hN : N ≤ 512) (ho : OK N A) (hC : RC A σ) (hR : RR A τ)
    (IH : ∀ (A' : AS) (σ' τ' : St), OK (N + 1) A' → RC A' σ' → RR A' τ' → G p l e room_1 s m #[Value.ref b] below meth c 8 D cA (fun q => s.heap.size ≤ q) (lw_Z below #[Value.ref b] s) 133 9561 (fun ad => ad 1000 = b) shB (cat σ' τ') [(3, .int (nI i)), (2, .ref 118), (1, .ref 0), (0, .ref 1000)] 1333 []) : G p l e room_1 s m #[Value.ref b] below meth c 8 D cA (fun q => s.heap.size ≤ q) (lw_Z below #[Value.ref b] s) 133 9561 (fun ad => ad 1000 = b) shB (cat σ τ) [(3, .int (nI i)), (2, .ref 118), (1, .ref 0), (0, .ref 1000)] 1310 [] := by
  have hbA : ¬ s.heap.size ≤ b := by omega
  have hln := hC.ln
  refine g_aload_n X 2 dL_law_1310 rfl rfl ?_
  refine g_aload_n X 3 dL_law_1311 rfl rfl ?_
  refine g_iload_n X 0 dL_law_1312 rfl rfl ?_
  refine g_iconst X (1 : Int32) dL_law_1313 (by decide) ?_
  refine g_iadd X dL_law_1314 ?_
  refine l_sld X hX hbl hbA dL_law_1315 (nI_add i 1) (by omega) (by omega) ?_
  refine l_callIC X (n := 1) (C := RX4) (Qp := fun r σ' => r = t_count A (xs (i + 1)) ∧ RC A σ') [.int (xs (i + 1))] [] dL_law_1316 (c_X4_count l D cA (s_countC hC  (fun σ' h => ⟨rfl, h⟩))) q547 q548 q549 q47 q550 rfl ⟨rfl, by decide, by decide, by decide +kernel⟩ rfl ⟨trivial, trivial⟩ rfl (Nat.le_of_ble_eq_true rfl) rfl rfl ⟨(Nat.le_of_ble_eq_true rfl), (Nat.le_of_ble_eq_true rfl)⟩ (Nat.le_of_ble_eq_true rfl) (Nat.le_of_ble_eq_true rfl) (fun r1 σ1 h1 => ?_)
  refine g_aload_n X 1 dL_law_1319 rfl rfl ?_
  refine g_aload_n X 3 dL_law_1320 rfl rfl ?_
  refine g_iload_n X 0 dL_law_1321 rfl rfl ?_
  refine g_iconst X (1 : Int32) dL_law_1322 (by decide) ?_
  refine g_iadd X dL_law_1323 ?_
  refine l_sld X hX hbl hbA dL_law_1324 (nI_add i 1) (by omega) (by omega) ?_
  refine l_callIR X (n := 1) (C := RX5) (Qp := fun r σ' => r = t_count A (xs (i + 1)) ∧ RR A σ') [.int (xs (i + 1))] [.int r1] dL_law_1325 (c_X5_count l D cA (s_countR hR  (fun σ' h => ⟨rfl, h⟩))) q902 q903 q904 q57 q905 rfl ⟨rfl, by decide, by decide, by decide +kernel⟩ rfl ⟨trivial, trivial⟩ rfl (Nat.le_of_ble_eq_true rfl) rfl rfl ⟨(Nat.le_of_ble_eq_true rfl), (Nat.le_of_ble_eq_true rfl)⟩ (Nat.le_of_ble_eq_true rfl) (Nat.le_of_ble_eq_true rfl) (fun r2 σ2 h2 => ?_)
  exact g_icmp_eq X 1333 dL_law_1328 (by decide) (fun _ => IH _ _ _ ho.up h1.2 h2.2) (fun z => absurd (h1.1.trans h2.1.symm) z)
end LAW
