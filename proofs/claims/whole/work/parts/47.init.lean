/-! the constructors -/
theorem q65 : (Jvm.Cond.instanceMethod ({ cls := "java/lang/Object", name := "<init>", desc := "()V" } : Jvm.MethodName)) ∈ GW := gw 65 (by decide +kernel) rfl
theorem q66 : (Jvm.Cond.code ({ cls := "java/lang/Object", name := "<init>", desc := "()V" } : Jvm.MethodName) object_method_1_code (1 : Nat) (Option.none : Option Jvm.ClassFile.FieldType)) ∈ GW := gw 66 (by decide +kernel) rfl
theorem q82 : (Jvm.Cond.methodLink "LongSums$Keeper" (3 : Nat) ({ cls := "java/lang/Object", name := "<init>", desc := "()V" } : Jvm.MethodName)) ∈ GW := gw 82 (by decide +kernel) rfl
theorem q100 : (Jvm.Cond.arrayClass Jvm.ClassFile.FieldType.int) ∈ GW := gw 100 (by decide +kernel) rfl
theorem q101 : (Jvm.Cond.arrayClass Jvm.ClassFile.FieldType.long) ∈ GW := gw 101 (by decide +kernel) rfl
theorem q121 : (Jvm.Cond.methodLink "LongSums$Size" (3 : Nat) ({ cls := "java/lang/Object", name := "<init>", desc := "()V" } : Jvm.MethodName)) ∈ GW := gw 121 (by decide +kernel) rfl
theorem q130 : (Jvm.Cond.methodLink "LongSums$Row" (3 : Nat) ({ cls := "java/lang/Object", name := "<init>", desc := "()V" } : Jvm.MethodName)) ∈ GW := gw 130 (by decide +kernel) rfl
theorem aK {sh : SH} {n k : Nat} {kd v : Nat ⊕ (Nat × Nat)} (h : k < n) (hk : sh.2.1 k = v) : (addC sh n kd).2.1 k = v := by show (if k = n then _ else sh.2.1 k) = _; rw [if_neg (by omega)]; exact hk
theorem aR {sh : SH} {n k j : Nat} {kd : Nat ⊕ (Nat × Nat)} {v : Option Nat} (h : k < n) (hk : sh.2.2 k j = v) : (addC sh n kd).2.2 k j = v := by show (if k = n then _ else sh.2.2 k j) = _; rw [if_neg (by omega)]; exact hk
theorem pR {sh : SH} {c j r a b : Nat} {v : Option Nat} (h : ¬ (a = c ∧ b = j)) (hk : sh.2.2 a b = v) : (putC sh c j r).2.2 a b = v := by show (if a = c ∧ b = j then _ else sh.2.2 a b) = _; rw [if_neg h]; exact hk
def kInit (sh : SH) (n k : Nat) : SH := putC (addC (putC (addC sh n (.inr (0, 3))) k 2 n) (n + 1) (.inr (1, 150))) k 3 (n + 1)
def rInit (sh : SH) (n k : Nat) : SH := putC (addC (putC (addC (putC (addC sh n (.inr (1, 40))) k 3 n) (n + 1) (.inr (0, 40))) k 4 (n + 1)) (n + 2) (.inr (0, 40))) k 5 (n + 2)
def sInit (sh : SH) (n k : Nat) : SH := putC (addC sh n (.inr (1, 150))) k 0 n
def rmK : Room := { frames := 1, cells := 2, slots := 153, locals := 20 }
def rmR : Room := { frames := 1, cells := 3, slots := 120, locals := 20 }
def rmS : Room := { frames := 1, cells := 1, slots := 150, locals := 20 }
theorem c_X1_init (l : Launch) (D : va_G) (cA : Nat → ClassId) {sh : SH} {n k : Nat} {σ : St} (hn : sh.1 = n) (hcl : Cl sh) (hk : k < n) (hkk : sh.2.1 k = .inl 1) (hz : Zr σ n) : CtN l yX1_init cX1_init 1 rmK D cA 2 153 sh (kInit sh n k) [.ref k] σ (fun σ' => Zr σ' (n + 2)) := by
  refine CtN.of (own := RX1) rfl rfl (by decide +kernel) [(0, .ref k)] rfl (Nat.le_of_ble_eq_true rfl) ?_
  intro p e s m args below meth c ad0 A X hr hI hAO
  refine g_aload_n X 0 dX1_init_0 rfl rfl ?_
  refine g_objI X dX1_init_1 q82 q65 q66 (by decide) (by decide) ?_
  refine g_aload_n X 0 dX1_init_4 rfl rfl ?_
  refine g_iconst X (0 : Int32) dX1_init_5 (by decide) ?_
  refine g_putI X (C := RX1) (T := TX1) (N := 4) (ty0 := tyX1) 0 dX1_init_6 (by omega) hkk rfl rfl inG1 tyX1_ok nmX1 (Nat.le_of_ble_eq_true rfl) rfl rfl q83 rfl rfl ?_
  have hz := hz.put (c := k) (j := 0)
  generalize uI σ k 0 0 = σ at hz ⊢
  refine g_aload_n X 0 dX1_init_9 rfl rfl ?_
  refine g_iconst X (0 : Int32) dX1_init_10 (by decide) ?_
  refine g_putI X (C := RX1) (T := TX1) (N := 4) (ty0 := tyX1) 1 dX1_init_11 (by omega) hkk rfl rfl inG1 tyX1_ok nmX1 (Nat.le_of_ble_eq_true rfl) rfl rfl q85 rfl rfl ?_
  have hz := hz.put (c := k) (j := 1)
  generalize uI σ k 1 0 = σ at hz ⊢
  refine g_aload_n X 0 dX1_init_14 rfl rfl ?_
  refine g_iconst X (3 : Int32) dX1_init_15 (by decide) ?_
  refine g_newaI X (N := 3) (n := n) dX1_init_16 rfl (by decide) hn hcl (by omega) q100 ⟨by show k < _; omega, trivial⟩ ⟨by show k < _; omega, trivial⟩ (by decide) (by decide) ?_
  have hcl := hcl.add (n := n) (kd := .inr (0, 3)) hn
  have hkk := aK (n := n) (kd := .inr (0, 3)) (by omega) hkk
  refine g_putQ X (C := RX1) (T := TX1) (N := 4) (ty0 := tyX1) 2 hI dX1_init_18 (by show k < _ + 1; omega) hkk rfl rfl inG1 tyX1_ok nmX1 (Nat.le_of_ble_eq_true rfl) rfl rfl rfl q87 (fun _ => rfl) (fun _ => rfl) ?_
  have hcl := hcl.put (c := k) (j := 2) (r := n) (by show _ < _ + 1; omega)
  have hz := hz.add
  refine g_aload_n X 0 dX1_init_21 rfl rfl ?_
  refine g_sipush X (150 : Int32) dX1_init_22 (by decide) ?_
  refine g_newaJ X (N := 150) (n := (n + 1)) dX1_init_25 rfl (by decide) rfl hcl (by omega) q101 ⟨by show k < _; omega, trivial⟩ ⟨by show k < _; omega, trivial⟩ (by decide) (by decide) ?_
  have hcl := hcl.add (n := (n + 1)) (kd := .inr (1, 150)) rfl
  have hkk := aK (n := (n + 1)) (kd := .inr (1, 150)) (by omega) hkk
  refine g_putQ X (C := RX1) (T := TX1) (N := 4) (ty0 := tyX1) 3 hI dX1_init_27 (by show k < _ + 1; omega) hkk rfl rfl inG1 tyX1_ok nmX1 (Nat.le_of_ble_eq_true rfl) rfl rfl rfl q89 (fun _ => rfl) (fun _ => rfl) ?_
  have hcl := hcl.put (c := k) (j := 3) (r := (n + 1)) (by show _ < _ + 1; omega)
  have hz := hz.add
  exact g_nret X hr dX1_init_30 hz
theorem c_X2_init (l : Launch) (D : va_G) (cA : Nat → ClassId) {sh : SH} {n k : Nat} {σ : St} (hn : sh.1 = n) (hcl : Cl sh) (hk : k < n) (hkk : sh.2.1 k = .inl 2) (hz : Zr σ n) : CtN l yX2_init cX2_init 1 rmR D cA 3 120 sh (rInit sh n k) [.ref k] σ (fun σ' => Zr σ' (n + 3)) := by
  refine CtN.of (own := RX2) rfl rfl (by decide +kernel) [(0, .ref k)] rfl (Nat.le_of_ble_eq_true rfl) ?_
  intro p e s m args below meth c ad0 A X hr hI hAO
  refine g_aload_n X 0 dX2_init_0 rfl rfl ?_
  refine g_objI X dX2_init_1 q130 q65 q66 (by decide) (by decide) ?_
  refine g_aload_n X 0 dX2_init_4 rfl rfl ?_
  refine g_iconst X (0 : Int32) dX2_init_5 (by decide) ?_
  refine g_putI X (C := RX2) (T := TX2) (N := 6) (ty0 := tyX2) 0 dX2_init_6 (by omega) hkk rfl rfl inG2 tyX2_ok nmX2 (Nat.le_of_ble_eq_true rfl) rfl rfl q131 rfl rfl ?_
  have hz := hz.put (c := k) (j := 0)
  generalize uI σ k 0 0 = σ at hz ⊢
  refine g_aload_n X 0 dX2_init_9 rfl rfl ?_
  refine g_iconst X (0 : Int32) dX2_init_10 (by decide) ?_
  refine g_putI X (C := RX2) (T := TX2) (N := 6) (ty0 := tyX2) 1 dX2_init_11 (by omega) hkk rfl rfl inG2 tyX2_ok nmX2 (Nat.le_of_ble_eq_true rfl) rfl rfl q133 rfl rfl ?_
  have hz := hz.put (c := k) (j := 1)
  generalize uI σ k 1 0 = σ at hz ⊢
  refine g_aload_n X 0 dX2_init_14 rfl rfl ?_
  refine g_iconst X (0 : Int32) dX2_init_15 (by decide) ?_
  refine g_putI X (C := RX2) (T := TX2) (N := 6) (ty0 := tyX2) 2 dX2_init_16 (by omega) hkk rfl rfl inG2 tyX2_ok nmX2 (Nat.le_of_ble_eq_true rfl) rfl rfl q135 rfl rfl ?_
  have hz := hz.put (c := k) (j := 2)
  generalize uI σ k 2 0 = σ at hz ⊢
  refine g_aload_n X 0 dX2_init_19 rfl rfl ?_
  refine g_bipush X (40 : Int32) dX2_init_20 (by decide) ?_
  refine g_newaJ X (N := 40) (n := n) dX2_init_22 rfl (by decide) hn hcl (by omega) q101 ⟨by show k < _; omega, trivial⟩ ⟨by show k < _; omega, trivial⟩ (by decide) (by decide) ?_
  have hcl := hcl.add (n := n) (kd := .inr (1, 40)) hn
  have hkk := aK (n := n) (kd := .inr (1, 40)) (by omega) hkk
  refine g_putQ X (C := RX2) (T := TX2) (N := 6) (ty0 := tyX2) 3 hI dX2_init_24 (by show k < _ + 1; omega) hkk rfl rfl inG2 tyX2_ok nmX2 (Nat.le_of_ble_eq_true rfl) rfl rfl rfl q137 (fun _ => rfl) (fun _ => rfl) ?_
  have hcl := hcl.put (c := k) (j := 3) (r := n) (by show _ < _ + 1; omega)
  have hz := hz.add
  refine g_aload_n X 0 dX2_init_27 rfl rfl ?_
  refine g_bipush X (40 : Int32) dX2_init_28 (by decide) ?_
  refine g_newaI X (N := 40) (n := (n + 1)) dX2_init_30 rfl (by decide) rfl hcl (by omega) q100 ⟨by show k < _; omega, trivial⟩ ⟨by show k < _; omega, trivial⟩ (by decide) (by decide) ?_
  have hcl := hcl.add (n := (n + 1)) (kd := .inr (0, 40)) rfl
  have hkk := aK (n := (n + 1)) (kd := .inr (0, 40)) (by omega) hkk
  refine g_putQ X (C := RX2) (T := TX2) (N := 6) (ty0 := tyX2) 4 hI dX2_init_32 (by show k < _ + 1; omega) hkk rfl rfl inG2 tyX2_ok nmX2 (Nat.le_of_ble_eq_true rfl) rfl rfl rfl q140 (fun _ => rfl) (fun _ => rfl) ?_
  have hcl := hcl.put (c := k) (j := 4) (r := (n + 1)) (by show _ < _ + 1; omega)
  have hz := hz.add
  refine g_aload_n X 0 dX2_init_35 rfl rfl ?_
  refine g_bipush X (40 : Int32) dX2_init_36 (by decide) ?_
  refine g_newaI X (N := 40) (n := (n + 2)) dX2_init_38 rfl (by decide) rfl hcl (by omega) q100 ⟨by show k < _; omega, trivial⟩ ⟨by show k < _; omega, trivial⟩ (by decide) (by decide) ?_
  have hcl := hcl.add (n := (n + 2)) (kd := .inr (0, 40)) rfl
  have hkk := aK (n := (n + 2)) (kd := .inr (0, 40)) (by omega) hkk
  refine g_putQ X (C := RX2) (T := TX2) (N := 6) (ty0 := tyX2) 5 hI dX2_init_40 (by show k < _ + 1; omega) hkk rfl rfl inG2 tyX2_ok nmX2 (Nat.le_of_ble_eq_true rfl) rfl rfl rfl q142 (fun _ => rfl) (fun _ => rfl) ?_
  have hcl := hcl.put (c := k) (j := 5) (r := (n + 2)) (by show _ < _ + 1; omega)
  have hz := hz.add
  exact g_nret X hr dX2_init_43 hz
theorem c_X3_init (l : Launch) (D : va_G) (cA : Nat → ClassId) {sh : SH} {n k : Nat} {σ : St} (hn : sh.1 = n) (hcl : Cl sh) (hk : k < n) (hkk : sh.2.1 k = .inl 3) (hz : Zr σ n) : CtN l yX3_init cX3_init 1 rmS D cA 1 150 sh (sInit sh n k) [.ref k] σ (fun σ' => Zr σ' (n + 1)) := by
  refine CtN.of (own := RX3) rfl rfl (by decide +kernel) [(0, .ref k)] rfl (Nat.le_of_ble_eq_true rfl) ?_
  intro p e s m args below meth c ad0 A X hr hI hAO
  refine g_aload_n X 0 dX3_init_0 rfl rfl ?_
  refine g_objI X dX3_init_1 q121 q65 q66 (by decide) (by decide) ?_
  refine g_aload_n X 0 dX3_init_4 rfl rfl ?_
  refine g_sipush X (150 : Int32) dX3_init_5 (by decide) ?_
  refine g_newaJ X (N := 150) (n := n) dX3_init_8 rfl (by decide) hn hcl (by omega) q101 ⟨by show k < _; omega, trivial⟩ ⟨by show k < _; omega, trivial⟩ (by decide) (by decide) ?_
  have hcl := hcl.add (n := n) (kd := .inr (1, 150)) hn
  have hkk := aK (n := n) (kd := .inr (1, 150)) (by omega) hkk
  refine g_putQ X (C := RX3) (T := TX3) (N := 1) (ty0 := tyX3) 0 hI dX3_init_10 (by show k < _ + 1; omega) hkk rfl rfl inG3 tyX3_ok nmX3 (Nat.le_of_ble_eq_true rfl) rfl rfl rfl q122 (fun _ => rfl) (fun _ => rfl) ?_
  have hcl := hcl.put (c := k) (j := 0) (r := n) (by show _ < _ + 1; omega)
  have hz := hz.add
  exact g_nret X hr dX3_init_13 hz
