/-! the constructors -/
theorem q65 : (Jvm.Cond.instanceMethod ({ cls := "java/lang/Object", name := "<init>", desc := "()V" } : Jvm.MethodName)) ∈ GW := gw 65 (by decide +kernel) rfl
theorem q66 : (Jvm.Cond.code ({ cls := "java/lang/Object", name := "<init>", desc := "()V" } : Jvm.MethodName) object_method_1_code (1 : Nat) (Option.none : Option Jvm.ClassFile.FieldType)) ∈ GW := gw 66 (by decide +kernel) rfl
theorem q76 : (Jvm.Cond.methodLink "LongSums$History" (3 : Nat) ({ cls := "java/lang/Object", name := "<init>", desc := "()V" } : Jvm.MethodName)) ∈ GW := gw 76 (by decide +kernel) rfl
theorem q77 : (Jvm.Cond.classLink "LongSums$History" (9 : Nat) "LongSums$Keeper") ∈ GW := gw 77 (by decide +kernel) rfl
theorem q78 : (Jvm.Cond.instantiable "LongSums$Keeper" (4 : Nat)) ∈ GW := gw 78 (by decide +kernel) rfl
theorem q80 : (Jvm.Cond.instanceMethod ({ cls := "LongSums$Keeper", name := "<init>", desc := "()V" } : Jvm.MethodName)) ∈ GW := gw 80 (by decide +kernel) rfl
theorem q81 : (Jvm.Cond.code ({ cls := "LongSums$Keeper", name := "<init>", desc := "()V" } : Jvm.MethodName) prog_3_method_1_code (1 : Nat) (Option.none : Option Jvm.ClassFile.FieldType)) ∈ GW := gw 81 (by decide +kernel) rfl
theorem q82 : (Jvm.Cond.methodLink "LongSums$Keeper" (3 : Nat) ({ cls := "java/lang/Object", name := "<init>", desc := "()V" } : Jvm.MethodName)) ∈ GW := gw 82 (by decide +kernel) rfl
theorem q100 : (Jvm.Cond.arrayClass Jvm.ClassFile.FieldType.int) ∈ GW := gw 100 (by decide +kernel) rfl
theorem q101 : (Jvm.Cond.arrayClass Jvm.ClassFile.FieldType.long) ∈ GW := gw 101 (by decide +kernel) rfl
theorem q121 : (Jvm.Cond.methodLink "LongSums$Size" (3 : Nat) ({ cls := "java/lang/Object", name := "<init>", desc := "()V" } : Jvm.MethodName)) ∈ GW := gw 121 (by decide +kernel) rfl
theorem q130 : (Jvm.Cond.methodLink "LongSums$Row" (3 : Nat) ({ cls := "java/lang/Object", name := "<init>", desc := "()V" } : Jvm.MethodName)) ∈ GW := gw 130 (by decide +kernel) rfl
theorem aK {sh : SH} {n k : Nat} {kd v : Nat ⊕ (Nat × Nat)} (h : k < n) (hk : sh.2.1 k = v) : (addC sh n kd).2.1 k = v := by show (if k = n then _ else sh.2.1 k) = _; rw [if_neg (by omega)]; exact hk
theorem aR {sh : SH} {n k j : Nat} {kd : Nat ⊕ (Nat × Nat)} {v : Option Nat} (h : k < n) (hk : sh.2.2 k j = v) : (addC sh n kd).2.2 k j = v := by show (if k = n then _ else sh.2.2 k j) = _; rw [if_neg (by omega)]; exact hk
theorem pR {sh : SH} {c j r a b : Nat} {v : Option Nat} (h : ¬ (a = c ∧ b = j)) (hk : sh.2.2 a b = v) : (putC sh c j r).2.2 a b = v := by show (if a = c ∧ b = j then _ else sh.2.2 a b) = _; rw [if_neg h]; exact hk
def kInit (sh : SH) (n k : Nat) : SH := putC (addC (putC (addC sh n (.inr (0, 3))) k 2 n) (n + 1) (.inr (1, 150))) k 3 (n + 1)
def rInit (sh : SH) (n k : Nat) : SH := putC (addC (putC (addC (putC (addC sh n (.inr (1, 40))) k 3 n) (n + 1) (.inr (0, 40))) k 4 (n + 1)) (n + 2) (.inr (0, 40))) k 5 (n + 2)
def sInit (sh : SH) (n k : Nat) : SH := putC (addC sh n (.inr (1, 150))) k 0 n
def rmK : Room := { frames := 1, cells := 2, slots := 153, locals := 20 }
def rmR : Room := { frames := 1, cells := 3, slots := 120, locals := 20 }
def rmS : Room := { frames := 1, cells := 1, slots := 150, locals := 20 }
theorem c_X1_init (l : Launch) (D : va_G) (cA : Nat → ClassId) {sh : SH} {n k : Nat} {σ : St} (hn : sh.1 = n) (hcl : Cl sh) (hk : k < n) (hkk : sh.2.1 k = .inl 1) (hz : Zr σ n) : CtN l yX1_init cX1_init 1 rmK D cA 2 153 sh (kInit sh n k) [.ref k] σ (fun σ' => Zr σ' (n + 2)) := by
  refine CtN.of (own := RX1) rfl rfl (by decide +kernel) [(0, .ref k)] rfl (Nat.le_of_ble_eq_true rfl) ?_
  intro p e s m args below meth c ad0 A X hr hI hAO
  refine g_aload_n X 0 dX1_init_0 rfl rfl ?_
  refine g_objI X dX1_init_1 q82 q65 q66 (by decide) (by decide) ?_
  refine g_aload_n X 0 dX1_init_4 rfl rfl ?_
  refine g_iconst X (0 : Int32) dX1_init_5 (by decide) ?_
  refine g_putI X (C := RX1) (T := TX1) (N := 4) (ty0 := tyX1) 0 dX1_init_6 (by omega) hkk rfl rfl inG1 tyX1_ok nmX1 (Nat.le_of_ble_eq_true rfl) rfl rfl q83 rfl rfl ?_
  have hz := hz.put (c := k) (j := 0)
  generalize uI σ k 0 0 = σ at hz ⊢
  refine g_aload_n X 0 dX1_init_9 rfl rfl ?_
  refine g_iconst X (0 : Int32) dX1_init_10 (by decide) ?_
  refine g_putI X (C := RX1) (T := TX1) (N := 4) (ty0 := tyX1) 1 dX1_init_11 (by omega) hkk rfl rfl inG1 tyX1_ok nmX1 (Nat.le_of_ble_eq_true rfl) rfl rfl q85 rfl rfl ?_
  have hz := hz.put (c := k) (j := 1)
  generalize uI σ k 1 0 = σ at hz ⊢
  refine g_aload_n X 0 dX1_init_14 rfl rfl ?_
  refine g_iconst X (3 : Int32) dX1_init_15 (by decide) ?_
  refine g_newaI X (N := 3) (n := n) dX1_init_16 rfl (by decide) hn hcl (by omega) q100 ⟨by show k < _; omega, trivial⟩ ⟨by show k < _; omega, trivial⟩ (by decide) (by decide) ?_
  have hcl := hcl.add (n := n) (kd := .inr (0, 3)) hn
  have hkk := aK (n := n) (kd := .inr (0, 3)) (by omega) hkk
  refine g_putQ X (C := RX1) (T := TX1) (N := 4) (ty0 := tyX1) 2 hI dX1_init_18 (by show k < _ + 1; omega) hkk rfl rfl inG1 tyX1_ok nmX1 (Nat.le_of_ble_eq_true rfl) rfl rfl rfl q87 (fun _ => rfl) (fun _ => rfl) ?_
  have hcl := hcl.put (c := k) (j := 2) (r := n) (by show _ < _ + 1; omega)
  have hz := hz.add
  refine g_aload_n X 0 dX1_init_21 rfl rfl ?_
  refine g_sipush X (150 : Int32) dX1_init_22 (by decide) ?_
  refine g_newaJ X (N := 150) (n := (n + 1)) dX1_init_25 rfl (by decide) rfl hcl (by omega) q101 ⟨by show k < _; omega, trivial⟩ ⟨by show k < _; omega, trivial⟩ (by decide) (by decide) ?_
  have hcl := hcl.add (n := (n + 1)) (kd := .inr (1, 150)) rfl
  have hkk := aK (n := (n + 1)) (kd := .inr (1, 150)) (by omega) hkk
  refine g_putQ X (C := RX1) (T := TX1) (N := 4) (ty0 := tyX1) 3 hI dX1_init_27 (by show k < _ + 1; omega) hkk rfl rfl inG1 tyX1_ok nmX1 (Nat.le_of_ble_eq_true rfl) rfl rfl rfl q89 (fun _ => rfl) (fun _ => rfl) ?_
  have hcl := hcl.put (c := k) (j := 3) (r := (n + 1)) (by show _ < _ + 1; omega)
  have hz := hz.add
  exact g_nret X hr dX1_init_30 hz
theorem c_X2_init (l : Launch) (D : va_G) (cA : Nat → ClassId) {sh : SH} {n k : Nat} {σ : St} (hn : sh.1 = n) (hcl : Cl sh) (hk : k < n) (hkk : sh.2.1 k = .inl 2) (hz : Zr σ n) : CtN l yX2_init cX2_init 1 rmR D cA 3 120 sh (rInit sh n k) [.ref k] σ (fun σ' => Zr σ' (n + 3)) := by
  refine CtN.of (own := RX2) rfl rfl (by decide +kernel) [(0, .ref k)] rfl (Nat.le_of_ble_eq_true rfl) ?_
  intro p e s m args below meth c ad0 A X hr hI hAO
  refine g_aload_n X 0 dX2_init_0 rfl rfl ?_
  refine g_objI X dX2_init_1 q130 q65 q66 (by decide) (by decide) ?_
  refine g_aload_n X 0 dX2_init_4 rfl rfl ?_
  refine g_iconst X (0 : Int32) dX2_init_5 (by decide) ?_
  refine g_putI X (C := RX2) (T := TX2) (N := 6) (ty0 := tyX2) 0 dX2_init_6 (by omega) hkk rfl rfl inG2 tyX2_ok nmX2 (Nat.le_of_ble_eq_true rfl) rfl rfl q131 rfl rfl ?_
  have hz := hz.put (c := k) (j := 0)
  generalize uI σ k 0 0 = σ at hz ⊢
  refine g_aload_n X 0 dX2_init_9 rfl rfl ?_
  refine g_iconst X (0 : Int32) dX2_init_10 (by decide) ?_
  refine g_putI X (C := RX2) (T := TX2) (N := 6) (ty0 := tyX2) 1 dX2_init_11 (by omega) hkk rfl rfl inG2 tyX2_ok nmX2 (Nat.le_of_ble_eq_true rfl) rfl rfl q133 rfl rfl ?_
  have hz := hz.put (c := k) (j := 1)
  generalize uI σ k 1 0 = σ at hz ⊢
  refine g_aload_n X 0 dX2_init_14 rfl rfl ?_
  refine g_iconst X (0 : Int32) dX2_init_15 (by decide) ?_
  refine g_putI X (C := RX2) (T := TX2) (N := 6) (ty0 := tyX2) 2 dX2_init_16 (by omega) hkk rfl rfl inG2 tyX2_ok nmX2 (Nat.le_of_ble_eq_true rfl) rfl rfl q135 rfl rfl ?_
  have hz := hz.put (c := k) (j := 2)
  generalize uI σ k 2 0 = σ at hz ⊢
  refine g_aload_n X 0 dX2_init_19 rfl rfl ?_
  refine g_bipush X (40 : Int32) dX2_init_20 (by decide) ?_
  refine g_newaJ X (N := 40) (n := n) dX2_init_22 rfl (by decide) hn hcl (by omega) q101 ⟨by show k < _; omega, trivial⟩ ⟨by show k < _; omega, trivial⟩ (by decide) (by decide) ?_
  have hcl := hcl.add (n := n) (kd := .inr (1, 40)) hn
  have hkk := aK (n := n) (kd := .inr (1, 40)) (by omega) hkk
  refine g_putQ X (C := RX2) (T := TX2) (N := 6) (ty0 := tyX2) 3 hI dX2_init_24 (by show k < _ + 1; omega) hkk rfl rfl inG2 tyX2_ok nmX2 (Nat.le_of_ble_eq_true rfl) rfl rfl rfl q137 (fun _ => rfl) (fun _ => rfl) ?_
  have hcl := hcl.put (c := k) (j := 3) (r := n) (by show _ < _ + 1; omega)
  have hz := hz.add
  refine g_aload_n X 0 dX2_init_27 rfl rfl ?_
  refine g_bipush X (40 : Int32) dX2_init_28 (by decide) ?_
  refine g_newaI X (N := 40) (n := (n + 1)) dX2_init_30 rfl (by decide) rfl hcl (by omega) q100 ⟨by show k < _; omega, trivial⟩ ⟨by show k < _; omega, trivial⟩ (by decide) (by decide) ?_
  have hcl := hcl.add (n := (n + 1)) (kd := .inr (0, 40)) rfl
  have hkk := aK (n := (n + 1)) (kd := .inr (0, 40)) (by omega) hkk
  refine g_putQ X (C := RX2) (T := TX2) (N := 6) (ty0 := tyX2) 4 hI dX2_init_32 (by show k < _ + 1; omega) hkk rfl rfl inG2 tyX2_ok nmX2 (Nat.le_of_ble_eq_true rfl) rfl rfl rfl q140 (fun _ => rfl) (fun _ => rfl) ?_
  have hcl := hcl.put (c := k) (j := 4) (r := (n + 1)) (by show _ < _ + 1; omega)
  have hz := hz.add
  refine g_aload_n X 0 dX2_init_35 rfl rfl ?_
  refine g_bipush X (40 : Int32) dX2_init_36 (by decide) ?_
  refine g_newaI X (N := 40) (n := (n + 2)) dX2_init_38 rfl (by decide) rfl hcl (by omega) q100 ⟨by show k < _; omega, trivial⟩ ⟨by show k < _; omega, trivial⟩ (by decide) (by decide) ?_
  have hcl := hcl.add (n := (n + 2)) (kd := .inr (0, 40)) rfl
  have hkk := aK (n := (n + 2)) (kd := .inr (0, 40)) (by omega) hkk
  refine g_putQ X (C := RX2) (T := TX2) (N := 6) (ty0 := tyX2) 5 hI dX2_init_40 (by show k < _ + 1; omega) hkk rfl rfl inG2 tyX2_ok nmX2 (Nat.le_of_ble_eq_true rfl) rfl rfl rfl q142 (fun _ => rfl) (fun _ => rfl) ?_
  have hcl := hcl.put (c := k) (j := 5) (r := (n + 2)) (by show _ < _ + 1; omega)
  have hz := hz.add
  exact g_nret X hr dX2_init_43 hz
theorem c_X3_init (l : Launch) (D : va_G) (cA : Nat → ClassId) {sh : SH} {n k : Nat} {σ : St} (hn : sh.1 = n) (hcl : Cl sh) (hk : k < n) (hkk : sh.2.1 k = .inl 3) (hz : Zr σ n) : CtN l yX3_init cX3_init 1 rmS D cA 1 150 sh (sInit sh n k) [.ref k] σ (fun σ' => Zr σ' (n + 1)) := by
  refine CtN.of (own := RX3) rfl rfl (by decide +kernel) [(0, .ref k)] rfl (Nat.le_of_ble_eq_true rfl) ?_
  intro p e s m args below meth c ad0 A X hr hI hAO
  refine g_aload_n X 0 dX3_init_0 rfl rfl ?_
  refine g_objI X dX3_init_1 q121 q65 q66 (by decide) (by decide) ?_
  refine g_aload_n X 0 dX3_init_4 rfl rfl ?_
  refine g_sipush X (150 : Int32) dX3_init_5 (by decide) ?_
  refine g_newaJ X (N := 150) (n := n) dX3_init_8 rfl (by decide) hn hcl (by omega) q101 ⟨by show k < _; omega, trivial⟩ ⟨by show k < _; omega, trivial⟩ (by decide) (by decide) ?_
  have hcl := hcl.add (n := n) (kd := .inr (1, 150)) hn
  have hkk := aK (n := n) (kd := .inr (1, 150)) (by omega) hkk
  refine g_putQ X (C := RX3) (T := TX3) (N := 1) (ty0 := tyX3) 0 hI dX3_init_10 (by show k < _ + 1; omega) hkk rfl rfl inG3 tyX3_ok nmX3 (Nat.le_of_ble_eq_true rfl) rfl rfl rfl q122 (fun _ => rfl) (fun _ => rfl) ?_
  have hcl := hcl.put (c := k) (j := 0) (r := n) (by show _ < _ + 1; omega)
  have hz := hz.add
  exact g_nret X hr dX3_init_13 hz
def e0 : SH := (0, fun _ => .inl 99, fun _ _ => none)
def kLoop (sh : SH) (n a : Nat) : Nat → SH
  | 0 => sh
  | i + 1 => putC (kInit (addC (kLoop sh n a i) (n + 3 * i) (.inl 1)) (n + 3 * i + 1) (n + 3 * i)) a i (n + 3 * i)
def rLoop (sh : SH) (n a : Nat) : Nat → SH
  | 0 => sh
  | i + 1 => putC (rInit (addC (rLoop sh n a i) (n + 4 * i) (.inl 2)) (n + 4 * i + 1) (n + 4 * i)) a i (n + 4 * i)
theorem kI_cl {sh : SH} {n k : Nat} (hn : sh.1 = n) (h : Cl sh) (hk : k < n) : Cl (kInit sh n k) := (((h.add hn).put (by show _ < n + 1; omega)).add rfl).put (by show _ < n + 1 + 1; omega)
theorem rI_cl {sh : SH} {n k : Nat} (hn : sh.1 = n) (h : Cl sh) (hk : k < n) : Cl (rInit sh n k) := (((((h.add hn).put (by show _ < n + 1; omega)).add rfl).put (by show _ < n + 1 + 1; omega)).add rfl).put (by show _ < n + 2 + 1; omega)
theorem sI_cl {sh : SH} {n k : Nat} (hn : sh.1 = n) (h : Cl sh) (hk : k < n) : Cl (sInit sh n k) := (h.add hn).put (by show _ < n + 1; omega)
theorem kI_k {sh : SH} {n k c : Nat} (hc : c < n) : (kInit sh n k).2.1 c = sh.2.1 c := (aK (n := n + 1) (by omega) (aK (n := n) hc rfl))
theorem rI_k {sh : SH} {n k c : Nat} (hc : c < n) : (rInit sh n k).2.1 c = sh.2.1 c := (aK (n := n + 2) (by omega) (aK (n := n + 1) (by omega) (aK (n := n) hc rfl)))
theorem sI_k {sh : SH} {n k c : Nat} (hc : c < n) : (sInit sh n k).2.1 c = sh.2.1 c := aK (n := n) hc rfl
theorem kI_r {sh : SH} {n k c j : Nat} (hc : c < n) (h : c ≠ k) : (kInit sh n k).2.2 c j = sh.2.2 c j := pR (fun z => h z.1) (aR (by omega) (pR (fun z => h z.1) (aR hc rfl)))
theorem rI_r {sh : SH} {n k c j : Nat} (hc : c < n) (h : c ≠ k) : (rInit sh n k).2.2 c j = sh.2.2 c j := pR (fun z => h z.1) (aR (by omega) (pR (fun z => h z.1) (aR (by omega) (pR (fun z => h z.1) (aR hc rfl)))))
theorem sI_r {sh : SH} {n k c j : Nat} (hc : c < n) (h : c ≠ k) : (sInit sh n k).2.2 c j = sh.2.2 c j := pR (fun z => h z.1) (aR hc rfl)
theorem kL_n {sh : SH} {n a : Nat} (hn : sh.1 = n) : ∀ i, (kLoop sh n a i).1 = n + 3 * i
  | 0 => hn
  | i + 1 => by show n + 3 * i + 1 + 1 + 1 = _; omega
theorem rL_n {sh : SH} {n a : Nat} (hn : sh.1 = n) : ∀ i, (rLoop sh n a i).1 = n + 4 * i
  | 0 => hn
  | i + 1 => by show n + 4 * i + 1 + 2 + 1 = _; omega
theorem kL_cl {sh : SH} {n a : Nat} (hn : sh.1 = n) (h : Cl sh) : ∀ i, Cl (kLoop sh n a i)
  | 0 => h
  | i + 1 => (kI_cl (n := n + 3 * i + 1) rfl ((kL_cl hn h i).add (kL_n hn i)) (by omega)).put (by show _ < n + 3 * i + 1 + 1 + 1; omega)
theorem rL_cl {sh : SH} {n a : Nat} (hn : sh.1 = n) (h : Cl sh) : ∀ i, Cl (rLoop sh n a i)
  | 0 => h
  | i + 1 => (rI_cl (n := n + 4 * i + 1) rfl ((rL_cl hn h i).add (rL_n hn i)) (by omega)).put (by show _ < n + 4 * i + 1 + 2 + 1; omega)
theorem kL_k {sh : SH} {n a c : Nat} (hc : c < n) : ∀ i, (kLoop sh n a i).2.1 c = sh.2.1 c
  | 0 => rfl
  | i + 1 => (kI_k (by omega)).trans (aK (by omega) (kL_k hc i))
theorem rL_k {sh : SH} {n a c : Nat} (hc : c < n) : ∀ i, (rLoop sh n a i).2.1 c = sh.2.1 c
  | 0 => rfl
  | i + 1 => (rI_k (by omega)).trans (aK (by omega) (rL_k hc i))
theorem kL_r {sh : SH} {n a c j : Nat} (hc : c < n) (ha : c ≠ a) : ∀ i, (kLoop sh n a i).2.2 c j = sh.2.2 c j
  | 0 => rfl
  | i + 1 => pR (fun z => ha z.1) ((kI_r (by omega) (by omega)).trans (aR (by omega) (kL_r hc ha i)))
theorem rL_r {sh : SH} {n a c j : Nat} (hc : c < n) (ha : c ≠ a) : ∀ i, (rLoop sh n a i).2.2 c j = sh.2.2 c j
  | 0 => rfl
  | i + 1 => pR (fun z => ha z.1) ((rI_r (by omega) (by omega)).trans (aR (by omega) (rL_r hc ha i)))
def cS0 : SH := addC e0 0 (.inl 4)
def cS1 : SH := putC (addC cS0 1 (.inr (3, 12))) 0 0 1
def cS2 : SH := putC (addC cS1 2 (.inr (4, 6))) 0 1 2
def cS3 : SH := addC cS2 3 (.inl 0)
def kH1 : SH := putC (addC cS3 4 (.inr (4, 12))) 3 0 4
def kH2 : SH := putC (addC kH1 5 (.inr (0, 12))) 3 1 5
def kH3 : SH := kLoop kH2 6 4 12
def cS4 : SH := putC kH3 0 2 3
def cS5 : SH := putC (sInit (addC cS4 42 (.inl 3)) 43 42) 0 3 42
def cS6 : SH := putC (rInit (addC cS5 44 (.inl 2)) 45 44) 0 4 44
def cS7 : SH := putC (rInit (addC cS6 48 (.inl 2)) 49 48) 0 5 48
def cS8 : SH := rLoop cS7 52 1 12
def cS9 : SH := kLoop cS8 100 2 6
theorem e0_cl : Cl e0 := fun _ _ _ h => by cases h
theorem cS0_cl : Cl cS0 := e0_cl.add rfl
theorem cS1_cl : Cl cS1 := (cS0_cl.add rfl).put (by decide)
theorem cS2_cl : Cl cS2 := (cS1_cl.add rfl).put (by decide)
theorem cS3_cl : Cl cS3 := cS2_cl.add rfl
theorem kH1_cl : Cl kH1 := (cS3_cl.add rfl).put (by decide)
theorem kH2_cl : Cl kH2 := (kH1_cl.add rfl).put (by decide)
theorem kH3_n : kH3.1 = 42 := kL_n (n := 6) rfl 12
theorem kH3_cl : Cl kH3 := kL_cl rfl kH2_cl 12
theorem cS4_cl : Cl cS4 := kH3_cl.put (by rw [kH3_n]; decide)
theorem cS5_cl : Cl cS5 := (sI_cl rfl (cS4_cl.add kH3_n) (by decide)).put (by decide)
theorem cS6_cl : Cl cS6 := (rI_cl rfl (cS5_cl.add rfl) (by decide)).put (by decide)
theorem cS7_cl : Cl cS7 := (rI_cl rfl (cS6_cl.add rfl) (by decide)).put (by decide)
theorem cS8_n : cS8.1 = 100 := rL_n (n := 52) rfl 12
theorem cS8_cl : Cl cS8 := rL_cl rfl cS7_cl 12
theorem cS9_n : cS9.1 = 118 := kL_n cS8_n 6
theorem defX1 : ∀ j, j < 4 → defaultValue (tyX1 j) = defv (ft 1 j) := fun j hj => by rcases (show j = 0 ∨ j = 1 ∨ j = 2 ∨ j = 3 by omega) with rfl | rfl | rfl | rfl <;> rfl
theorem defX0 : ∀ j, j < 4 → defaultValue (tyX0 j) = defv (ft 0 j) := fun j hj => by rcases (show j = 0 ∨ j = 1 ∨ j = 2 ∨ j = 3 by omega) with rfl | rfl | rfl | rfl <;> rfl
theorem defX2 : ∀ j, j < 6 → defaultValue (tyX2 j) = defv (ft 2 j) := fun j hj => by rcases (show j = 0 ∨ j = 1 ∨ j = 2 ∨ j = 3 ∨ j = 4 ∨ j = 5 by omega) with rfl | rfl | rfl | rfl | rfl | rfl <;> rfl
theorem defX3 : ∀ j, j < 1 → defaultValue (tyX3 j) = defv (ft 3 j) := fun j hj => by rcases (show j = 0 by omega) with rfl; rfl
def rmH : Room := { frames := 2, cells := 38, slots := 1908, locals := 60 }
theorem c_X0_init (l : Launch) (D : va_G) (cA : Nat → ClassId) {σ : St} (hz : Zr σ 4) : CtN l yX0_init cX0_init 2 rmH D cA 38 1908 cS3 kH3 [.ref 3] σ (fun σ' => Zr σ' 42) := by
  refine CtN.of (own := RX0) rfl rfl (by decide +kernel) [(0, .ref 3)] rfl (Nat.le_of_ble_eq_true rfl) ?_
  intro p e s m args below meth c ad0 A X hr hI hAO
  have loop : ∀ (d i kc ks : Nat) (σ : St), i + d = 12 → kc = 2 + 3 * i → ks = 24 + 157 * i → Zr σ (6 + 3 * i) → G p l e rmH s m args below meth c 2 D cA A (MQ below (QN D cA A cS3.1 ad0 kH3 (fun σ' => Zr σ' 42)) args s 38 1908 A) kc ks (fun ad => agr cS3.1 ad ad0) (kLoop kH2 6 4 i) σ [(1, .int (nI i)), (0, .ref 3)] 33 [] := by
    intro d
    induction d with
    | zero =>
      intro i kc ks σ hi h1 h2 hz
      have : i = 12 := by omega
      subst this; subst h1; subst h2
      refine g_iload_n X 0 dX0_init_33 rfl rfl ?_
      refine g_bipush X (12 : Int32) dX0_init_34 (by decide) ?_
      refine g_icmp_ge X 58 dX0_init_36 (by decide) (fun _ => ?_) (fun z => absurd (by decide) z)
      exact g_nret X hr dX0_init_58 hz
    | succ d ih =>
      intro i kc ks σ hi h1 h2 hz
      have hL := kL_n (sh := kH2) (n := 6) (a := 4) rfl i
      have hcl := kL_cl (sh := kH2) (n := 6) (a := 4) rfl kH2_cl i
      refine g_iload_n X 0 dX0_init_33 rfl rfl ?_
      refine g_bipush X (12 : Int32) dX0_init_34 (by decide) ?_
      refine g_icmp_ge X 58 dX0_init_36 (by decide) (fun z => ?_) (fun _ => ?_)
      · have := (nI_leI (a := 12) (b := i) (by decide) (by omega)).mp z
        omega
      refine g_aload_n X 1 dX0_init_39 rfl rfl ?_
      refine g_getR X (C := RX0) (T := TX0) (N := 4) (r := 4) 0 dX0_init_40 (by rw [hL]; omega) ((kL_k (by decide) i).trans rfl) rfl rfl inG0 (Nat.le_of_ble_eq_true rfl) rfl ((kL_r (by decide) (by decide) i).trans rfl) q102 ?_
      refine g_iload_n X 0 dX0_init_43 rfl rfl ?_
      refine g_new X (C := RX1) (T := TX1) (N := 4) (ci := 1) (n := 6 + 3 * i) tyX1 dX0_init_44 hL hcl (by show 4 ≤ _; omega) rfl rfl inG1 tyX1_ok q77 q78 q49 defX1 ⟨trivial, by show 3 < 6 + 3 * i; omega, trivial⟩ ⟨trivial, by show 4 < 6 + 3 * i; omega, trivial⟩ (by show _ ≤ 38; omega) (by show _ ≤ 1908; omega) ?_
      refine g_dup X dX0_init_47 rfl ?_
      refine g_callNN X hAO (host := "LongSums") (n := 6 + 3 * i + 1) [.ref (6 + 3 * i), .int (nI i), .ref 4] dX0_init_48 (c_X1_init l D cA (n := 6 + 3 * i + 1) rfl (hcl.add hL) (by omega) zK hz.add) (nw 79 (by decide +kernel) rfl) q80 q49 q81 rfl (by show 4 ≤ _; omega) ⟨by decide, by decide, by decide +kernel⟩ rfl (Nat.le_of_ble_eq_true rfl) rfl rfl (by decide) (by show _ ≤ 38; omega) (by show _ ≤ 1908; omega) ⟨trivial, by show 3 < 6 + 3 * i + 1; omega, trivial⟩ ⟨by show 6 + 3 * i < 6 + 3 * i + 1; omega, trivial, by show 4 < 6 + 3 * i + 1; omega, trivial⟩ (fun σ1 hz1 => ?_)
      refine g_astq X (C := RX1) (T := TX1) (N := 4) (t := 1) (n := 12) dX0_init_51 rfl (by omega) (by decide) (by show 4 < 6 + 3 * i + 1 + 1 + 1; omega) ((kI_k (by omega)).trans ((aK (by omega) (kL_k (by decide) i)).trans rfl)) rfl (by show 6 + 3 * i < 6 + 3 * i + 1 + 1 + 1; omega) ((kI_k (by omega)).trans zK) rfl ?_
      refine g_iinc X 0 (1 : Int32) [(1, .int (nI (i + 1))), (0, .ref 3)] dX0_init_52 rfl (by decide) (Nat.le_of_ble_eq_true rfl) (by rw [nI_1]; rfl) ?_
      refine g_goto X 33 dX0_init_55 (by decide) ?_
      exact ih (i + 1) _ _ σ1 (by omega) (by omega) (by omega) hz1
  refine g_aload_n X 0 dX0_init_0 rfl rfl ?_
  refine g_objI X dX0_init_1 q76 q65 q66 (by decide) (by decide) ?_
  refine g_aload_n X 0 dX0_init_4 rfl rfl ?_
  refine g_bipush X (12 : Int32) dX0_init_5 (by decide) ?_
  refine g_newq X (C := RX1) (t := 1) (N := 12) (n := 4) hAO.1 dX0_init_7 rfl (by decide) rfl rfl cS3_cl (by decide) q77 ⟨by show 3 < 4; decide, trivial⟩ ⟨by show 3 < 4; decide, trivial⟩ (by decide) (by decide) ?_
  refine g_putQ X (C := RX0) (T := TX0) (N := 4) (ty0 := tyX0) 0 hI dX0_init_10 (by decide) rfl rfl rfl inG0 tyX0_ok nmX0 (Nat.le_of_ble_eq_true rfl) rfl rfl rfl q102 (fun _ => rfl) (fun _ => rfl) ?_
  refine g_aload_n X 0 dX0_init_13 rfl rfl ?_
  refine g_bipush X (12 : Int32) dX0_init_14 (by decide) ?_
  refine g_newaI X (N := 12) (n := 5) dX0_init_16 rfl (by decide) rfl kH1_cl (by decide) q100 ⟨by show 3 < 5; decide, trivial⟩ ⟨by show 3 < 5; decide, trivial⟩ (by decide) (by decide) ?_
  refine g_putQ X (C := RX0) (T := TX0) (N := 4) (ty0 := tyX0) 1 hI dX0_init_18 (by decide) rfl rfl rfl inG0 tyX0_ok nmX0 (Nat.le_of_ble_eq_true rfl) rfl rfl rfl q103 (fun _ => rfl) (fun _ => rfl) ?_
  refine g_aload_n X 0 dX0_init_21 rfl rfl ?_
  refine g_iconst X (0 : Int32) dX0_init_22 (by decide) ?_
  refine g_putI X (C := RX0) (T := TX0) (N := 4) (ty0 := tyX0) 2 dX0_init_23 (by decide) rfl rfl rfl inG0 tyX0_ok nmX0 (Nat.le_of_ble_eq_true rfl) rfl rfl q104 rfl rfl ?_
  refine g_aload_n X 0 dX0_init_26 rfl rfl ?_
  refine g_iconst X (0 : Int32) dX0_init_27 (by decide) ?_
  refine g_putI X (C := RX0) (T := TX0) (N := 4) (ty0 := tyX0) 3 dX0_init_28 (by decide) rfl rfl rfl inG0 tyX0_ok nmX0 (Nat.le_of_ble_eq_true rfl) rfl rfl q106 rfl rfl ?_
  refine g_iconst X (0 : Int32) dX0_init_31 (by decide) ?_
  refine g_istore_n X [(1, .int (nI 0)), (0, .ref 3)] dX0_init_32 rfl (Nat.le_of_ble_eq_true rfl) rfl ?_
  exact loop 12 0 _ _ _ rfl rfl rfl (hz.add.add.put.put)
