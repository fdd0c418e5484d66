/-! the constructors of the class and of the reference -/
theorem q64 : (Jvm.Cond.methodLink "LongSums" (1 : Nat) ({ cls := "java/lang/Object", name := "<init>", desc := "()V" } : Jvm.MethodName)) ∈ GW := gw 64 (by decide +kernel) rfl
theorem q67 : (Jvm.Cond.classLink "LongSums" (9 : Nat) "LongSums$Row") ∈ GW := gw 67 (by decide +kernel) rfl
theorem q69 : (Jvm.Cond.classLink "LongSums" (15 : Nat) "LongSums$Keeper") ∈ GW := gw 69 (by decide +kernel) rfl
theorem q71 : (Jvm.Cond.classLink "LongSums" (21 : Nat) "LongSums$History") ∈ GW := gw 71 (by decide +kernel) rfl
theorem q72 : (Jvm.Cond.instantiable "LongSums$History" (4 : Nat)) ∈ GW := gw 72 (by decide +kernel) rfl
theorem q73 : (Jvm.Cond.methodLink "LongSums" (23 : Nat) ({ cls := "LongSums$History", name := "<init>", desc := "()V" } : Jvm.MethodName)) ∈ GW := gw 73 (by decide +kernel) rfl
theorem q74 : (Jvm.Cond.instanceMethod ({ cls := "LongSums$History", name := "<init>", desc := "()V" } : Jvm.MethodName)) ∈ GW := gw 74 (by decide +kernel) rfl
theorem q75 : (Jvm.Cond.code ({ cls := "LongSums$History", name := "<init>", desc := "()V" } : Jvm.MethodName) prog_2_method_1_code (2 : Nat) (Option.none : Option Jvm.ClassFile.FieldType)) ∈ GW := gw 75 (by decide +kernel) rfl
theorem q116 : (Jvm.Cond.classLink "LongSums" (28 : Nat) "LongSums$Size") ∈ GW := gw 116 (by decide +kernel) rfl
theorem q117 : (Jvm.Cond.instantiable "LongSums$Size" (1 : Nat)) ∈ GW := gw 117 (by decide +kernel) rfl
theorem q119 : (Jvm.Cond.instanceMethod ({ cls := "LongSums$Size", name := "<init>", desc := "()V" } : Jvm.MethodName)) ∈ GW := gw 119 (by decide +kernel) rfl
theorem q120 : (Jvm.Cond.code ({ cls := "LongSums$Size", name := "<init>", desc := "()V" } : Jvm.MethodName) prog_5_method_1_code (1 : Nat) (Option.none : Option Jvm.ClassFile.FieldType)) ∈ GW := gw 120 (by decide +kernel) rfl
theorem q126 : (Jvm.Cond.instantiable "LongSums$Row" (6 : Nat)) ∈ GW := gw 126 (by decide +kernel) rfl
theorem q128 : (Jvm.Cond.instanceMethod ({ cls := "LongSums$Row", name := "<init>", desc := "()V" } : Jvm.MethodName)) ∈ GW := gw 128 (by decide +kernel) rfl
theorem q129 : (Jvm.Cond.code ({ cls := "LongSums$Row", name := "<init>", desc := "()V" } : Jvm.MethodName) prog_4_method_1_code (1 : Nat) (Option.none : Option Jvm.ClassFile.FieldType)) ∈ GW := gw 129 (by decide +kernel) rfl
theorem wd_shape {cA : Nat → ClassId} {ad : Nat → Nat} {sh sh' : SH} {σ : St} (h1 : sh.1 = sh'.1) (h2 : ∀ c, c < sh.1 → sh.2.1 c = sh'.2.1 c ∧ ∀ j, sh.2.2 c j = sh'.2.2 c j) : wd cA ad sh σ = wd cA ad sh' σ := by
  unfold wd
  rw [← h1]
  refine List.map_congr_left fun c h => ?_
  have h := h2 c (List.mem_range.mp h)
  exact congrArg (Prod.mk (ad c)) (ce_gen h.1 rfl rfl rfl (fun j => by rw [h.2 j]))
def RB (b : Nat) (sh : SH) : Prop := ∀ c j, b ≤ j → sh.2.2 c j = none
theorem RB.add {b : Nat} {sh : SH} {n : Nat} {kd : Nat ⊕ (Nat × Nat)} (h : RB b sh) : RB b (addC sh n kd) := fun c j hj => by
  show (if c = n then none else sh.2.2 c j) = none
  split
  · rfl
  · exact h c j hj
theorem RB.put {b : Nat} {sh : SH} {c k r : Nat} (h : RB b sh) (hk : k < b) : RB b (putC sh c k r) := fun a j hj => by
  show (if a = c ∧ j = k then some r else sh.2.2 a j) = none
  rw [if_neg (fun z => by omega)]; exact h a j hj
theorem RB.k {sh : SH} {n k : Nat} (h : RB 12 sh) : RB 12 (kInit sh n k) := ((h.add.put (by decide)).add).put (by decide)
theorem RB.r {sh : SH} {n k : Nat} (h : RB 12 sh) : RB 12 (rInit sh n k) := ((((h.add.put (by decide)).add).put (by decide)).add).put (by decide)
theorem RB.kl {sh : SH} {n a : Nat} (h : RB 12 sh) : ∀ i, i ≤ 12 → RB 12 (kLoop sh n a i)
  | 0, _ => h
  | i + 1, hi => ((RB.kl h i (by omega)).add.k).put (by omega)
theorem RB.rl {sh : SH} {n a : Nat} (h : RB 12 sh) : ∀ i, i ≤ 12 → RB 12 (rLoop sh n a i)
  | 0, _ => h
  | i + 1, hi => ((RB.rl h i (by omega)).add.r).put (by omega)
theorem rb_S : RB 12 cS9 := by
  have h0 : RB 12 cS0 := fun c j _ => by show (if c = 0 then none else none) = none; split <;> rfl
  have h1 : RB 12 cS3 := (((h0.add.put (by decide)).add).put (by decide)).add
  have h2 : RB 12 kH2 := ((h1.add.put (by decide)).add).put (by decide)
  have h4 : RB 12 cS4 := (h2.kl 12 (by decide)).put (by decide)
  have h5 : RB 12 cS5 := ((h4.add.add).put (by decide)).put (by decide)
  have h6 : RB 12 cS6 := (h5.add.r).put (by decide)
  have h7 : RB 12 cS7 := (h6.add.r).put (by decide)
  exact (h7.rl 12 (by decide)).kl 6 (by decide)
theorem rb_C : RB 12 shC := by
  intro c j hj
  show RRC c j = none
  have g : ∀ l : List (Option Nat), l.length ≤ 12 → l.getD j none = none := fun l h => by rw [List.getD_eq_getElem?_getD, List.getElem?_eq_none (by omega)]; rfl
  unfold RRC
  split
  · exact g _ (by decide)
  · split
    · rw [if_neg (by omega)]
    · split
      · rw [if_neg (by omega)]
      · split
        · exact g _ (by decide)
        · split
          · rw [if_neg (by omega)]
          · split
            · rw [if_neg (by omega)]
            · split
              · rw [if_neg (by omega), if_neg (by omega)]
              · rw [if_neg (by omega), if_neg (by omega), if_neg (by omega)]
              · rfl
theorem sh_S : ∀ c, c < 118 → cS9.2.1 c = shC.2.1 c ∧ ∀ j, j < 12 → cS9.2.2 c j = shC.2.2 c j := by decide +kernel
theorem wd_S {cA : Nat → ClassId} {ad : Nat → Nat} {σ : St} : wd cA ad cS9 σ = wd cA ad shC σ := wd_shape cS9_n (fun c hc => by
  rw [cS9_n] at hc
  refine ⟨(sh_S c hc).1, fun j => ?_⟩
  by_cases h : j < 12
  · exact (sh_S c hc).2 j h
  · rw [rb_S c j (by omega), rb_C c j (by omega)])
def rmC : Room := { frames := 6, cells := 117, slots := 4787, locals := 150 }
theorem c_X4_init (l : Launch) (D : va_G) (cA : Nat → ClassId) {σ : St} (hz : Zr σ 1) : CtN l yX4_init cX4_init 2 rmC D cA 117 4787 cS0 shC [.ref 0] σ (fun σ' => RC A0 σ') := by
  refine CtN.of (own := RX4) rfl rfl (by decide +kernel) [(0, .ref 0)] rfl (Nat.le_of_ble_eq_true rfl) ?_
  intro p e s m args below meth c ad0 A X hr hI hAO
  have loop3 : ∀ (d i : Nat) (σ : St), i + d = 40 → (∀ c, ¬ (44 ≤ c ∧ c < 52) → c < 118 → ∀ j, gI σ c j = 0 ∧ gJ σ c j = 0) → gI σ 44 1 = 3 → (∀ p, p < i → gI σ 47 p = 0 ∧ gJ σ 45 p = 1 ∧ gI σ 46 p = 0) → G p l e rmC s m args below meth c 2 D cA A (MQ below (QN D cA A cS0.1 ad0 shC (fun σ' => RC A0 σ')) args s 117 4787 A) 117 4787 (fun ad => agr cS0.1 ad ad0) shC σ [(1, .int (nI i)), (0, .ref 0)] 146 [] := by
    intro d
    induction d with
    | zero =>
      intro i σ hi hz h3 h1
      have : i = 40 := by omega
      subst this
      refine g_iload_n X 0 dX4_init_146 rfl rfl ?_
      refine g_bipush X (40 : Int32) dX4_init_147 (by decide) ?_
      refine g_icmp_ge X 168 dX4_init_149 (by decide) (fun _ => ?_) (fun z => absurd (by decide) z)
      refine g_nret X hr dX4_init_168 ?_
      refine ⟨fun r hr => ⟨Or.inl (hz _ (by unfold rowC; omega) (by unfold rowC; omega) 0).1, ⟨fun _ => (hz _ (by unfold rowC; omega) (by unfold rowC; omega) 0).1, fun _ => rfl⟩, fun z => absurd rfl z⟩, fun k hk => ⟨Or.inl (hz _ (by unfold keepC; omega) (by unfold keepC; omega) 0).1, ⟨fun _ => (hz _ (by unfold keepC; omega) (by unfold keepC; omega) 0).1, fun _ => rfl⟩, fun z => absurd rfl z, ⟨fun j hj => ?_, ?_⟩, fun w _ => (hz _ (by unfold keepC; omega) (by unfold keepC; omega) w).1⟩, ⟨(hz 3 (by omega) (by omega) 2).1, Nat.zero_le _, 0, by decide, (hz 3 (by omega) (by omega) 3).1, fun j e he => absurd he (by simp [A0])⟩, (hz 0 (by omega) (by omega) 6).1, h1⟩
      · rw [(hz _ (by unfold keepC; omega) (by unfold keepC; omega) j).2, Int64.toInt_zero]; exact (dgI0 j).symm
      · rw [(hz _ (by unfold keepC; omega) (by unfold keepC; omega) 149).2, Int64.toInt_zero]; exact (Int.zero_ediv _).symm
    | succ d ih =>
      intro i σ hi hz h3 h1
      refine g_iload_n X 0 dX4_init_146 rfl rfl ?_
      refine g_bipush X (40 : Int32) dX4_init_147 (by decide) ?_
      refine g_icmp_ge X 168 dX4_init_149 (by decide) (fun z => ?_) (fun _ => ?_)
      · have := (nI_leI (a := 40) (b := i) (by decide) (by omega)).mp z
        omega
      refine g_aload_n X 1 dX4_init_152 rfl rfl ?_
      refine g_getR X (C := RX4) (T := TX4) (N := 7) (r := 44) 4 dX4_init_153 (Nat.le_of_ble_eq_true rfl) rfl rfl rfl inG4 (Nat.le_of_ble_eq_true rfl) rfl rfl q209 ?_
      refine g_iload_n X 0 dX4_init_156 rfl rfl ?_
      refine g_lconst X (1 : Int64) dX4_init_157 (by decide) ?_
      refine g_iconst X (0 : Int32) dX4_init_158 (by decide) ?_
      refine g_callVV X (C := RX2) (T := TX2) (N := 6) (n := 3) (Qp := fun σ' => WrC σ σ' 44 i 1 0 0) [.int (nI i), .long 1, .int 0] [] dX4_init_159 (c_X2_write l D cA shC ones_sh (by
        unfold w_X2_write
        rintro y1 rfl
        rw [h3]
        exact ⟨fun z => absurd z (by decide), fun z => absurd z (by decide), fun z => absurd z (by decide), fun _ => s_writeNumber (by omega) (fun σ' h => h), fun z => absurd z (by decide), fun _ _ _ z => absurd rfl z⟩)) q167 q168 q169 q51 q170 (rowSh.b0 ones_sh) (rowSh.k0 ones_sh) rfl ⟨rfl, by decide, by decide, by decide +kernel⟩ rfl rfl (Nat.le_of_ble_eq_true rfl) rfl rfl ⟨(Nat.le_of_ble_eq_true rfl), (Nat.le_of_ble_eq_true rfl)⟩ (Nat.le_of_ble_eq_true rfl) (Nat.le_of_ble_eq_true rfl) (fun σ1 h => ?_)
      obtain ⟨f, w1, w2, w3⟩ := h
      refine g_iinc X 0 (1 : Int32) [(1, .int (nI (i + 1))), (0, .ref 0)] dX4_init_162 rfl (by decide) (Nat.le_of_ble_eq_true rfl) (by rw [nI_1]; rfl) ?_
      refine g_goto X 146 dX4_init_165 (by decide) ?_
      refine ih (i + 1) σ1 (by omega) (fun c hc hc2 j => ?_) ?_ (fun q hq => ?_)
      · have := f c (by omega)
        rw [this.1, this.2]; exact hz c hc hc2 j
      · rw [(f 44 (by decide)).1]; exact h3
      · rw [w1, w2, w3]
        by_cases e : q = i
        · subst e
          rw [upd_eq, upd_eq]
          refine ⟨rfl, ?_, rfl⟩
          unfold vp_updL; rw [if_pos rfl]
        · have := h1 q (by omega)
          rw [upd_ne e, upd_ne e]
          refine ⟨this.1, ?_, this.2.2⟩
          unfold vp_updL; rw [if_neg e]; exact this.2.1
  have tail : ∀ σ : St, Zr σ 118 → G p l e rmC s m args below meth c 2 D cA A (MQ below (QN D cA A cS0.1 ad0 shC (fun σ' => RC A0 σ')) args s 117 4787 A) 117 4787 (fun ad => agr cS0.1 ad ad0) shC σ [(1, .int (nI 6)), (0, .ref 0)] 125 [] := by
    intro σ hz
    refine g_aload_n X 1 dX4_init_125 rfl rfl ?_
    refine g_getR X (C := RX4) (T := TX4) (N := 7) (r := 48) 5 dX4_init_126 (Nat.le_of_ble_eq_true rfl) rfl rfl rfl inG4 (Nat.le_of_ble_eq_true rfl) rfl rfl q210 ?_
    refine g_iconst X (5 : Int32) dX4_init_129 (by decide) ?_
    refine g_iconst X (1 : Int32) dX4_init_130 (by decide) ?_
    refine g_callVV X (C := RX2) (T := TX2) (N := 6) (n := 2) (Qp := fun σ' => FrC (fun c => 48 ≤ c ∧ c < 52) σ σ') [.int 5, .int 1] [] dX4_init_131 (c_X2_renew l D cA shC plain_sh (s_renewR (n := 1) (by decide) (by decide) (by decide) (fun σ' f _ => f))) q157 q158 q159 q51 q160 (rowSh.b0 plain_sh) (rowSh.k0 plain_sh) rfl ⟨rfl, by decide, by decide, by decide +kernel⟩ rfl rfl (Nat.le_of_ble_eq_true rfl) rfl rfl ⟨(Nat.le_of_ble_eq_true rfl), (Nat.le_of_ble_eq_true rfl)⟩ (Nat.le_of_ble_eq_true rfl) (Nat.le_of_ble_eq_true rfl) (fun σ1 f1 => ?_)
    refine g_aload_n X 1 dX4_init_134 rfl rfl ?_
    refine g_getR X (C := RX4) (T := TX4) (N := 7) (r := 44) 4 dX4_init_135 (Nat.le_of_ble_eq_true rfl) rfl rfl rfl inG4 (Nat.le_of_ble_eq_true rfl) rfl rfl q209 ?_
    refine g_iconst X (3 : Int32) dX4_init_138 (by decide) ?_
    refine g_bipush X (40 : Int32) dX4_init_139 (by decide) ?_
    refine g_callVV X (C := RX2) (T := TX2) (N := 6) (n := 2) (Qp := fun σ' => FrC (fun c => 44 ≤ c ∧ c < 48) σ1 σ' ∧ RowC σ' 44 (newRow 3 40)) [.int 3, .int 40] [] dX4_init_141 (c_X2_renew l D cA shC ones_sh (s_renewR (n := 40) (by decide) (by decide) (by decide) (fun σ' f r => ⟨f, r⟩))) q157 q158 q159 q51 q160 (rowSh.b0 ones_sh) (rowSh.k0 ones_sh) rfl ⟨rfl, by decide, by decide, by decide +kernel⟩ rfl rfl (Nat.le_of_ble_eq_true rfl) rfl rfl ⟨(Nat.le_of_ble_eq_true rfl), (Nat.le_of_ble_eq_true rfl)⟩ (Nat.le_of_ble_eq_true rfl) (Nat.le_of_ble_eq_true rfl) (fun σ2 f2 => ?_)
    obtain ⟨f2, r2⟩ := f2
    refine g_iconst X (0 : Int32) dX4_init_144 (by decide) ?_
    refine g_istore_n X [(1, .int (nI 0)), (0, .ref 0)] dX4_init_145 rfl (Nat.le_of_ble_eq_true rfl) rfl ?_
    refine loop3 40 0 σ2 rfl (fun c hc hc2 j => ?_) (i_ext (r2.2.2 (by decide)).2.2.2.1) (fun q hq => absurd hq (by omega))
    have a1 := f1 c (by omega)
    have a2 := f2 c (by omega)
    rw [a2.1, a2.2, a1.1, a1.2]; exact hz c hc2 j
  have loop2 : ∀ (d i kc ks : Nat) (σ : St), i + d = 6 → kc = 99 + 3 * i → ks = 3845 + 157 * i → Zr σ (100 + 3 * i) → G p l e rmC s m args below meth c 2 D cA A (MQ below (QN D cA A cS0.1 ad0 shC (fun σ' => RC A0 σ')) args s 117 4787 A) kc ks (fun ad => agr cS0.1 ad ad0) (kLoop cS8 100 2 i) σ [(1, .int (nI i)), (0, .ref 0)] 100 [] := by
    intro d
    induction d with
    | zero =>
      intro i kc ks σ hi h1 h2 hz
      have : i = 6 := by omega
      subst this; subst h1; subst h2
      refine g_iload_n X 0 dX4_init_100 rfl rfl ?_
      refine g_bipush X (6 : Int32) dX4_init_101 (by decide) ?_
      refine g_icmp_ge X 125 dX4_init_103 (by decide) (fun _ => ?_) (fun z => absurd (by decide) z)
      exact g_shape (fun ad => wd_S) (tail σ hz)
    | succ d ih =>
      intro i kc ks σ hi h1 h2 hz
      have hL := kL_n (sh := cS8) (n := 100) (a := 2) cS8_n i
      have hcl := kL_cl (sh := cS8) (n := 100) (a := 2) cS8_n cS8_cl i
      refine g_iload_n X 0 dX4_init_100 rfl rfl ?_
      refine g_bipush X (6 : Int32) dX4_init_101 (by decide) ?_
      refine g_icmp_ge X 125 dX4_init_103 (by decide) (fun z => ?_) (fun _ => ?_)
      · have := (nI_leI (a := 6) (b := i) (by decide) (by omega)).mp z
        omega
      refine g_aload_n X 1 dX4_init_106 rfl rfl ?_
      refine g_getR X (C := RX4) (T := TX4) (N := 7) (ci := 4) (r := 2) 1 dX4_init_107 (by rw [hL]; omega) ((kL_k (by decide) i).trans (by decide +kernel)) rfl rfl inG4 (Nat.le_of_ble_eq_true rfl) rfl ((kL_r (by decide) (by decide) i).trans (by decide +kernel)) q206 ?_
      refine g_iload_n X 0 dX4_init_110 rfl rfl ?_
      refine g_new X (C := RX1) (T := TX1) (N := 4) (ci := 1) (n := 100 + 3 * i) tyX1 dX4_init_111 hL hcl (by show 1 ≤ _; omega) rfl rfl inG1 tyX1_ok q69 q78 q49 defX1 ⟨trivial, by show 0 < 100 + 3 * i; omega, trivial⟩ ⟨trivial, by show 2 < 100 + 3 * i; omega, trivial⟩ (by show _ ≤ 117; omega) (by show _ ≤ 4787; omega) ?_
      refine g_dup X dX4_init_114 rfl ?_
      refine g_callNN X hAO (host := "LongSums") (n := 100 + 3 * i + 1) [.ref (100 + 3 * i), .int (nI i), .ref 2] dX4_init_115 (c_X1_init l D cA (n := 100 + 3 * i + 1) rfl (hcl.add hL) (by omega) zK hz.add) (nw 156 (by decide +kernel) rfl) q80 q49 q81 rfl (by show 1 ≤ _; omega) ⟨by decide, by decide, by decide +kernel⟩ rfl (Nat.le_of_ble_eq_true rfl) rfl rfl (by decide) (by show _ ≤ 117; omega) (by show _ ≤ 4787; omega) ⟨trivial, by show 0 < 100 + 3 * i + 1; omega, trivial⟩ ⟨by show 100 + 3 * i < 100 + 3 * i + 1; omega, trivial, by show 2 < 100 + 3 * i + 1; omega, trivial⟩ (fun σ1 hz1 => ?_)
      refine g_astq X (C := RX1) (T := TX1) (N := 4) (t := 1) (n := 6) dX4_init_118 rfl (by omega) (by decide) (by show 2 < 100 + 3 * i + 1 + 1 + 1; omega) ((kI_k (by omega)).trans ((aK (by omega) (kL_k (by decide) i)).trans (by decide +kernel))) rfl (by show 100 + 3 * i < 100 + 3 * i + 1 + 1 + 1; omega) ((kI_k (by omega)).trans zK) rfl ?_
      refine g_iinc X 0 (1 : Int32) [(1, .int (nI (i + 1))), (0, .ref 0)] dX4_init_119 rfl (by decide) (Nat.le_of_ble_eq_true rfl) (by rw [nI_1]; rfl) ?_
      refine g_goto X 100 dX4_init_122 (by decide) ?_
      exact ih (i + 1) _ _ σ1 (by omega) (by omega) (by omega) hz1
  have loop1 : ∀ (d i kc ks : Nat) (σ : St), i + d = 12 → kc = 51 + 4 * i → ks = 2333 + 126 * i → Zr σ (52 + 4 * i) → G p l e rmC s m args below meth c 2 D cA A (MQ below (QN D cA A cS0.1 ad0 shC (fun σ' => RC A0 σ')) args s 117 4787 A) kc ks (fun ad => agr cS0.1 ad ad0) (rLoop cS7 52 1 i) σ [(1, .int (nI i)), (0, .ref 0)] 73 [] := by
    intro d
    induction d with
    | zero =>
      intro i kc ks σ hi h1 h2 hz
      have : i = 12 := by omega
      subst this; subst h1; subst h2
      refine g_iload_n X 0 dX4_init_73 rfl rfl ?_
      refine g_bipush X (12 : Int32) dX4_init_74 (by decide) ?_
      refine g_icmp_ge X 98 dX4_init_76 (by decide) (fun _ => ?_) (fun z => absurd (by decide) z)
      refine g_iconst X (0 : Int32) dX4_init_98 (by decide) ?_
      refine g_istore_n X [(1, .int (nI 0)), (0, .ref 0)] dX4_init_99 rfl (Nat.le_of_ble_eq_true rfl) rfl ?_
      exact loop2 6 0 _ _ σ rfl rfl rfl hz
    | succ d ih =>
      intro i kc ks σ hi h1 h2 hz
      have hL := rL_n (sh := cS7) (n := 52) (a := 1) rfl i
      have hcl := rL_cl (sh := cS7) (n := 52) (a := 1) rfl cS7_cl i
      refine g_iload_n X 0 dX4_init_73 rfl rfl ?_
      refine g_bipush X (12 : Int32) dX4_init_74 (by decide) ?_
      refine g_icmp_ge X 98 dX4_init_76 (by decide) (fun z => ?_) (fun _ => ?_)
      · have := (nI_leI (a := 12) (b := i) (by decide) (by omega)).mp z
        omega
      refine g_aload_n X 1 dX4_init_79 rfl rfl ?_
      refine g_getR X (C := RX4) (T := TX4) (N := 7) (ci := 4) (r := 1) 0 dX4_init_80 (by rw [hL]; omega) ((rL_k (by decide) i).trans (by decide +kernel)) rfl rfl inG4 (Nat.le_of_ble_eq_true rfl) rfl ((rL_r (by decide) (by decide) i).trans (by decide +kernel)) q205 ?_
      refine g_iload_n X 0 dX4_init_83 rfl rfl ?_
      refine g_new X (C := RX2) (T := TX2) (N := 6) (ci := 2) (n := 52 + 4 * i) tyX2 dX4_init_84 hL hcl (by show 1 ≤ _; omega) rfl rfl inG2 tyX2_ok q67 q126 q51 defX2 ⟨trivial, by show 0 < 52 + 4 * i; omega, trivial⟩ ⟨trivial, by show 1 < 52 + 4 * i; omega, trivial⟩ (by show _ ≤ 117; omega) (by show _ ≤ 4787; omega) ?_
      refine g_dup X dX4_init_87 rfl ?_
      refine g_callNN X hAO (host := "LongSums") (n := 52 + 4 * i + 1) [.ref (52 + 4 * i), .int (nI i), .ref 1] dX4_init_88 (c_X2_init l D cA (n := 52 + 4 * i + 1) rfl (hcl.add hL) (by omega) zK hz.add) (nw 127 (by decide +kernel) rfl) q128 q51 q129 rfl (by show 1 ≤ _; omega) ⟨by decide, by decide, by decide +kernel⟩ rfl (Nat.le_of_ble_eq_true rfl) rfl rfl (by decide) (by show _ ≤ 117; omega) (by show _ ≤ 4787; omega) ⟨trivial, by show 0 < 52 + 4 * i + 1; omega, trivial⟩ ⟨by show 52 + 4 * i < 52 + 4 * i + 1; omega, trivial, by show 1 < 52 + 4 * i + 1; omega, trivial⟩ (fun σ1 hz1 => ?_)
      refine g_astq X (C := RX2) (T := TX2) (N := 6) (t := 0) (n := 12) dX4_init_91 rfl (by omega) (by decide) (by show 1 < 52 + 4 * i + 1 + 2 + 1; omega) ((rI_k (by omega)).trans ((aK (by omega) (rL_k (by decide) i)).trans (by decide +kernel))) rfl (by show 52 + 4 * i < 52 + 4 * i + 1 + 2 + 1; omega) ((rI_k (by omega)).trans zK) rfl ?_
      refine g_iinc X 0 (1 : Int32) [(1, .int (nI (i + 1))), (0, .ref 0)] dX4_init_92 rfl (by decide) (Nat.le_of_ble_eq_true rfl) (by rw [nI_1]; rfl) ?_
      refine g_goto X 73 dX4_init_95 (by decide) ?_
      exact ih (i + 1) _ _ σ1 (by omega) (by omega) (by omega) hz1
  refine g_aload_n X 0 dX4_init_0 rfl rfl ?_
  refine g_objI X dX4_init_1 q64 q65 q66 (by decide) (by decide) ?_
  refine g_aload_n X 0 dX4_init_4 rfl rfl ?_
  refine g_bipush X (12 : Int32) dX4_init_5 (by decide) ?_
  refine g_newq X (C := RX2) (t := 0) (N := 12) (n := 1) hAO.2 dX4_init_7 rfl (by decide) rfl rfl cS0_cl (by decide) q67 ⟨by show 0 < 1; decide, trivial⟩ ⟨by show 0 < 1; decide, trivial⟩ (by decide) (by decide) ?_
  refine g_putQ X (C := RX4) (T := TX4) (N := 7) (ci := 4) (ty0 := tyX4) 0 hI dX4_init_10 (by decide) rfl rfl rfl inG4 tyX4_ok nmX4 (Nat.le_of_ble_eq_true rfl) rfl rfl rfl q205 (fun _ => rfl) (fun _ => rfl) ?_
  refine g_aload_n X 0 dX4_init_13 rfl rfl ?_
  refine g_bipush X (6 : Int32) dX4_init_14 (by decide) ?_
  refine g_newq X (C := RX1) (t := 1) (N := 6) (n := 2) hAO.1 dX4_init_16 rfl (by decide) rfl rfl cS1_cl (by decide) q69 ⟨by show 0 < 2; decide, trivial⟩ ⟨by show 0 < 2; decide, trivial⟩ (by decide) (by decide) ?_
  refine g_putQ X (C := RX4) (T := TX4) (N := 7) (ci := 4) (ty0 := tyX4) 1 hI dX4_init_19 (by decide) rfl rfl rfl inG4 tyX4_ok nmX4 (Nat.le_of_ble_eq_true rfl) rfl rfl rfl q206 (fun _ => rfl) (fun _ => rfl) ?_
  refine g_aload_n X 0 dX4_init_22 rfl rfl ?_
  refine g_new X (C := RX0) (T := TX0) (N := 4) (ci := 0) (n := 3) tyX0 dX4_init_23 rfl cS2_cl (by decide) rfl rfl inG0 tyX0_ok q71 q72 q48 defX0 ⟨by show 0 < 3; decide, trivial⟩ ⟨by show 0 < 3; decide, trivial⟩ (by decide) (by decide) ?_
  refine g_dup X dX4_init_26 rfl ?_
  refine g_callN X hAO (n := 4) [.ref 3, .ref 0] dX4_init_27 (c_X0_init l D cA hz.add.add.add) q73 q74 q48 q75 rfl (by decide) ⟨by decide, by decide, by decide +kernel⟩ rfl (Nat.le_of_ble_eq_true rfl) rfl rfl (by decide) (by decide) (by decide) ⟨by show 0 < 4; decide, trivial⟩ ⟨by show 3 < 4; decide, by show 0 < 4; decide, trivial⟩ (fun σ1 hz1 => ?_)
  clear hz; have hz := hz1; clear hz1
  refine g_putQ X (C := RX4) (T := TX4) (N := 7) (ci := 4) (ty0 := tyX4) 2 hI dX4_init_30 (by decide) (by decide +kernel) rfl rfl inG4 tyX4_ok nmX4 (Nat.le_of_ble_eq_true rfl) rfl rfl rfl q207 (fun _ => rfl) (fun _ => rfl) ?_
  refine g_aload_n X 0 dX4_init_33 rfl rfl ?_
  refine g_new X (C := RX3) (T := TX3) (N := 1) (ci := 3) (n := 42) tyX3 dX4_init_34 kH3_n cS4_cl (by decide) rfl rfl inG3 tyX3_ok q116 q117 q50 defX3 ⟨by show 0 < 42; decide, trivial⟩ ⟨by show 0 < 42; decide, trivial⟩ (by decide) (by decide) ?_
  refine g_dup X dX4_init_37 rfl ?_
  refine g_callNN X hAO (host := "LongSums") (n := 43) [.ref 42, .ref 0] dX4_init_38 (c_X3_init l D cA (n := 43) rfl (cS4_cl.add kH3_n) (by decide) zK hz.add) (nw 118 (by decide +kernel) rfl) q119 q50 q120 rfl (by decide) ⟨by decide, by decide, by decide +kernel⟩ rfl (Nat.le_of_ble_eq_true rfl) rfl rfl (by decide) (by decide) (by decide) ⟨by show 0 < 43; decide, trivial⟩ ⟨by show 42 < 43; decide, by show 0 < 43; decide, trivial⟩ (fun σ1 hz1 => ?_)
  clear hz; have hz := hz1; clear hz1
  refine g_putQ X (C := RX4) (T := TX4) (N := 7) (ci := 4) (ty0 := tyX4) 3 hI dX4_init_41 (by decide) (by decide +kernel) rfl rfl inG4 tyX4_ok nmX4 (Nat.le_of_ble_eq_true rfl) rfl rfl rfl q208 (fun _ => rfl) (fun _ => rfl) ?_
  refine g_aload_n X 0 dX4_init_44 rfl rfl ?_
  refine g_new X (C := RX2) (T := TX2) (N := 6) (ci := 2) (n := 44) tyX2 dX4_init_45 rfl cS5_cl (by decide) rfl rfl inG2 tyX2_ok q67 q126 q51 defX2 ⟨by show 0 < 44; decide, trivial⟩ ⟨by show 0 < 44; decide, trivial⟩ (by decide) (by decide) ?_
  refine g_dup X dX4_init_48 rfl ?_
  refine g_callNN X hAO (host := "LongSums") (n := 45) [.ref 44, .ref 0] dX4_init_49 (c_X2_init l D cA (n := 45) rfl (cS5_cl.add rfl) (by decide) zK hz.add) (nw 127 (by decide +kernel) rfl) q128 q51 q129 rfl (by decide) ⟨by decide, by decide, by decide +kernel⟩ rfl (Nat.le_of_ble_eq_true rfl) rfl rfl (by decide) (by decide) (by decide) ⟨by show 0 < 45; decide, trivial⟩ ⟨by show 44 < 45; decide, by show 0 < 45; decide, trivial⟩ (fun σ1 hz1 => ?_)
  clear hz; have hz := hz1; clear hz1
  refine g_putQ X (C := RX4) (T := TX4) (N := 7) (ci := 4) (ty0 := tyX4) 4 hI dX4_init_52 (by decide) (by decide +kernel) rfl rfl inG4 tyX4_ok nmX4 (Nat.le_of_ble_eq_true rfl) rfl rfl rfl q209 (fun _ => rfl) (fun _ => rfl) ?_
  refine g_aload_n X 0 dX4_init_55 rfl rfl ?_
  refine g_new X (C := RX2) (T := TX2) (N := 6) (ci := 2) (n := 48) tyX2 dX4_init_56 rfl cS6_cl (by decide) rfl rfl inG2 tyX2_ok q67 q126 q51 defX2 ⟨by show 0 < 48; decide, trivial⟩ ⟨by show 0 < 48; decide, trivial⟩ (by decide) (by decide) ?_
  refine g_dup X dX4_init_59 rfl ?_
  refine g_callNN X hAO (host := "LongSums") (n := 49) [.ref 48, .ref 0] dX4_init_60 (c_X2_init l D cA (n := 49) rfl (cS6_cl.add rfl) (by decide) zK hz.add) (nw 127 (by decide +kernel) rfl) q128 q51 q129 rfl (by decide) ⟨by decide, by decide, by decide +kernel⟩ rfl (Nat.le_of_ble_eq_true rfl) rfl rfl (by decide) (by decide) (by decide) ⟨by show 0 < 49; decide, trivial⟩ ⟨by show 48 < 49; decide, by show 0 < 49; decide, trivial⟩ (fun σ1 hz1 => ?_)
  clear hz; have hz := hz1; clear hz1
  refine g_putQ X (C := RX4) (T := TX4) (N := 7) (ci := 4) (ty0 := tyX4) 5 hI dX4_init_63 (by decide) (by decide +kernel) rfl rfl inG4 tyX4_ok nmX4 (Nat.le_of_ble_eq_true rfl) rfl rfl rfl q210 (fun _ => rfl) (fun _ => rfl) ?_
  refine g_aload_n X 0 dX4_init_66 rfl rfl ?_
  refine g_iconst X (0 : Int32) dX4_init_67 (by decide) ?_
  refine g_putI X (C := RX4) (T := TX4) (N := 7) (ci := 4) (ty0 := tyX4) 6 dX4_init_68 (by decide) (by decide +kernel) rfl rfl inG4 tyX4_ok nmX4 (Nat.le_of_ble_eq_true rfl) rfl rfl q211 rfl rfl ?_
  refine g_iconst X (0 : Int32) dX4_init_71 (by decide) ?_
  refine g_istore_n X [(1, .int (nI 0)), (0, .ref 0)] dX4_init_72 rfl (Nat.le_of_ble_eq_true rfl) rfl ?_
  exact loop1 12 0 _ _ _ rfl rfl rfl hz.put
