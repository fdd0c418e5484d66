/-! the constructor of the reference -/
theorem q568 : (Jvm.Cond.methodLink "LongSumsModel" (1 : Nat) ({ cls := "java/lang/Object", name := "<init>", desc := "()V" } : Jvm.MethodName)) ∈ GW := gw 568 (by decide +kernel) rfl
theorem q639 : (Jvm.Cond.arrayClass Jvm.ClassFile.FieldType.double) ∈ GW := gw 639 (by decide +kernel) rfl
def mS0 : SH := addC e0 0 (.inl 5)
def mS1 : SH := putC (addC mS0 1 (.inr (0, 12))) 0 1 1
def mS2 : SH := putC (addC mS1 2 (.inr (0, 12))) 0 2 2
def mS3 : SH := putC (addC mS2 3 (.inr (1, 480))) 0 3 3
def mS4 : SH := putC (addC mS3 4 (.inr (2, 480))) 0 4 4
def mS5 : SH := putC (addC mS4 5 (.inr (0, 480))) 0 5 5
def mS6 : SH := putC (addC mS5 6 (.inr (0, 7))) 0 6 6
def mS7 : SH := putC (addC mS6 7 (.inr (0, 1064))) 0 7 7
def mS8 : SH := putC (addC mS7 8 (.inr (0, 21))) 0 8 8
def mS9 : SH := putC (addC mS8 9 (.inr (0, 12))) 0 10 9
def mS10 : SH := putC (addC mS9 10 (.inr (0, 12))) 0 11 10
def mS11 : SH := putC (addC mS10 11 (.inr (0, 1824))) 0 12 11
def mS12 : SH := putC (addC mS11 12 (.inr (0, 36))) 0 13 12
def mS13 : SH := putC (addC mS12 13 (.inr (0, 152))) 0 19 13
def mS14 : SH := putC (addC mS13 14 (.inr (0, 152))) 0 22 14
theorem mS0_cl : Cl mS0 := e0_cl.add rfl
theorem mS1_cl : Cl mS1 := (mS0_cl.add rfl).put (by decide)
theorem mS2_cl : Cl mS2 := (mS1_cl.add rfl).put (by decide)
theorem mS3_cl : Cl mS3 := (mS2_cl.add rfl).put (by decide)
theorem mS4_cl : Cl mS4 := (mS3_cl.add rfl).put (by decide)
theorem mS5_cl : Cl mS5 := (mS4_cl.add rfl).put (by decide)
theorem mS6_cl : Cl mS6 := (mS5_cl.add rfl).put (by decide)
theorem mS7_cl : Cl mS7 := (mS6_cl.add rfl).put (by decide)
theorem mS8_cl : Cl mS8 := (mS7_cl.add rfl).put (by decide)
theorem mS9_cl : Cl mS9 := (mS8_cl.add rfl).put (by decide)
theorem mS10_cl : Cl mS10 := (mS9_cl.add rfl).put (by decide)
theorem mS11_cl : Cl mS11 := (mS10_cl.add rfl).put (by decide)
theorem mS12_cl : Cl mS12 := (mS11_cl.add rfl).put (by decide)
theorem mS13_cl : Cl mS13 := (mS12_cl.add rfl).put (by decide)
theorem mS14_cl : Cl mS14 := (mS13_cl.add rfl).put (by decide)
theorem rb_m0 : RB 23 mS0 := fun c j _ => by show (if c = 0 then none else none) = none; split <;> rfl
theorem rb_m1 : RB 23 mS1 := rb_m0.add.put (by decide)
theorem rb_m2 : RB 23 mS2 := rb_m1.add.put (by decide)
theorem rb_m3 : RB 23 mS3 := rb_m2.add.put (by decide)
theorem rb_m4 : RB 23 mS4 := rb_m3.add.put (by decide)
theorem rb_m5 : RB 23 mS5 := rb_m4.add.put (by decide)
theorem rb_m6 : RB 23 mS6 := rb_m5.add.put (by decide)
theorem rb_m7 : RB 23 mS7 := rb_m6.add.put (by decide)
theorem rb_m8 : RB 23 mS8 := rb_m7.add.put (by decide)
theorem rb_m9 : RB 23 mS9 := rb_m8.add.put (by decide)
theorem rb_m10 : RB 23 mS10 := rb_m9.add.put (by decide)
theorem rb_m11 : RB 23 mS11 := rb_m10.add.put (by decide)
theorem rb_m12 : RB 23 mS12 := rb_m11.add.put (by decide)
theorem rb_m13 : RB 23 mS13 := rb_m12.add.put (by decide)
theorem rb_m14 : RB 23 mS14 := rb_m13.add.put (by decide)
theorem rb_R : RB 23 shR := by
  intro c j hj
  show RRR c j = none
  unfold RRR
  split
  · rw [List.getD_eq_getElem?_getD, List.getElem?_eq_none (by show 23 ≤ j; exact hj)]; rfl
  · rfl
theorem sh_M : ∀ c, c < 15 → mS14.2.1 c = shR.2.1 c ∧ ∀ j, j < 23 → mS14.2.2 c j = shR.2.2 c j := by decide +kernel
theorem wd_M {cA : Nat → ClassId} {ad : Nat → Nat} {σ : St} : wd cA ad mS14 σ = wd cA ad shR σ := wd_shape rfl (fun c hc => by
  have hc : c < 15 := hc
  refine ⟨(sh_M c hc).1, fun j => ?_⟩
  by_cases h : j < 23
  · exact (sh_M c hc).2 j h
  · rw [rb_m14 c j (by omega), rb_R c j (by omega)])
def rmM : Room := { frames := 1, cells := 14, slots := 4744, locals := 20 }
theorem c_X5_init (l : Launch) (D : va_G) (cA : Nat → ClassId) {σ : St} (hz : Zr σ 1) : CtN l yX5_init cX5_init 2 rmM D cA 14 4744 mS0 shR [.ref 0] σ (fun σ' => RR A0 σ') := by
  refine CtN.of (own := RX5) rfl rfl (by decide +kernel) [(0, .ref 0)] rfl (Nat.le_of_ble_eq_true rfl) ?_
  intro p e s m args below meth c ad0 A X hr hI hAO
  have loop2 : ∀ (d i : Nat) (σ : St), i + d = 7 → ((∀ c, c ≠ 1 → c ≠ 6 → c < 15 → ∀ j, gI σ c j = 0) ∧ ∀ p, p < 12 → gI σ 1 p = -1) → (∀ p, p < i → gI σ 6 p = -1) → G p l e rmM s m args below meth c 2 D cA A (MQ below (QN D cA A mS0.1 ad0 shR (fun σ' => RR A0 σ')) args s 14 4744 A) 14 4744 (fun ad => agr mS0.1 ad ad0) shR σ [(1, .int (nI i)), (0, .ref 0)] 146 [] := by
    intro d
    induction d with
    | zero =>
      intro i σ hi hz h1
      have : i = 7 := by omega
      subst this
      refine g_iload_n X 0 dX5_init_146 rfl rfl ?_
      refine g_bipush X (7 : Int32) dX5_init_147 (by decide) ?_
      refine g_icmp_ge X 165 dX5_init_149 (by decide) (fun _ => ?_) (fun z => absurd (by decide) z)
      refine g_nret X hr dX5_init_165 ?_
      refine ⟨fun r hr => ⟨by rw [hz.2 r hr]; exact km1, fun z => absurd rfl z⟩, fun k hk => ⟨by rw [h1 k (by omega)]; exact km1, fun i hi => ?_, fun w _ => hz.1 8 (by decide) (by decide) (by decide) _⟩, ⟨hz.1 0 (by decide) (by decide) (by decide) 15, Nat.zero_le _, 0, by decide, hz.1 0 (by decide) (by decide) (by decide) 14, fun j e he => absurd he (by simp [A0])⟩, hz.1 0 (by decide) (by decide) (by decide) 9⟩
      rw [hz.1 7 (by decide) (by decide) (by decide) _]; exact (dgI0 i).symm
    | succ d ih =>
      intro i σ hi hz h1
      refine g_iload_n X 0 dX5_init_146 rfl rfl ?_
      refine g_bipush X (7 : Int32) dX5_init_147 (by decide) ?_
      refine g_icmp_ge X 165 dX5_init_149 (by decide) (fun z => ?_) (fun _ => ?_)
      · have := (nI_leI (a := 7) (b := i) (by decide) (by omega)).mp z
        omega
      refine g_aload_n X 1 dX5_init_152 rfl rfl ?_
      refine g_getR X (C := RX5) (T := TX5) (N := 23) (ci := 5) (r := 6) 6 dX5_init_153 (Nat.le_of_ble_eq_true rfl) rfl rfl rfl inG5 (Nat.le_of_ble_eq_true rfl) rfl rfl q575 ?_
      refine g_iload_n X 0 dX5_init_156 rfl rfl ?_
      refine g_iconst X (-1 : Int32) dX5_init_157 (by decide) ?_
      refine g_iast X (n := 7) dX5_init_158 (Nat.le_of_ble_eq_true rfl) rfl (in_nI (by omega) (by decide)) ?_
      refine g_iinc X 0 (1 : Int32) [(1, .int (nI (i + 1))), (0, .ref 0)] dX5_init_159 rfl (by decide) (Nat.le_of_ble_eq_true rfl) (by rw [nI_1]; rfl) ?_
      refine g_goto X 146 dX5_init_162 (by decide) ?_
      rw [show (nI i).toNatClampNeg = i from ix_nI (by omega)]
      refine ih (i + 1) _ (by omega) ⟨fun c a b d j => by rw [gI_uI, if_neg (fun z => b z.1)]; exact hz.1 c a b d j, fun q hq => by rw [gI_uI, if_neg (fun z => absurd z.1 (by decide))]; exact hz.2 q hq⟩ (fun q hq => ?_)
      rw [gI_uI]
      split
      · rfl
      · exact h1 q (by omega)
  have loop1 : ∀ (d i : Nat) (σ : St), i + d = 12 → (∀ c, c ≠ 1 → c < 15 → ∀ j, gI σ c j = 0) → (∀ p, p < i → gI σ 1 p = -1) → G p l e rmM s m args below meth c 2 D cA A (MQ below (QN D cA A mS0.1 ad0 shR (fun σ' => RR A0 σ')) args s 14 4744 A) 14 4744 (fun ad => agr mS0.1 ad ad0) shR σ [(1, .int (nI i)), (0, .ref 0)] 125 [] := by
    intro d
    induction d with
    | zero =>
      intro i σ hi hz h1
      have : i = 12 := by omega
      subst this
      refine g_iload_n X 0 dX5_init_125 rfl rfl ?_
      refine g_bipush X (12 : Int32) dX5_init_126 (by decide) ?_
      refine g_icmp_ge X 144 dX5_init_128 (by decide) (fun _ => ?_) (fun z => absurd (by decide) z)
      refine g_iconst X (0 : Int32) dX5_init_144 (by decide) ?_
      refine g_istore_n X [(1, .int (nI 0)), (0, .ref 0)] dX5_init_145 rfl (Nat.le_of_ble_eq_true rfl) rfl ?_
      exact loop2 7 0 σ rfl ⟨fun c a _ d => hz c a d, h1⟩ (fun p hp => absurd hp (by omega))
    | succ d ih =>
      intro i σ hi hz h1
      refine g_iload_n X 0 dX5_init_125 rfl rfl ?_
      refine g_bipush X (12 : Int32) dX5_init_126 (by decide) ?_
      refine g_icmp_ge X 144 dX5_init_128 (by decide) (fun z => ?_) (fun _ => ?_)
      · have := (nI_leI (a := 12) (b := i) (by decide) (by omega)).mp z
        omega
      refine g_aload_n X 1 dX5_init_131 rfl rfl ?_
      refine g_getR X (C := RX5) (T := TX5) (N := 23) (ci := 5) (r := 1) 1 dX5_init_132 (Nat.le_of_ble_eq_true rfl) rfl rfl rfl inG5 (Nat.le_of_ble_eq_true rfl) rfl rfl q570 ?_
      refine g_iload_n X 0 dX5_init_135 rfl rfl ?_
      refine g_iconst X (-1 : Int32) dX5_init_136 (by decide) ?_
      refine g_iast X (n := 12) dX5_init_137 (Nat.le_of_ble_eq_true rfl) rfl (in_nI (by omega) (by decide)) ?_
      refine g_iinc X 0 (1 : Int32) [(1, .int (nI (i + 1))), (0, .ref 0)] dX5_init_138 rfl (by decide) (Nat.le_of_ble_eq_true rfl) (by rw [nI_1]; rfl) ?_
      refine g_goto X 125 dX5_init_141 (by decide) ?_
      rw [show (nI i).toNatClampNeg = i from ix_nI (by omega)]
      refine ih (i + 1) _ (by omega) (fun c a d j => by rw [gI_uI, if_neg (fun z => a z.1)]; exact hz c a d j) (fun q hq => ?_)
      rw [gI_uI]
      split
      · rfl
      · exact h1 q (by omega)
  refine g_aload_n X 0 dX5_init_0 rfl rfl ?_
  refine g_objI X dX5_init_1 q568 q65 q66 (by decide) (by decide) ?_
  refine g_aload_n X 0 dX5_init_4 rfl rfl ?_
  refine g_bipush X (12 : Int32) dX5_init_5 (by decide) ?_
  refine g_newaI X (N := 12) (n := 1) dX5_init_7 rfl (by decide) rfl mS0_cl (by decide) q100 ⟨by show 0 < 1; decide, trivial⟩ ⟨by show 0 < 1; decide, trivial⟩ (by decide) (by decide) ?_
  refine g_putQ X (C := RX5) (T := TX5) (N := 23) (ci := 5) (ty0 := tyX5) 1 hI dX5_init_9 (by decide) rfl rfl rfl inG5 tyX5_ok nmX5 (Nat.le_of_ble_eq_true rfl) rfl rfl rfl q570 (fun _ => rfl) (fun _ => rfl) ?_
  refine g_aload_n X 0 dX5_init_12 rfl rfl ?_
  refine g_bipush X (12 : Int32) dX5_init_13 (by decide) ?_
  refine g_newaI X (N := 12) (n := 2) dX5_init_15 rfl (by decide) rfl mS1_cl (by decide) q100 ⟨by show 0 < 2; decide, trivial⟩ ⟨by show 0 < 2; decide, trivial⟩ (by decide) (by decide) ?_
  refine g_putQ X (C := RX5) (T := TX5) (N := 23) (ci := 5) (ty0 := tyX5) 2 hI dX5_init_17 (by decide) rfl rfl rfl inG5 tyX5_ok nmX5 (Nat.le_of_ble_eq_true rfl) rfl rfl rfl q571 (fun _ => rfl) (fun _ => rfl) ?_
  refine g_aload_n X 0 dX5_init_20 rfl rfl ?_
  refine g_sipush X (480 : Int32) dX5_init_21 (by decide) ?_
  refine g_newaJ X (N := 480) (n := 3) dX5_init_24 rfl (by decide) rfl mS2_cl (by decide) q101 ⟨by show 0 < 3; decide, trivial⟩ ⟨by show 0 < 3; decide, trivial⟩ (by decide) (by decide) ?_
  refine g_putQ X (C := RX5) (T := TX5) (N := 23) (ci := 5) (ty0 := tyX5) 3 hI dX5_init_26 (by decide) rfl rfl rfl inG5 tyX5_ok nmX5 (Nat.le_of_ble_eq_true rfl) rfl rfl rfl q572 (fun _ => rfl) (fun _ => rfl) ?_
  refine g_aload_n X 0 dX5_init_29 rfl rfl ?_
  refine g_sipush X (480 : Int32) dX5_init_30 (by decide) ?_
  refine g_newaD X (N := 480) (n := 4) dX5_init_33 rfl (by decide) rfl mS3_cl (by decide) q639 ⟨by show 0 < 4; decide, trivial⟩ ⟨by show 0 < 4; decide, trivial⟩ (by decide) (by decide) ?_
  refine g_putQ X (C := RX5) (T := TX5) (N := 23) (ci := 5) (ty0 := tyX5) 4 hI dX5_init_35 (by decide) rfl rfl rfl inG5 tyX5_ok nmX5 (Nat.le_of_ble_eq_true rfl) rfl rfl rfl q573 (fun _ => rfl) (fun _ => rfl) ?_
  refine g_aload_n X 0 dX5_init_38 rfl rfl ?_
  refine g_sipush X (480 : Int32) dX5_init_39 (by decide) ?_
  refine g_newaI X (N := 480) (n := 5) dX5_init_42 rfl (by decide) rfl mS4_cl (by decide) q100 ⟨by show 0 < 5; decide, trivial⟩ ⟨by show 0 < 5; decide, trivial⟩ (by decide) (by decide) ?_
  refine g_putQ X (C := RX5) (T := TX5) (N := 23) (ci := 5) (ty0 := tyX5) 5 hI dX5_init_44 (by decide) rfl rfl rfl inG5 tyX5_ok nmX5 (Nat.le_of_ble_eq_true rfl) rfl rfl rfl q574 (fun _ => rfl) (fun _ => rfl) ?_
  refine g_aload_n X 0 dX5_init_47 rfl rfl ?_
  refine g_bipush X (7 : Int32) dX5_init_48 (by decide) ?_
  refine g_newaI X (N := 7) (n := 6) dX5_init_50 rfl (by decide) rfl mS5_cl (by decide) q100 ⟨by show 0 < 6; decide, trivial⟩ ⟨by show 0 < 6; decide, trivial⟩ (by decide) (by decide) ?_
  refine g_putQ X (C := RX5) (T := TX5) (N := 23) (ci := 5) (ty0 := tyX5) 6 hI dX5_init_52 (by decide) rfl rfl rfl inG5 tyX5_ok nmX5 (Nat.le_of_ble_eq_true rfl) rfl rfl rfl q575 (fun _ => rfl) (fun _ => rfl) ?_
  refine g_aload_n X 0 dX5_init_55 rfl rfl ?_
  refine g_sipush X (1064 : Int32) dX5_init_56 (by decide) ?_
  refine g_newaI X (N := 1064) (n := 7) dX5_init_59 rfl (by decide) rfl mS6_cl (by decide) q100 ⟨by show 0 < 7; decide, trivial⟩ ⟨by show 0 < 7; decide, trivial⟩ (by decide) (by decide) ?_
  refine g_putQ X (C := RX5) (T := TX5) (N := 23) (ci := 5) (ty0 := tyX5) 7 hI dX5_init_61 (by decide) rfl rfl rfl inG5 tyX5_ok nmX5 (Nat.le_of_ble_eq_true rfl) rfl rfl rfl q576 (fun _ => rfl) (fun _ => rfl) ?_
  refine g_aload_n X 0 dX5_init_64 rfl rfl ?_
  refine g_bipush X (21 : Int32) dX5_init_65 (by decide) ?_
  refine g_newaI X (N := 21) (n := 8) dX5_init_67 rfl (by decide) rfl mS7_cl (by decide) q100 ⟨by show 0 < 8; decide, trivial⟩ ⟨by show 0 < 8; decide, trivial⟩ (by decide) (by decide) ?_
  refine g_putQ X (C := RX5) (T := TX5) (N := 23) (ci := 5) (ty0 := tyX5) 8 hI dX5_init_69 (by decide) rfl rfl rfl inG5 tyX5_ok nmX5 (Nat.le_of_ble_eq_true rfl) rfl rfl rfl q577 (fun _ => rfl) (fun _ => rfl) ?_
  refine g_aload_n X 0 dX5_init_72 rfl rfl ?_
  refine g_bipush X (12 : Int32) dX5_init_73 (by decide) ?_
  refine g_newaI X (N := 12) (n := 9) dX5_init_75 rfl (by decide) rfl mS8_cl (by decide) q100 ⟨by show 0 < 9; decide, trivial⟩ ⟨by show 0 < 9; decide, trivial⟩ (by decide) (by decide) ?_
  refine g_putQ X (C := RX5) (T := TX5) (N := 23) (ci := 5) (ty0 := tyX5) 10 hI dX5_init_77 (by decide) rfl rfl rfl inG5 tyX5_ok nmX5 (Nat.le_of_ble_eq_true rfl) rfl rfl rfl q579 (fun _ => rfl) (fun _ => rfl) ?_
  refine g_aload_n X 0 dX5_init_80 rfl rfl ?_
  refine g_bipush X (12 : Int32) dX5_init_81 (by decide) ?_
  refine g_newaI X (N := 12) (n := 10) dX5_init_83 rfl (by decide) rfl mS9_cl (by decide) q100 ⟨by show 0 < 10; decide, trivial⟩ ⟨by show 0 < 10; decide, trivial⟩ (by decide) (by decide) ?_
  refine g_putQ X (C := RX5) (T := TX5) (N := 23) (ci := 5) (ty0 := tyX5) 11 hI dX5_init_85 (by decide) rfl rfl rfl inG5 tyX5_ok nmX5 (Nat.le_of_ble_eq_true rfl) rfl rfl rfl q580 (fun _ => rfl) (fun _ => rfl) ?_
  refine g_aload_n X 0 dX5_init_88 rfl rfl ?_
  refine g_sipush X (1824 : Int32) dX5_init_89 (by decide) ?_
  refine g_newaI X (N := 1824) (n := 11) dX5_init_92 rfl (by decide) rfl mS10_cl (by decide) q100 ⟨by show 0 < 11; decide, trivial⟩ ⟨by show 0 < 11; decide, trivial⟩ (by decide) (by decide) ?_
  refine g_putQ X (C := RX5) (T := TX5) (N := 23) (ci := 5) (ty0 := tyX5) 12 hI dX5_init_94 (by decide) rfl rfl rfl inG5 tyX5_ok nmX5 (Nat.le_of_ble_eq_true rfl) rfl rfl rfl q581 (fun _ => rfl) (fun _ => rfl) ?_
  refine g_aload_n X 0 dX5_init_97 rfl rfl ?_
  refine g_bipush X (36 : Int32) dX5_init_98 (by decide) ?_
  refine g_newaI X (N := 36) (n := 12) dX5_init_100 rfl (by decide) rfl mS11_cl (by decide) q100 ⟨by show 0 < 12; decide, trivial⟩ ⟨by show 0 < 12; decide, trivial⟩ (by decide) (by decide) ?_
  refine g_putQ X (C := RX5) (T := TX5) (N := 23) (ci := 5) (ty0 := tyX5) 13 hI dX5_init_102 (by decide) rfl rfl rfl inG5 tyX5_ok nmX5 (Nat.le_of_ble_eq_true rfl) rfl rfl rfl q582 (fun _ => rfl) (fun _ => rfl) ?_
  refine g_aload_n X 0 dX5_init_105 rfl rfl ?_
  refine g_sipush X (152 : Int32) dX5_init_106 (by decide) ?_
  refine g_newaI X (N := 152) (n := 13) dX5_init_109 rfl (by decide) rfl mS12_cl (by decide) q100 ⟨by show 0 < 13; decide, trivial⟩ ⟨by show 0 < 13; decide, trivial⟩ (by decide) (by decide) ?_
  refine g_putQ X (C := RX5) (T := TX5) (N := 23) (ci := 5) (ty0 := tyX5) 19 hI dX5_init_111 (by decide) rfl rfl rfl inG5 tyX5_ok nmX5 (Nat.le_of_ble_eq_true rfl) rfl rfl rfl q588 (fun _ => rfl) (fun _ => rfl) ?_
  refine g_aload_n X 0 dX5_init_114 rfl rfl ?_
  refine g_sipush X (152 : Int32) dX5_init_115 (by decide) ?_
  refine g_newaI X (N := 152) (n := 14) dX5_init_118 rfl (by decide) rfl mS13_cl (by decide) q100 ⟨by show 0 < 14; decide, trivial⟩ ⟨by show 0 < 14; decide, trivial⟩ (by decide) (by decide) ?_
  refine g_putQ X (C := RX5) (T := TX5) (N := 23) (ci := 5) (ty0 := tyX5) 22 hI dX5_init_120 (by decide) rfl rfl rfl inG5 tyX5_ok nmX5 (Nat.le_of_ble_eq_true rfl) rfl rfl rfl q591 (fun _ => rfl) (fun _ => rfl) ?_
  refine g_shape (sh' := shR) (fun ad => wd_M) ?_
  refine g_iconst X (0 : Int32) dX5_init_123 (by decide) ?_
  refine g_istore_n X [(1, .int (nI 0)), (0, .ref 0)] dX5_init_124 rfl (Nat.le_of_ble_eq_true rfl) rfl ?_
  have hz := hz.add.add.add.add.add.add.add.add.add.add.add.add.add.add
  exact loop1 12 0 _ rfl (fun c _ hc j => (hz c hc j).1) (fun p hp => absurd hp (by omega))
