def w_X0_forget (σ : Sto) (P : Sto → Prop) : Prop :=
  P (si σ 90 4 ((gi σ 90 4) + 1))
theorem s_X0_forget {B : Nat} {E : Nat → List (Nat × Value) → List Value → Sto → Prop} {P : Sto → Prop} (C : Cy B E RX0 cX0_forget 1 none 0 0 (Zm (QFv P))) (σ : Sto) (h : w_X0_forget σ P) : E 0 [(0, .ref (B + 90))] [] σ := by
  unfold w_X0_forget at h
  refine f_aload_n C (j := 0) dX0_forget_0 rfl rfl rfl ?_
  refine f_dup C dX0_forget_1 rfl rfl ?_
  refine f_geti C tF_X0_26 rfl o90 dX0_forget_2 rfl ?_
  refine f_iconst C (v := 1) dX0_forget_5 kc1 rfl ?_
  refine f_iadd C dX0_forget_6 rfl ?_
  refine f_puti C tF_X0_26 fm_0_4 rfl o90 dX0_forget_7 rfl ?_
  exact f_vret C dX0_forget_10 h
theorem c_X0_forget (σ : Sto) (P : Sto → Prop) (h : w_X0_forget σ P) : Ct yX0_forget cX0_forget 1 none 0 0 (fun B => [.ref (B + 90)]) σ (QFv P) := Ct.of (by decide) (fun _ => Nat.le_of_ble_eq_true rfl) (fun B E C => s_X0_forget C σ h)
def w_X0_turnTo (a1 : Nat) (σ : Sto) (P : Sto → Prop) : Prop :=
  isCity a1 ∧ w_X0_forget (sr σ 90 3 a1) (fun σ_2 => P σ_2)
theorem s_X0_turnTo {B : Nat} {E : Nat → List (Nat × Value) → List Value → Sto → Prop} {P : Sto → Prop} (C : Cy B E RX0 cX0_turnTo 2 none 1 20 (Zm (QFv P))) (a1 : Nat) (σ : Sto) (h : w_X0_turnTo a1 σ P) : E 0 [(0, .ref (B + 90)), (1, .ref (B + a1))] [] σ := by
  unfold w_X0_turnTo at h
  refine f_aload_n C (j := 0) dX0_turnTo_0 rfl rfl rfl ?_
  refine f_aload_n C (j := 1) dX0_turnTo_1 rfl rfl rfl ?_
  obtain ⟨hc_1, h⟩ := h
  refine f_putr C tF_X0_9 fm_0_3 rfl hc_1.z cn90_3 o90 dX0_turnTo_2 rfl ?_
  refine f_aload_n C (j := 0) dX0_turnTo_5 rfl rfl rfl ?_
  refine f_callVv C (a := 90) (ci := 0) (As := fun B => []) o90 rfl (c_X0_forget   _ _ h) tM_X0_30 tI_X0_forget tS_X0_forget tN_X0 tC_X0_forget 0 dd_X0_forget rfl (by decide) (by decide) rfl (Nat.le_of_ble_eq_true rfl) dX0_turnTo_6 rfl (fun σ_2 h => ?_)
  exact f_vret C dX0_turnTo_9 h
theorem c_X0_turnTo (a1 : Nat) (σ : Sto) (P : Sto → Prop) (h : w_X0_turnTo a1 σ P) : Ct yX0_turnTo cX0_turnTo 2 none 1 20 (fun B => [.ref (B + 90), .ref (B + a1)]) σ (QFv P) := Ct.of (by decide) (fun _ => Nat.le_of_ble_eq_true rfl) (fun B E C => s_X0_turnTo C a1 σ h)
def w_X6_build_44 (K28 : Int32 × Int32 × Int32 × Sto → Prop) (K44 : Int32 × Int32 × Int32 × Sto → Prop) (x1 : Int32) (x2 : Int32) (x3 : Int32) (x4 : Int32) (x5 : Int32) (σ : Sto) (P : Int32 → Sto → Prop) : Prop :=
  isCity (gr σ 88 1) ∧ (if (gi σ (gr σ 88 1) 9) ≤ x5 then ∀ x4_8 : Int32, x4_8 = x4 + 1 → K28 (x2, x3, x4_8, σ) else vp_in x5 16 ∧ ∀ x6_11 : Int32, x6_11 = 1 <<< ((gi σ ((gr σ 88 1) + 3) (tn x5)) &&& 31) → (if (x6_11 &&& (x2 ||| x1)) = 0 then (if ((gi σ ((gr σ 88 1) + 4) (tn x5)) &&& (~~~x2)) = 0 then ∀ x2_19 : Int32, x2_19 = x2 ||| x6_11 → ∀ x5_21 : Int32, x5_21 = x5 + 1 → K44 (x2_19, 1, x5_21, σ) else ∀ x5_17 : Int32, x5_17 = x5 + 1 → K44 (x2, x3, x5_17, σ)) else ∀ x5_14 : Int32, x5_14 = x5 + 1 → K44 (x2, x3, x5_14, σ)))
theorem s_X6_build_44 {B : Nat} {E : Nat → List (Nat × Value) → List Value → Sto → Prop} {P : Int32 → Sto → Prop} (C : Cy B E RX6 cX6_build 7 (some .int) 0 0 (Zm (QFi P))) (x1 : Int32) (x2 : Int32) (x3 : Int32) (x4 : Int32) (x5 : Int32) (K28 : Int32 × Int32 × Int32 × Sto → Prop) (K44 : Int32 × Int32 × Int32 × Sto → Prop) (hK28 : ∀ (x2 : Int32) (x3 : Int32) (x4 : Int32) (σ : Sto), K28 (x2, x3, x4, σ) → E 28 [(0, .ref (B + 88)), (1, .int x1), (2, .int x2), (3, .int x3), (4, .int x4)] [] σ) (hK44 : ∀ (x2 : Int32) (x3 : Int32) (x5 : Int32) (σ : Sto), K44 (x2, x3, x5, σ) → E 44 [(0, .ref (B + 88)), (1, .int x1), (2, .int x2), (3, .int x3), (4, .int x4), (5, .int x5)] [] σ) (σ : Sto) (h : w_X6_build_44 K28 K44 x1 x2 x3 x4 x5 σ P) : E 44 [(0, .ref (B + 88)), (1, .int x1), (2, .int x2), (3, .int x3), (4, .int x4), (5, .int x5)] [] σ := by
  unfold w_X6_build_44 at h
  refine f_iload C (j := 5) dX6_build_44 rfl rfl ?_
  refine f_aload_n C (j := 0) dX6_build_46 rfl rfl rfl ?_
  obtain ⟨hc_6, h⟩ := h
  refine f_getm C tF_X6_15 rfl o88 cn88_1 hc_6.z dX6_build_47 rfl ?_
  refine f_geti C tF_X6_26 rfl hc_6.o dX6_build_50 rfl ?_
  refine f_icmp_ge C (t := 109) dX6_build_53 (by decide) rfl (fun hq_7 => ?_) (fun hq_7 => ?_)
  · replace h := Eq.mp (if_pos hq_7) h
    obtain ⟨x4_8, hx_9⟩ : ∃ y : Int32, y = x4 + 1 := ⟨_, rfl⟩
    replace h := h x4_8 hx_9
    refine f_iinc C (j := 4) (v := x4_8) (lv2 := [(4, .int x4_8), (0, .ref (B + 88)), (1, .int x1), (2, .int x2), (3, .int x3), (5, .int x5)]) dX6_build_109 rfl hx_9.symm (by decide) rfl rfl ?_
    refine f_goto C (t := 28) dX6_build_112 (by decide) ?_
    refine f_lv C (lv2 := [(0, .ref (B + 88)), (1, .int x1), (2, .int x2), (3, .int x3), (4, .int x4_8)]) [1, 2, 3, 4, 0] rfl ?_
    exact hK28 _ _ _ _ h
  · replace h := Eq.mp (if_neg hq_7) h
    refine f_iconst C (v := 1) dX6_build_56 kc1 rfl ?_
    refine f_aload_n C (j := 0) dX6_build_57 rfl rfl rfl ?_
    refine f_getm C tF_X6_15 rfl o88 cn88_1 hc_6.z dX6_build_58 rfl ?_
    refine f_getc C tF_X6_31 rfl hc_6.o hc_6.c2 (Nat.succ_ne_zero _) dX6_build_61 rfl ?_
    refine f_iload C (j := 5) dX6_build_64 rfl rfl ?_
    obtain ⟨hi_10, h⟩ := h
    refine f_iald C (j := tn x5) hc_6.a2 hi_10 rfl dX6_build_66 rfl ?_
    refine f_ishl C dX6_build_67 rfl ?_
    refine f_name (fun x6_11 hx_12 => ?_)
    replace h := h x6_11 hx_12
    refine f_istore C (lv2 := [(6, .int x6_11), (0, .ref (B + 88)), (1, .int x1), (2, .int x2), (3, .int x3), (4, .int x4), (5, .int x5)]) dX6_build_68 (by decide) rfl rfl ?_
    refine f_iload C (j := 0) dX6_build_70 rfl rfl ?_
    refine f_iload_n C (j := 3) dX6_build_72 rfl rfl rfl ?_
    refine f_iload_n C (j := 2) dX6_build_73 rfl rfl rfl ?_
    refine f_ior C dX6_build_74 rfl ?_
    refine f_iand C dX6_build_75 rfl ?_
    refine f_if_ne C (t := 103) dX6_build_76 (by decide) rfl (fun hq_13 => ?_) (fun hq_13 => ?_)
    · replace h := Eq.mp (if_neg hq_13) h
      obtain ⟨x5_14, hx_15⟩ : ∃ y : Int32, y = x5 + 1 := ⟨_, rfl⟩
      replace h := h x5_14 hx_15
      refine f_iinc C (j := 6) (v := x5_14) (lv2 := [(5, .int x5_14), (6, .int x6_11), (0, .ref (B + 88)), (1, .int x1), (2, .int x2), (3, .int x3), (4, .int x4)]) dX6_build_103 rfl hx_15.symm (by decide) rfl rfl ?_
      refine f_goto C (t := 44) dX6_build_106 (by decide) ?_
      refine f_lv C (lv2 := [(0, .ref (B + 88)), (1, .int x1), (2, .int x2), (3, .int x3), (4, .int x4), (5, .int x5_14)]) [2, 3, 4, 5, 6, 0] rfl ?_
      exact hK44 _ _ _ _ h
    · replace h := Eq.mp (if_pos hq_13) h
      refine f_aload_n C (j := 1) dX6_build_79 rfl rfl rfl ?_
      refine f_getm C tF_X6_15 rfl o88 cn88_1 hc_6.z dX6_build_80 rfl ?_
      refine f_getc C tF_X6_47 rfl hc_6.o hc_6.c3 (Nat.succ_ne_zero _) dX6_build_83 rfl ?_
      refine f_iload C (j := 6) dX6_build_86 rfl rfl ?_
      refine f_iald C (j := tn x5) hc_6.a3 hi_10 rfl dX6_build_88 rfl ?_
      refine f_iload_n C (j := 3) dX6_build_89 rfl rfl rfl ?_
      refine f_iconst C (v := (-1)) dX6_build_90 kcm1 rfl ?_
      refine f_inot C dX6_build_91 rfl ?_
      refine f_iand C dX6_build_92 rfl ?_
      refine f_if_ne C (t := 103) dX6_build_93 (by decide) rfl (fun hq_16 => ?_) (fun hq_16 => ?_)
      · replace h := Eq.mp (if_neg hq_16) h
        obtain ⟨x5_17, hx_18⟩ : ∃ y : Int32, y = x5 + 1 := ⟨_, rfl⟩
        replace h := h x5_17 hx_18
        refine f_iinc C (j := 6) (v := x5_17) (lv2 := [(5, .int x5_17), (6, .int x6_11), (0, .ref (B + 88)), (1, .int x1), (2, .int x2), (3, .int x3), (4, .int x4)]) dX6_build_103 rfl hx_18.symm (by decide) rfl rfl ?_
        refine f_goto C (t := 44) dX6_build_106 (by decide) ?_
        refine f_lv C (lv2 := [(0, .ref (B + 88)), (1, .int x1), (2, .int x2), (3, .int x3), (4, .int x4), (5, .int x5_17)]) [2, 3, 4, 5, 6, 0] rfl ?_
        exact hK44 _ _ _ _ h
      · replace h := Eq.mp (if_pos hq_16) h
        refine f_iload_n C (j := 3) dX6_build_96 rfl rfl rfl ?_
        refine f_iload C (j := 0) dX6_build_97 rfl rfl ?_
        refine f_ior C dX6_build_99 rfl ?_
        refine f_name (fun x2_19 hx_20 => ?_)
        replace h := h x2_19 hx_20
        refine f_istore_n C (lv2 := [(2, .int x2_19), (6, .int x6_11), (0, .ref (B + 88)), (1, .int x1), (3, .int x3), (4, .int x4), (5, .int x5)]) dX6_build_100 rfl (by decide) rfl rfl ?_
        refine f_iconst C (v := 1) dX6_build_101 kc1 rfl ?_
        refine f_istore_n C (lv2 := [(3, .int 1), (2, .int x2_19), (6, .int x6_11), (0, .ref (B + 88)), (1, .int x1), (4, .int x4), (5, .int x5)]) dX6_build_102 rfl (by decide) rfl rfl ?_
        obtain ⟨x5_21, hx_22⟩ : ∃ y : Int32, y = x5 + 1 := ⟨_, rfl⟩
        replace h := h x5_21 hx_22
        refine f_iinc C (j := 6) (v := x5_21) (lv2 := [(5, .int x5_21), (3, .int 1), (2, .int x2_19), (6, .int x6_11), (0, .ref (B + 88)), (1, .int x1), (4, .int x4)]) dX6_build_103 rfl hx_22.symm (by decide) rfl rfl ?_
        refine f_goto C (t := 44) dX6_build_106 (by decide) ?_
        refine f_lv C (lv2 := [(0, .ref (B + 88)), (1, .int x1), (2, .int x2_19), (3, .int 1), (4, .int x4), (5, .int x5_21)]) [4, 5, 2, 1, 6, 0] rfl ?_
        exact hK44 _ _ _ _ h
def w_X6_build_28 (K28 : Int32 × Int32 × Int32 × Sto → Prop) (x1 : Int32) (x2 : Int32) (x3 : Int32) (x4 : Int32) (σ : Sto) (P : Int32 → Sto → Prop) : Prop :=
  (if 12 < x4 then P x2 σ else (if x3 = 0 then P x2 σ else Lp (fun (K : Int32 × Int32 × Int32 × Sto → Prop) s => w_X6_build_44 K28 K x1 s.1 s.2.1 x4 s.2.2.1 s.2.2.2 P) (x2, 0, 0, σ)))
theorem s_X6_build_28 {B : Nat} {E : Nat → List (Nat × Value) → List Value → Sto → Prop} {P : Int32 → Sto → Prop} (C : Cy B E RX6 cX6_build 7 (some .int) 0 0 (Zm (QFi P))) (x1 : Int32) (x2 : Int32) (x3 : Int32) (x4 : Int32) (K28 : Int32 × Int32 × Int32 × Sto → Prop) (hK28 : ∀ (x2 : Int32) (x3 : Int32) (x4 : Int32) (σ : Sto), K28 (x2, x3, x4, σ) → E 28 [(0, .ref (B + 88)), (1, .int x1), (2, .int x2), (3, .int x3), (4, .int x4)] [] σ) (σ : Sto) (h : w_X6_build_28 K28 x1 x2 x3 x4 σ P) : E 28 [(0, .ref (B + 88)), (1, .int x1), (2, .int x2), (3, .int x3), (4, .int x4)] [] σ := by
  unfold w_X6_build_28 at h
  refine f_iload C (j := 4) dX6_build_28 rfl rfl ?_
  refine f_bipush C (v := 12) dX6_build_30 kb12 rfl ?_
  refine f_icmp_gt C (t := 115) dX6_build_32 (by decide) rfl (fun hq_4 => ?_) (fun hq_4 => ?_)
  · replace h := Eq.mp (if_pos hq_4) h
    refine f_iload_n C (j := 2) dX6_build_115 rfl rfl rfl ?_
    exact f_iret C dX6_build_116 h
  · replace h := Eq.mp (if_neg hq_4) h
    refine f_iload_n C (j := 3) dX6_build_35 rfl rfl rfl ?_
    refine f_if_eq C (t := 115) dX6_build_36 (by decide) rfl (fun hq_5 => ?_) (fun hq_5 => ?_)
    · replace h := Eq.mp (if_pos hq_5) h
      refine f_iload_n C (j := 2) dX6_build_115 rfl rfl rfl ?_
      exact f_iret C dX6_build_116 h
    · replace h := Eq.mp (if_neg hq_5) h
      refine f_iconst C (v := 0) dX6_build_39 kc0 rfl ?_
      refine f_istore_n C (lv2 := [(3, .int 0), (0, .ref (B + 88)), (1, .int x1), (2, .int x2), (4, .int x4)]) dX6_build_40 rfl (by decide) rfl rfl ?_
      refine f_iconst C (v := 0) dX6_build_41 kc0 rfl ?_
      refine f_istore C (lv2 := [(5, .int 0), (3, .int 0), (0, .ref (B + 88)), (1, .int x1), (2, .int x2), (4, .int x4)]) dX6_build_42 (by decide) rfl rfl ?_
      refine f_lv C (lv2 := [(0, .ref (B + 88)), (1, .int x1), (2, .int x2), (3, .int 0), (4, .int x4), (5, .int 0)]) [2, 3, 4, 1, 5, 0] rfl ?_
      exact Lp_sound (fun s : Int32 × Int32 × Int32 × Sto => E 44 [(0, .ref (B + 88)), (1, .int x1), (2, .int s.1), (3, .int s.2.1), (4, .int x4), (5, .int s.2.2.1)] [] s.2.2.2) h (fun K s hK h => s_X6_build_44 C x1 s.1 s.2.1 x4 s.2.2.1 K28 K hK28 (fun x2 x3 x5 σ hk => hK (x2, x3, x5, σ) hk) s.2.2.2 h)
def w_X6_build (x1 : Int32) (σ : Sto) (P : Int32 → Sto → Prop) : Prop :=
  isCity (gr σ 88 1) ∧ ∀ x2_2 : Int32, x2_2 = (((1 <<< ((gi σ (gr σ 88 1) 8) &&& 31)) - 1) &&& (~~~(gi σ 88 2))) &&& (~~~x1) → Lp (fun (K : Int32 × Int32 × Int32 × Sto → Prop) s => w_X6_build_28 K x1 s.1 s.2.1 s.2.2.1 s.2.2.2 P) (x2_2, 1, 0, σ)
theorem s_X6_build {B : Nat} {E : Nat → List (Nat × Value) → List Value → Sto → Prop} {P : Int32 → Sto → Prop} (C : Cy B E RX6 cX6_build 7 (some .int) 0 0 (Zm (QFi P))) (x1 : Int32) (σ : Sto) (h : w_X6_build x1 σ P) : E 0 [(0, .ref (B + 88)), (1, .int x1)] [] σ := by
  unfold w_X6_build at h
  refine f_iconst C (v := 1) dX6_build_0 kc1 rfl ?_
  refine f_aload_n C (j := 0) dX6_build_1 rfl rfl rfl ?_
  obtain ⟨hc_1, h⟩ := h
  refine f_getm C tF_X6_15 rfl o88 cn88_1 hc_1.z dX6_build_2 rfl ?_
  refine f_geti C tF_X6_44 rfl hc_1.o dX6_build_5 rfl ?_
  refine f_ishl C dX6_build_8 rfl ?_
  refine f_iconst C (v := 1) dX6_build_9 kc1 rfl ?_
  refine f_isub C dX6_build_10 rfl ?_
  refine f_aload_n C (j := 0) dX6_build_11 rfl rfl rfl ?_
  refine f_geti C tF_X6_19 rfl o88 dX6_build_12 rfl ?_
  refine f_iconst C (v := (-1)) dX6_build_15 kcm1 rfl ?_
  refine f_inot C dX6_build_16 rfl ?_
  refine f_iand C dX6_build_17 rfl ?_
  refine f_iload_n C (j := 1) dX6_build_18 rfl rfl rfl ?_
  refine f_iconst C (v := (-1)) dX6_build_19 kcm1 rfl ?_
  refine f_inot C dX6_build_20 rfl ?_
  refine f_iand C dX6_build_21 rfl ?_
  refine f_name (fun x2_2 hx_3 => ?_)
  replace h := h x2_2 hx_3
  refine f_istore_n C (lv2 := [(2, .int x2_2), (0, .ref (B + 88)), (1, .int x1)]) dX6_build_22 rfl (by decide) rfl rfl ?_
  refine f_iconst C (v := 1) dX6_build_23 kc1 rfl ?_
  refine f_istore_n C (lv2 := [(3, .int 1), (2, .int x2_2), (0, .ref (B + 88)), (1, .int x1)]) dX6_build_24 rfl (by decide) rfl rfl ?_
  refine f_iconst C (v := 0) dX6_build_25 kc0 rfl ?_
  refine f_istore C (lv2 := [(4, .int 0), (3, .int 1), (2, .int x2_2), (0, .ref (B + 88)), (1, .int x1)]) dX6_build_26 (by decide) rfl rfl ?_
  refine f_lv C (lv2 := [(0, .ref (B + 88)), (1, .int x1), (2, .int x2_2), (3, .int 1), (4, .int 0)]) [3, 4, 2, 1, 0] rfl ?_
  exact Lp_sound (fun s : Int32 × Int32 × Int32 × Sto => E 28 [(0, .ref (B + 88)), (1, .int x1), (2, .int s.1), (3, .int s.2.1), (4, .int s.2.2.1)] [] s.2.2.2) h (fun K s hK h => s_X6_build_28 C x1 s.1 s.2.1 s.2.2.1 K (fun x2 x3 x4 σ hk => hK (x2, x3, x4, σ) hk) s.2.2.2 h)
theorem c_X6_build (x1 : Int32) (σ : Sto) (P : Int32 → Sto → Prop) (h : w_X6_build x1 σ P) : Ct yX6_build cX6_build 7 (some .int) 0 0 (fun B => [.ref (B + 88), .int x1]) σ (QFi P) := Ct.of (by decide) (fun _ => Nat.le_of_ble_eq_true rfl) (fun B E C => s_X6_build C x1 σ h)
def w_X6_without (x1 : Int32) (σ : Sto) (P : Int32 → Sto → Prop) : Prop :=
  vp_in x1 4096 ∧ ∀ x2_2 : Int32, x2_2 = gi σ 89 (tn x1) → (if ((x2_2.toUInt32 >>> ((12 : Int32).toUInt32 &&& Int32.toUInt32 31)).toInt32) = (gi σ 88 3) then P (x2_2 &&& 4095) σ else w_X6_build x1 σ (fun r_6 σ_5 => P r_6 (si σ_5 89 (tn x1) (((gi σ_5 88 3) <<< 12) ||| r_6))))
theorem s_X6_without {B : Nat} {E : Nat → List (Nat × Value) → List Value → Sto → Prop} {P : Int32 → Sto → Prop} (C : Cy B E RX6 cX6_without 4 (some .int) 1 26 (Zm (QFi P))) (x1 : Int32) (σ : Sto) (h : w_X6_without x1 σ P) : E 0 [(0, .ref (B + 88)), (1, .int x1)] [] σ := by
  unfold w_X6_without at h
  refine f_aload_n C (j := 0) dX6_without_0 rfl rfl rfl ?_
  refine f_getc C tF_X6_9 rfl o88 cs88_0 (by decide) dX6_without_1 rfl ?_
  refine f_iload_n C (j := 1) dX6_without_4 rfl rfl rfl ?_
  obtain ⟨hi_1, h⟩ := h
  refine f_iald C (j := tn x1) a89 hi_1 rfl dX6_without_5 rfl ?_
  refine f_name (fun x2_2 hx_3 => ?_)
  replace h := h x2_2 hx_3
  refine f_istore_n C (lv2 := [(2, .int x2_2), (0, .ref (B + 88)), (1, .int x1)]) dX6_without_6 rfl (by decide) rfl rfl ?_
  refine f_iload_n C (j := 0) dX6_without_7 rfl rfl rfl ?_
  refine f_bipush C (v := 12) dX6_without_8 kb12 rfl ?_
  refine f_iushr C dX6_without_10 rfl ?_
  refine f_aload_n C (j := 1) dX6_without_11 rfl rfl rfl ?_
  refine f_geti C tF_X6_23 rfl o88 dX6_without_12 rfl ?_
  refine f_icmp_ne C (t := 24) dX6_without_15 (by decide) rfl (fun hq_4 => ?_) (fun hq_4 => ?_)
  · replace h := Eq.mp (if_neg hq_4) h
    refine f_aload_n C (j := 1) dX6_without_24 rfl rfl rfl ?_
    refine f_iload_n C (j := 2) dX6_without_25 rfl rfl rfl ?_
    refine f_callVi C (a := 88) (ci := 6) (As := fun B => [.int x1]) o88 rfl (c_X6_build  _ _ _ h) tM_X6_41 tI_X6_build tS_X6_build tN_X6 tC_X6_build 1 dd_X6_build rfl (by decide) (by decide) rfl (Nat.le_of_ble_eq_true rfl) dX6_without_26 rfl (fun r_6 σ_5 h => ?_)
    refine f_istore_n C (lv2 := [(3, .int r_6), (2, .int x2_2), (0, .ref (B + 88)), (1, .int x1)]) dX6_without_29 rfl (by decide) rfl rfl ?_
    refine f_aload_n C (j := 2) dX6_without_30 rfl rfl rfl ?_
    refine f_getc C tF_X6_9 rfl o88 cs88_0 (by decide) dX6_without_31 rfl ?_
    refine f_iload_n C (j := 3) dX6_without_34 rfl rfl rfl ?_
    refine f_aload_n C (j := 2) dX6_without_35 rfl rfl rfl ?_
    refine f_geti C tF_X6_23 rfl o88 dX6_without_36 rfl ?_
    refine f_bipush C (v := 12) dX6_without_39 kb12 rfl ?_
    refine f_ishlk C (y := 12) (z := 12) (by decide) dX6_without_41 rfl ?_
    refine f_iload_n C (j := 0) dX6_without_42 rfl rfl rfl ?_
    refine f_ior C dX6_without_43 rfl ?_
    refine f_iast C (j := tn x1) a89 hi_1 rfl dX6_without_44 rfl ?_
    refine f_iload_n C (j := 0) dX6_without_45 rfl rfl rfl ?_
    exact f_iret C dX6_without_46 h
  · replace h := Eq.mp (if_pos hq_4) h
    refine f_iload_n C (j := 0) dX6_without_18 rfl rfl rfl ?_
    refine f_sipush C (v := 4095) dX6_without_19 ks4095 rfl ?_
    refine f_iand C dX6_without_22 rfl ?_
    exact f_iret C dX6_without_23 h
theorem c_X6_without (x1 : Int32) (σ : Sto) (P : Int32 → Sto → Prop) (h : w_X6_without x1 σ P) : Ct yX6_without cX6_without 4 (some .int) 1 26 (fun B => [.ref (B + 88), .int x1]) σ (QFi P) := Ct.of (by decide) (fun _ => Nat.le_of_ble_eq_true rfl) (fun B E C => s_X6_without C x1 σ h)
def w_X0_openNow (σ : Sto) (P : Int32 → Sto → Prop) : Prop :=
  isCity (gr σ 90 3) ∧ w_X6_without (gi σ (gr σ 90 3) 14) σ (fun r_3 σ_2 => isCity (gr σ_2 90 3) ∧ P (r_3 &&& (~~~(gi σ_2 (gr σ_2 90 3) 15))) σ_2)
theorem s_X0_openNow {B : Nat} {E : Nat → List (Nat × Value) → List Value → Sto → Prop} {P : Int32 → Sto → Prop} (C : Cy B E RX0 cX0_openNow 1 (some .int) 2 49 (Zm (QFi P))) (σ : Sto) (h : w_X0_openNow σ P) : E 0 [(0, .ref (B + 90))] [] σ := by
  unfold w_X0_openNow at h
  refine f_aload_n C (j := 0) dX0_openNow_0 rfl rfl rfl ?_
  refine f_getc C tF_X0_15 rfl o90 cs90_0 (by decide) dX0_openNow_1 rfl ?_
  refine f_aload_n C (j := 0) dX0_openNow_4 rfl rfl rfl ?_
  obtain ⟨hc_1, h⟩ := h
  refine f_getm C tF_X0_9 rfl o90 cn90_3 hc_1.z dX0_openNow_5 rfl ?_
  refine f_geti C tF_X0_33 rfl hc_1.o dX0_openNow_8 rfl ?_
  refine f_callVi C (a := 88) (ci := 6) (As := fun B => [.int (gi σ (gr σ 90 3) 14)]) o88 rfl (c_X6_without  _ _ _ h) tM_X0_38 tI_X6_without tS_X6_without tN_X6 tC_X6_without 1 dd_X6_without rfl (by decide) (by decide) rfl (Nat.le_of_ble_eq_true rfl) dX0_openNow_11 rfl (fun r_3 σ_2 h => ?_)
  refine f_aload_n C (j := 0) dX0_openNow_14 rfl rfl rfl ?_
  obtain ⟨hc_4, h⟩ := h
  refine f_getm C tF_X0_9 rfl o90 cn90_3 hc_4.z dX0_openNow_15 rfl ?_
  refine f_geti C tF_X0_44 rfl hc_4.o dX0_openNow_18 rfl ?_
  refine f_iconst C (v := (-1)) dX0_openNow_21 kcm1 rfl ?_
  refine f_inot C dX0_openNow_22 rfl ?_
  refine f_iand C dX0_openNow_23 rfl ?_
  exact f_iret C dX0_openNow_24 h
theorem c_X0_openNow (σ : Sto) (P : Int32 → Sto → Prop) (h : w_X0_openNow σ P) : Ct yX0_openNow cX0_openNow 1 (some .int) 2 49 (fun B => [.ref (B + 90)]) σ (QFi P) := Ct.of (by decide) (fun _ => Nat.le_of_ble_eq_true rfl) (fun B E C => s_X0_openNow C σ h)
def w_J7_fill_53178_5 (K5 : Int32 × Sto → Prop) (a0 : Nat) (n0 : Nat) (x1 : Int32) (x2 : Int32) (x3 : Int32) (σ : Sto) (P : Sto → Prop) : Prop :=
  (if x3 ≤ x2 then P σ else isA a0 1 n0 ∧ vp_in x2 n0 ∧ ∀ x2_7 : Int32, x2_7 = x2 + 1 → K5 (x2_7, si σ a0 (tn x2) x1))
theorem s_J7_fill_53178_5 {B : Nat} {E : Nat → List (Nat × Value) → List Value → Sto → Prop} {P : Sto → Prop} (C : Cy B E RJ7 cJ7_fill_53178 4 none 0 0 (Zm (QFv P))) (a0 : Nat) (n0 : Nat) (x1 : Int32) (x2 : Int32) (x3 : Int32) (K5 : Int32 × Sto → Prop) (hK5 : ∀ (x2 : Int32) (σ : Sto), K5 (x2, σ) → E 5 [(0, .ref (B + a0)), (1, .int x1), (2, .int x2), (3, .int x3)] [] σ) (σ : Sto) (h : w_J7_fill_53178_5 K5 a0 n0 x1 x2 x3 σ P) : E 5 [(0, .ref (B + a0)), (1, .int x1), (2, .int x2), (3, .int x3)] [] σ := by
  unfold w_J7_fill_53178_5 at h
  refine f_iload_n C (j := 2) dJ7_fill_53178_5 rfl rfl rfl ?_
  refine f_iload_n C (j := 3) dJ7_fill_53178_6 rfl rfl rfl ?_
  refine f_icmp_ge C (t := 20) dJ7_fill_53178_7 (by decide) rfl (fun hq_4 => ?_) (fun hq_4 => ?_)
  · replace h := Eq.mp (if_pos hq_4) h
    exact f_vret C dJ7_fill_53178_20 h
  · replace h := Eq.mp (if_neg hq_4) h
    refine f_aload_n C (j := 0) dJ7_fill_53178_10 rfl rfl rfl ?_
    refine f_iload_n C (j := 2) dJ7_fill_53178_11 rfl rfl rfl ?_
    refine f_iload_n C (j := 1) dJ7_fill_53178_12 rfl rfl rfl ?_
    obtain ⟨ha_5, h⟩ := h
    obtain ⟨hi_6, h⟩ := h
    refine f_iast C (j := tn x2) ha_5 hi_6 rfl dJ7_fill_53178_13 rfl ?_
    obtain ⟨x2_7, hx_8⟩ : ∃ y : Int32, y = x2 + 1 := ⟨_, rfl⟩
    replace h := h x2_7 hx_8
    refine f_iinc C (j := 2) (v := x2_7) (lv2 := [(2, .int x2_7), (0, .ref (B + a0)), (1, .int x1), (3, .int x3)]) dJ7_fill_53178_14 rfl hx_8.symm (by decide) rfl rfl ?_
    refine f_goto C (t := 5) dJ7_fill_53178_17 (by decide) ?_
    refine f_lv C (lv2 := [(0, .ref (B + a0)), (1, .int x1), (2, .int x2_7), (3, .int x3)]) [1, 2, 0, 3] rfl ?_
    exact hK5 _ _ h
def w_J7_fill_53178 (a0 : Nat) (n0 : Nat) (x1 : Int32) (σ : Sto) (P : Sto → Prop) : Prop :=
  isA a0 1 n0 ∧ ∀ x3_2 : Int32, x3_2 = nI n0 → Lp (fun (K : Int32 × Sto → Prop) s => w_J7_fill_53178_5 K a0 n0 x1 s.1 x3_2 s.2 P) (0, σ)
theorem s_J7_fill_53178 {B : Nat} {E : Nat → List (Nat × Value) → List Value → Sto → Prop} {P : Sto → Prop} (C : Cy B E RJ7 cJ7_fill_53178 4 none 0 0 (Zm (QFv P))) (a0 : Nat) (n0 : Nat) (x1 : Int32) (σ : Sto) (h : w_J7_fill_53178 a0 n0 x1 σ P) : E 0 [(0, .ref (B + a0)), (1, .int x1)] [] σ := by
  unfold w_J7_fill_53178 at h
  refine f_iconst C (v := 0) dJ7_fill_53178_0 kc0 rfl ?_
  refine f_istore_n C (lv2 := [(2, .int 0), (0, .ref (B + a0)), (1, .int x1)]) dJ7_fill_53178_1 rfl (by decide) rfl rfl ?_
  refine f_aload_n C (j := 1) dJ7_fill_53178_2 rfl rfl rfl ?_
  obtain ⟨ha_1, h⟩ := h
  refine f_alen1 C ha_1 dJ7_fill_53178_3 rfl ?_
  refine f_name (fun x3_2 hx_3 => ?_)
  replace h := h x3_2 hx_3
  refine f_istore_n C (lv2 := [(3, .int x3_2), (2, .int 0), (0, .ref (B + a0)), (1, .int x1)]) dJ7_fill_53178_4 rfl (by decide) rfl rfl ?_
  refine f_lv C (lv2 := [(0, .ref (B + a0)), (1, .int x1), (2, .int 0), (3, .int x3_2)]) [2, 3, 1, 0] rfl ?_
  exact Lp_sound (fun s : Int32 × Sto => E 5 [(0, .ref (B + a0)), (1, .int x1), (2, .int s.1), (3, .int x3_2)] [] s.2) h (fun K s hK h => s_J7_fill_53178_5 C a0 n0 x1 s.1 x3_2 K (fun x2 σ hk => hK (x2, σ) hk) s.2 h)
theorem c_J7_fill_53178 (a0 : Nat) (n0 : Nat) (x1 : Int32) (σ : Sto) (P : Sto → Prop) (h : w_J7_fill_53178 a0 n0 x1 σ P) : Ct yJ7_fill_53178 cJ7_fill_53178 4 none 0 0 (fun B => [.ref (B + a0), .int x1]) σ (QFv P) := Ct.of (by decide) (fun _ => Nat.le_of_ble_eq_true rfl) (fun B E C => s_J7_fill_53178 C a0 n0 x1 σ h)
def w_X0_hatredOf_4 (K4 : Int32 × Int32 × Sto → Prop) (x1 : Int32) (x2 : Int32) (x3 : Int32) (σ : Sto) (P : Int32 → Sto → Prop) : Prop :=
  isCity (gr σ 90 3) ∧ (if (gi σ (gr σ 90 3) 11) ≤ x3 then P x2 σ else vp_in ((x3 * 12) + x1) 72 ∧ ∀ x2_4 : Int32, x2_4 = x2 + (gi σ ((gr σ 90 3) + 6) (tn ((x3 * 12) + x1))) → ∀ x3_6 : Int32, x3_6 = x3 + 1 → K4 (x2_4, x3_6, σ))
theorem s_X0_hatredOf_4 {B : Nat} {E : Nat → List (Nat × Value) → List Value → Sto → Prop} {P : Int32 → Sto → Prop} (C : Cy B E RX0 cX0_hatredOf 4 (some .int) 0 0 (Zm (QFi P))) (x1 : Int32) (x2 : Int32) (x3 : Int32) (K4 : Int32 × Int32 × Sto → Prop) (hK4 : ∀ (x2 : Int32) (x3 : Int32) (σ : Sto), K4 (x2, x3, σ) → E 4 [(0, .ref (B + 90)), (1, .int x1), (2, .int x2), (3, .int x3)] [] σ) (σ : Sto) (h : w_X0_hatredOf_4 K4 x1 x2 x3 σ P) : E 4 [(0, .ref (B + 90)), (1, .int x1), (2, .int x2), (3, .int x3)] [] σ := by
  unfold w_X0_hatredOf_4 at h
  refine f_iload_n C (j := 3) dX0_hatredOf_4 rfl rfl rfl ?_
  refine f_aload_n C (j := 0) dX0_hatredOf_5 rfl rfl rfl ?_
  obtain ⟨hc_1, h⟩ := h
  refine f_getm C tF_X0_9 rfl o90 cn90_3 hc_1.z dX0_hatredOf_6 rfl ?_
  refine f_geti C tF_X0_76 rfl hc_1.o dX0_hatredOf_9 rfl ?_
  refine f_icmp_ge C (t := 38) dX0_hatredOf_12 (by decide) rfl (fun hq_2 => ?_) (fun hq_2 => ?_)
  · replace h := Eq.mp (if_pos hq_2) h
    refine f_iload_n C (j := 2) dX0_hatredOf_38 rfl rfl rfl ?_
    exact f_iret C dX0_hatredOf_39 h
  · replace h := Eq.mp (if_neg hq_2) h
    refine f_iload_n C (j := 2) dX0_hatredOf_15 rfl rfl rfl ?_
    refine f_aload_n C (j := 0) dX0_hatredOf_16 rfl rfl rfl ?_
    refine f_getm C tF_X0_9 rfl o90 cn90_3 hc_1.z dX0_hatredOf_17 rfl ?_
    refine f_getc C tF_X0_79 rfl hc_1.o hc_1.c5 (Nat.succ_ne_zero _) dX0_hatredOf_20 rfl ?_
    refine f_iload_n C (j := 3) dX0_hatredOf_23 rfl rfl rfl ?_
    refine f_bipush C (v := 12) dX0_hatredOf_24 kb12 rfl ?_
    refine f_imul C dX0_hatredOf_26 rfl ?_
    refine f_iload_n C (j := 1) dX0_hatredOf_27 rfl rfl rfl ?_
    refine f_iadd C dX0_hatredOf_28 rfl ?_
    obtain ⟨hi_3, h⟩ := h
    refine f_iald C (j := tn ((x3 * 12) + x1)) hc_1.a5 hi_3 rfl dX0_hatredOf_29 rfl ?_
    refine f_iadd C dX0_hatredOf_30 rfl ?_
    refine f_name (fun x2_4 hx_5 => ?_)
    replace h := h x2_4 hx_5
    refine f_istore_n C (lv2 := [(2, .int x2_4), (0, .ref (B + 90)), (1, .int x1), (3, .int x3)]) dX0_hatredOf_31 rfl (by decide) rfl rfl ?_
    obtain ⟨x3_6, hx_7⟩ : ∃ y : Int32, y = x3 + 1 := ⟨_, rfl⟩
    replace h := h x3_6 hx_7
    refine f_iinc C (j := 3) (v := x3_6) (lv2 := [(3, .int x3_6), (2, .int x2_4), (0, .ref (B + 90)), (1, .int x1)]) dX0_hatredOf_32 rfl hx_7.symm (by decide) rfl rfl ?_
    refine f_goto C (t := 4) dX0_hatredOf_35 (by decide) ?_
    refine f_lv C (lv2 := [(0, .ref (B + 90)), (1, .int x1), (2, .int x2_4), (3, .int x3_6)]) [2, 3, 1, 0] rfl ?_
    exact hK4 _ _ _ h
def w_X0_hatredOf (x1 : Int32) (σ : Sto) (P : Int32 → Sto → Prop) : Prop :=
  Lp (fun (K : Int32 × Int32 × Sto → Prop) s => w_X0_hatredOf_4 K x1 s.1 s.2.1 s.2.2 P) (0, 0, σ)
theorem s_X0_hatredOf {B : Nat} {E : Nat → List (Nat × Value) → List Value → Sto → Prop} {P : Int32 → Sto → Prop} (C : Cy B E RX0 cX0_hatredOf 4 (some .int) 0 0 (Zm (QFi P))) (x1 : Int32) (σ : Sto) (h : w_X0_hatredOf x1 σ P) : E 0 [(0, .ref (B + 90)), (1, .int x1)] [] σ := by
  unfold w_X0_hatredOf at h
  refine f_iconst C (v := 0) dX0_hatredOf_0 kc0 rfl ?_
  refine f_istore_n C (lv2 := [(2, .int 0), (0, .ref (B + 90)), (1, .int x1)]) dX0_hatredOf_1 rfl (by decide) rfl rfl ?_
  refine f_iconst C (v := 0) dX0_hatredOf_2 kc0 rfl ?_
  refine f_istore_n C (lv2 := [(3, .int 0), (2, .int 0), (0, .ref (B + 90)), (1, .int x1)]) dX0_hatredOf_3 rfl (by decide) rfl rfl ?_
  refine f_lv C (lv2 := [(0, .ref (B + 90)), (1, .int x1), (2, .int 0), (3, .int 0)]) [2, 3, 1, 0] rfl ?_
  exact Lp_sound (fun s : Int32 × Int32 × Sto => E 4 [(0, .ref (B + 90)), (1, .int x1), (2, .int s.1), (3, .int s.2.1)] [] s.2.2) h (fun K s hK h => s_X0_hatredOf_4 C x1 s.1 s.2.1 K (fun x2 x3 σ hk => hK (x2, x3, σ) hk) s.2.2 h)
theorem c_X0_hatredOf (x1 : Int32) (σ : Sto) (P : Int32 → Sto → Prop) (h : w_X0_hatredOf x1 σ P) : Ct yX0_hatredOf cX0_hatredOf 4 (some .int) 0 0 (fun B => [.ref (B + 90), .int x1]) σ (QFi P) := Ct.of (by decide) (fun _ => Nat.le_of_ble_eq_true rfl) (fun B E C => s_X0_hatredOf C x1 σ h)
def w_X0_most_7 (K7 : Int32 × Int32 × Int32 × Sto → Prop) (x1 : Int32) (x2 : Int32) (x3 : Int32) (x4 : Int32) (σ : Sto) (P : Int32 → Sto → Prop) : Prop :=
  isCity (gr σ 90 3) ∧ (if (gi σ (gr σ 90 3) 8) ≤ x4 then P x2 σ else vp_in x4 12 ∧ (if (gi σ 92 (tn x4)) ≤ x3 then ∀ x4_5 : Int32, x4_5 = x4 + 1 → K7 (x2, x3, x4_5, σ) else (if ((x1 >>> (x4 &&& 31)) &&& 1) = 0 then ∀ x4_8 : Int32, x4_8 = x4 + 1 → K7 (x2, x3, x4_8, σ) else ∀ x3_10 : Int32, x3_10 = gi σ 92 (tn x4) → ∀ x4_12 : Int32, x4_12 = x4 + 1 → K7 (x4, x3_10, x4_12, σ))))
theorem s_X0_most_7 {B : Nat} {E : Nat → List (Nat × Value) → List Value → Sto → Prop} {P : Int32 → Sto → Prop} (C : Cy B E RX0 cX0_most 5 (some .int) 0 0 (Zm (QFi P))) (x1 : Int32) (x2 : Int32) (x3 : Int32) (x4 : Int32) (K7 : Int32 × Int32 × Int32 × Sto → Prop) (hK7 : ∀ (x2 : Int32) (x3 : Int32) (x4 : Int32) (σ : Sto), K7 (x2, x3, x4, σ) → E 7 [(0, .ref (B + 90)), (1, .int x1), (2, .int x2), (3, .int x3), (4, .int x4)] [] σ) (σ : Sto) (h : w_X0_most_7 K7 x1 x2 x3 x4 σ P) : E 7 [(0, .ref (B + 90)), (1, .int x1), (2, .int x2), (3, .int x3), (4, .int x4)] [] σ := by
  unfold w_X0_most_7 at h
  refine f_iload C (j := 4) dX0_most_7 rfl rfl ?_
  refine f_aload_n C (j := 0) dX0_most_9 rfl rfl rfl ?_
  obtain ⟨hc_1, h⟩ := h
  refine f_getm C tF_X0_9 rfl o90 cn90_3 hc_1.z dX0_most_10 rfl ?_
  refine f_geti C tF_X0_60 rfl hc_1.o dX0_most_13 rfl ?_
  refine f_icmp_ge C (t := 56) dX0_most_16 (by decide) rfl (fun hq_2 => ?_) (fun hq_2 => ?_)
  · replace h := Eq.mp (if_pos hq_2) h
    refine f_iload_n C (j := 2) dX0_most_56 rfl rfl rfl ?_
    exact f_iret C dX0_most_57 h
  · replace h := Eq.mp (if_neg hq_2) h
    refine f_aload_n C (j := 0) dX0_most_19 rfl rfl rfl ?_
    refine f_getc C tF_X0_23 rfl o90 cs90_2 (by decide) dX0_most_20 rfl ?_
    refine f_iload C (j := 4) dX0_most_23 rfl rfl ?_
    obtain ⟨hi_3, h⟩ := h
    refine f_iald C (j := tn x4) a92 hi_3 rfl dX0_most_25 rfl ?_
    refine f_iload_n C (j := 3) dX0_most_26 rfl rfl rfl ?_
    refine f_icmp_le C (t := 50) dX0_most_27 (by decide) rfl (fun hq_4 => ?_) (fun hq_4 => ?_)
    · replace h := Eq.mp (if_pos hq_4) h
      obtain ⟨x4_5, hx_6⟩ : ∃ y : Int32, y = x4 + 1 := ⟨_, rfl⟩
      replace h := h x4_5 hx_6
      refine f_iinc C (j := 4) (v := x4_5) (lv2 := [(4, .int x4_5), (0, .ref (B + 90)), (1, .int x1), (2, .int x2), (3, .int x3)]) dX0_most_50 rfl hx_6.symm (by decide) rfl rfl ?_
      refine f_goto C (t := 7) dX0_most_53 (by decide) ?_
      refine f_lv C (lv2 := [(0, .ref (B + 90)), (1, .int x1), (2, .int x2), (3, .int x3), (4, .int x4_5)]) [1, 2, 3, 4, 0] rfl ?_
      exact hK7 _ _ _ _ h
    · replace h := Eq.mp (if_neg hq_4) h
      refine f_iload_n C (j := 1) dX0_most_30 rfl rfl rfl ?_
      refine f_iload C (j := 4) dX0_most_31 rfl rfl ?_
      refine f_ishr C dX0_most_33 rfl ?_
      refine f_iconst C (v := 1) dX0_most_34 kc1 rfl ?_
      refine f_iand C dX0_most_35 rfl ?_
      refine f_if_eq C (t := 50) dX0_most_36 (by decide) rfl (fun hq_7 => ?_) (fun hq_7 => ?_)
      · replace h := Eq.mp (if_pos hq_7) h
        obtain ⟨x4_8, hx_9⟩ : ∃ y : Int32, y = x4 + 1 := ⟨_, rfl⟩
        replace h := h x4_8 hx_9
        refine f_iinc C (j := 4) (v := x4_8) (lv2 := [(4, .int x4_8), (0, .ref (B + 90)), (1, .int x1), (2, .int x2), (3, .int x3)]) dX0_most_50 rfl hx_9.symm (by decide) rfl rfl ?_
        refine f_goto C (t := 7) dX0_most_53 (by decide) ?_
        refine f_lv C (lv2 := [(0, .ref (B + 90)), (1, .int x1), (2, .int x2), (3, .int x3), (4, .int x4_8)]) [1, 2, 3, 4, 0] rfl ?_
        exact hK7 _ _ _ _ h
      · replace h := Eq.mp (if_neg hq_7) h
        refine f_aload_n C (j := 0) dX0_most_39 rfl rfl rfl ?_
        refine f_getc C tF_X0_23 rfl o90 cs90_2 (by decide) dX0_most_40 rfl ?_
        refine f_iload C (j := 4) dX0_most_43 rfl rfl ?_
        refine f_iald C (j := tn x4) a92 hi_3 rfl dX0_most_45 rfl ?_
        refine f_name (fun x3_10 hx_11 => ?_)
        replace h := h x3_10 hx_11
        refine f_istore_n C (lv2 := [(3, .int x3_10), (0, .ref (B + 90)), (1, .int x1), (2, .int x2), (4, .int x4)]) dX0_most_46 rfl (by decide) rfl rfl ?_
        refine f_iload C (j := 4) dX0_most_47 rfl rfl ?_
        refine f_istore_n C (lv2 := [(2, .int x4), (3, .int x3_10), (0, .ref (B + 90)), (1, .int x1), (4, .int x4)]) dX0_most_49 rfl (by decide) rfl rfl ?_
        obtain ⟨x4_12, hx_13⟩ : ∃ y : Int32, y = x4 + 1 := ⟨_, rfl⟩
        replace h := h x4_12 hx_13
        refine f_iinc C (j := 4) (v := x4_12) (lv2 := [(4, .int x4_12), (2, .int x4), (3, .int x3_10), (0, .ref (B + 90)), (1, .int x1)]) dX0_most_50 rfl hx_13.symm (by decide) rfl rfl ?_
        refine f_goto C (t := 7) dX0_most_53 (by decide) ?_
        refine f_lv C (lv2 := [(0, .ref (B + 90)), (1, .int x1), (2, .int x4), (3, .int x3_10), (4, .int x4_12)]) [3, 4, 1, 2, 0] rfl ?_
        exact hK7 _ _ _ _ h
def w_X0_most (x1 : Int32) (σ : Sto) (P : Int32 → Sto → Prop) : Prop :=
  Lp (fun (K : Int32 × Int32 × Int32 × Sto → Prop) s => w_X0_most_7 K x1 s.1 s.2.1 s.2.2.1 s.2.2.2 P) ((-1), 0, 0, σ)
theorem s_X0_most {B : Nat} {E : Nat → List (Nat × Value) → List Value → Sto → Prop} {P : Int32 → Sto → Prop} (C : Cy B E RX0 cX0_most 5 (some .int) 0 0 (Zm (QFi P))) (x1 : Int32) (σ : Sto) (h : w_X0_most x1 σ P) : E 0 [(0, .ref (B + 90)), (1, .int x1)] [] σ := by
  unfold w_X0_most at h
  refine f_iconst C (v := (-1)) dX0_most_0 kcm1 rfl ?_
  refine f_istore_n C (lv2 := [(2, .int (-1)), (0, .ref (B + 90)), (1, .int x1)]) dX0_most_1 rfl (by decide) rfl rfl ?_
  refine f_iconst C (v := 0) dX0_most_2 kc0 rfl ?_
  refine f_istore_n C (lv2 := [(3, .int 0), (2, .int (-1)), (0, .ref (B + 90)), (1, .int x1)]) dX0_most_3 rfl (by decide) rfl rfl ?_
  refine f_iconst C (v := 0) dX0_most_4 kc0 rfl ?_
  refine f_istore C (lv2 := [(4, .int 0), (3, .int 0), (2, .int (-1)), (0, .ref (B + 90)), (1, .int x1)]) dX0_most_5 (by decide) rfl rfl ?_
  refine f_lv C (lv2 := [(0, .ref (B + 90)), (1, .int x1), (2, .int (-1)), (3, .int 0), (4, .int 0)]) [3, 4, 2, 1, 0] rfl ?_
  exact Lp_sound (fun s : Int32 × Int32 × Int32 × Sto => E 7 [(0, .ref (B + 90)), (1, .int x1), (2, .int s.1), (3, .int s.2.1), (4, .int s.2.2.1)] [] s.2.2.2) h (fun K s hK h => s_X0_most_7 C x1 s.1 s.2.1 s.2.2.1 K (fun x2 x3 x4 σ hk => hK (x2, x3, x4, σ) hk) s.2.2.2 h)
theorem c_X0_most (x1 : Int32) (σ : Sto) (P : Int32 → Sto → Prop) (h : w_X0_most x1 σ P) : Ct yX0_most cX0_most 5 (some .int) 0 0 (fun B => [.ref (B + 90), .int x1]) σ (QFi P) := Ct.of (by decide) (fun _ => Nat.le_of_ble_eq_true rfl) (fun B E C => s_X0_most C x1 σ h)
def w_X0_castOne_129 (K45 : Int32 × Sto → Prop) (x1 : Int32) (x2 : Int32) (x3 : Int32) (x4 : Int32) (σ : Sto) (P : Sto → Prop) : Prop :=
  (if x4 = (-1) then ∀ x3_8 : Int32, x3_8 = x3 + 1 → K45 (x3_8, σ) else vp_in x4 12 ∧ ∀ x3_11 : Int32, x3_11 = x3 + 1 → K45 (x3_11, si σ 92 (tn x4) ((gi σ 92 (tn x4)) + 1)))
theorem s_X0_castOne_129 {B : Nat} {E : Nat → List (Nat × Value) → List Value → Sto → Prop} {P : Sto → Prop} (C : Cy B E RX0 cX0_castOne 8 none 0 0 (Zm (QFv P))) (x1 : Int32) (x2 : Int32) (x3 : Int32) (x4 : Int32) (K45 : Int32 × Sto → Prop) (hK45 : ∀ (x3 : Int32) (σ : Sto), K45 (x3, σ) → E 45 [(0, .ref (B + 90)), (1, .int x1), (2, .int x2), (3, .int x3)] [] σ) (σ : Sto) (h : w_X0_castOne_129 K45 x1 x2 x3 x4 σ P) : E 129 [(0, .ref (B + 90)), (1, .int x1), (2, .int x2), (3, .int x3), (4, .int x4)] [] σ := by
  unfold w_X0_castOne_129 at h
  refine f_iload C (j := 4) dX0_castOne_129 rfl rfl ?_
  refine f_iconst C (v := (-1)) dX0_castOne_131 kcm1 rfl ?_
  refine f_icmp_eq C (t := 146) dX0_castOne_132 (by decide) rfl (fun hq_7 => ?_) (fun hq_7 => ?_)
  · replace h := Eq.mp (if_pos hq_7) h
    obtain ⟨x3_8, hx_9⟩ : ∃ y : Int32, y = x3 + 1 := ⟨_, rfl⟩
    replace h := h x3_8 hx_9
    refine f_iinc C (j := 3) (v := x3_8) (lv2 := [(3, .int x3_8), (0, .ref (B + 90)), (1, .int x1), (2, .int x2), (4, .int x4)]) dX0_castOne_146 rfl hx_9.symm (by decide) rfl rfl ?_
    refine f_goto C (t := 45) dX0_castOne_149 (by decide) ?_
    refine f_lv C (lv2 := [(0, .ref (B + 90)), (1, .int x1), (2, .int x2), (3, .int x3_8)]) [1, 2, 3, 0] rfl ?_
    exact hK45 _ _ h
  · replace h := Eq.mp (if_neg hq_7) h
    refine f_aload_n C (j := 0) dX0_castOne_135 rfl rfl rfl ?_
    refine f_getc C tF_X0_23 rfl o90 cs90_2 (by decide) dX0_castOne_136 rfl ?_
    refine f_iload C (j := 4) dX0_castOne_139 rfl rfl ?_
    refine f_dup2 C dX0_castOne_141 rfl rfl rfl ?_
    obtain ⟨hi_10, h⟩ := h
    refine f_iald C (j := tn x4) a92 hi_10 rfl dX0_castOne_142 rfl ?_
    refine f_iconst C (v := 1) dX0_castOne_143 kc1 rfl ?_
    refine f_iadd C dX0_castOne_144 rfl ?_
    refine f_iast C (j := tn x4) a92 hi_10 rfl dX0_castOne_145 rfl ?_
    obtain ⟨x3_11, hx_12⟩ : ∃ y : Int32, y = x3 + 1 := ⟨_, rfl⟩
    replace h := h x3_11 hx_12
    refine f_iinc C (j := 3) (v := x3_11) (lv2 := [(3, .int x3_11), (0, .ref (B + 90)), (1, .int x1), (2, .int x2), (4, .int x4)]) dX0_castOne_146 rfl hx_12.symm (by decide) rfl rfl ?_
    refine f_goto C (t := 45) dX0_castOne_149 (by decide) ?_
    refine f_lv C (lv2 := [(0, .ref (B + 90)), (1, .int x1), (2, .int x2), (3, .int x3_11)]) [1, 2, 3, 0] rfl ?_
    exact hK45 _ _ h
def w_X0_castOne_65 (K45 : Int32 × Sto → Prop) (K65 : Int32 × Int32 × Int32 × Sto → Prop) (x1 : Int32) (x2 : Int32) (x3 : Int32) (x4 : Int32) (x5 : Int32) (x6 : Int32) (σ : Sto) (P : Sto → Prop) : Prop :=
  isCity (gr σ 90 3) ∧ (if (gi σ (gr σ 90 3) 8) ≤ x6 then w_X0_castOne_129 K45 x1 x2 x3 x4 σ P else (if x3 = x2 then w_X0_castOne_129 K45 x1 x2 x3 x4 σ P else vp_in ((x3 * 12) + x6) 72 ∧ ∀ x7_15 : Int32, x7_15 = gi σ ((gr σ 90 3) + 6) (tn ((x3 * 12) + x6)) → (if x7_15 ≤ x5 then ∀ x6_18 : Int32, x6_18 = x6 + 1 → K65 (x4, x5, x6_18, σ) else (if ((x1 >>> (x6 &&& 31)) &&& 1) = 0 then ∀ x6_21 : Int32, x6_21 = x6 + 1 → K65 (x4, x5, x6_21, σ) else ∀ x6_23 : Int32, x6_23 = x6 + 1 → K65 (x6, x7_15, x6_23, σ)))))
theorem s_X0_castOne_65 {B : Nat} {E : Nat → List (Nat × Value) → List Value → Sto → Prop} {P : Sto → Prop} (C : Cy B E RX0 cX0_castOne 8 none 0 0 (Zm (QFv P))) (x1 : Int32) (x2 : Int32) (x3 : Int32) (x4 : Int32) (x5 : Int32) (x6 : Int32) (K45 : Int32 × Sto → Prop) (K65 : Int32 × Int32 × Int32 × Sto → Prop) (hK45 : ∀ (x3 : Int32) (σ : Sto), K45 (x3, σ) → E 45 [(0, .ref (B + 90)), (1, .int x1), (2, .int x2), (3, .int x3)] [] σ) (hK65 : ∀ (x4 : Int32) (x5 : Int32) (x6 : Int32) (σ : Sto), K65 (x4, x5, x6, σ) → E 65 [(0, .ref (B + 90)), (1, .int x1), (2, .int x2), (3, .int x3), (4, .int x4), (5, .int x5), (6, .int x6)] [] σ) (σ : Sto) (h : w_X0_castOne_65 K45 K65 x1 x2 x3 x4 x5 x6 σ P) : E 65 [(0, .ref (B + 90)), (1, .int x1), (2, .int x2), (3, .int x3), (4, .int x4), (5, .int x5), (6, .int x6)] [] σ := by
  unfold w_X0_castOne_65 at h
  refine f_iload C (j := 6) dX0_castOne_65 rfl rfl ?_
  refine f_aload_n C (j := 0) dX0_castOne_67 rfl rfl rfl ?_
  obtain ⟨hc_5, h⟩ := h
  refine f_getm C tF_X0_9 rfl o90 cn90_3 hc_5.z dX0_castOne_68 rfl ?_
  refine f_geti C tF_X0_60 rfl hc_5.o dX0_castOne_71 rfl ?_
  refine f_icmp_ge C (t := 129) dX0_castOne_74 (by decide) rfl (fun hq_6 => ?_) (fun hq_6 => ?_)
  · replace h := Eq.mp (if_pos hq_6) h
    refine f_lv C (lv2 := [(0, .ref (B + 90)), (1, .int x1), (2, .int x2), (3, .int x3), (4, .int x4)]) [0, 1, 2, 3, 4] rfl ?_
    exact s_X0_castOne_129 C _ _ _ _  K45 hK45 _ h
  · replace h := Eq.mp (if_neg hq_6) h
    refine f_iload_n C (j := 3) dX0_castOne_77 rfl rfl rfl ?_
    refine f_iload_n C (j := 2) dX0_castOne_78 rfl rfl rfl ?_
    refine f_icmp_eq C (t := 129) dX0_castOne_79 (by decide) rfl (fun hq_13 => ?_) (fun hq_13 => ?_)
    · replace h := Eq.mp (if_pos hq_13) h
      refine f_lv C (lv2 := [(0, .ref (B + 90)), (1, .int x1), (2, .int x2), (3, .int x3), (4, .int x4)]) [0, 1, 2, 3, 4] rfl ?_
      exact s_X0_castOne_129 C _ _ _ _  K45 hK45 _ h
    · replace h := Eq.mp (if_neg hq_13) h
      refine f_aload_n C (j := 0) dX0_castOne_82 rfl rfl rfl ?_
      refine f_getm C tF_X0_9 rfl o90 cn90_3 hc_5.z dX0_castOne_83 rfl ?_
      refine f_getc C tF_X0_79 rfl hc_5.o hc_5.c5 (Nat.succ_ne_zero _) dX0_castOne_86 rfl ?_
      refine f_iload_n C (j := 3) dX0_castOne_89 rfl rfl rfl ?_
      refine f_bipush C (v := 12) dX0_castOne_90 kb12 rfl ?_
      refine f_imul C dX0_castOne_92 rfl ?_
      refine f_iload C (j := 6) dX0_castOne_93 rfl rfl ?_
      refine f_iadd C dX0_castOne_95 rfl ?_
      obtain ⟨hi_14, h⟩ := h
      refine f_iald C (j := tn ((x3 * 12) + x6)) hc_5.a5 hi_14 rfl dX0_castOne_96 rfl ?_
      refine f_name (fun x7_15 hx_16 => ?_)
      replace h := h x7_15 hx_16
      refine f_istore C (lv2 := [(7, .int x7_15), (0, .ref (B + 90)), (1, .int x1), (2, .int x2), (3, .int x3), (4, .int x4), (5, .int x5), (6, .int x6)]) dX0_castOne_97 (by decide) rfl rfl ?_
      refine f_iload C (j := 0) dX0_castOne_99 rfl rfl ?_
      refine f_iload C (j := 6) dX0_castOne_101 rfl rfl ?_
      refine f_icmp_le C (t := 123) dX0_castOne_103 (by decide) rfl (fun hq_17 => ?_) (fun hq_17 => ?_)
      · replace h := Eq.mp (if_pos hq_17) h
        obtain ⟨x6_18, hx_19⟩ : ∃ y : Int32, y = x6 + 1 := ⟨_, rfl⟩
        replace h := h x6_18 hx_19
        refine f_iinc C (j := 7) (v := x6_18) (lv2 := [(6, .int x6_18), (7, .int x7_15), (0, .ref (B + 90)), (1, .int x1), (2, .int x2), (3, .int x3), (4, .int x4), (5, .int x5)]) dX0_castOne_123 rfl hx_19.symm (by decide) rfl rfl ?_
        refine f_goto C (t := 65) dX0_castOne_126 (by decide) ?_
        refine f_lv C (lv2 := [(0, .ref (B + 90)), (1, .int x1), (2, .int x2), (3, .int x3), (4, .int x4), (5, .int x5), (6, .int x6_18)]) [2, 3, 4, 5, 6, 7, 0] rfl ?_
        exact hK65 _ _ _ _ h
      · replace h := Eq.mp (if_neg hq_17) h
        refine f_iload_n C (j := 2) dX0_castOne_106 rfl rfl rfl ?_
        refine f_iload C (j := 7) dX0_castOne_107 rfl rfl ?_
        refine f_ishr C dX0_castOne_109 rfl ?_
        refine f_iconst C (v := 1) dX0_castOne_110 kc1 rfl ?_
        refine f_iand C dX0_castOne_111 rfl ?_
        refine f_if_eq C (t := 123) dX0_castOne_112 (by decide) rfl (fun hq_20 => ?_) (fun hq_20 => ?_)
        · replace h := Eq.mp (if_pos hq_20) h
          obtain ⟨x6_21, hx_22⟩ : ∃ y : Int32, y = x6 + 1 := ⟨_, rfl⟩
          replace h := h x6_21 hx_22
          refine f_iinc C (j := 7) (v := x6_21) (lv2 := [(6, .int x6_21), (7, .int x7_15), (0, .ref (B + 90)), (1, .int x1), (2, .int x2), (3, .int x3), (4, .int x4), (5, .int x5)]) dX0_castOne_123 rfl hx_22.symm (by decide) rfl rfl ?_
          refine f_goto C (t := 65) dX0_castOne_126 (by decide) ?_
          refine f_lv C (lv2 := [(0, .ref (B + 90)), (1, .int x1), (2, .int x2), (3, .int x3), (4, .int x4), (5, .int x5), (6, .int x6_21)]) [2, 3, 4, 5, 6, 7, 0] rfl ?_
          exact hK65 _ _ _ _ h
        · replace h := Eq.mp (if_neg hq_20) h
          refine f_iload C (j := 0) dX0_castOne_115 rfl rfl ?_
          refine f_istore C (lv2 := [(5, .int x7_15), (7, .int x7_15), (0, .ref (B + 90)), (1, .int x1), (2, .int x2), (3, .int x3), (4, .int x4), (6, .int x6)]) dX0_castOne_117 (by decide) rfl rfl ?_
          refine f_iload C (j := 7) dX0_castOne_119 rfl rfl ?_
          refine f_istore C (lv2 := [(4, .int x6), (5, .int x7_15), (7, .int x7_15), (0, .ref (B + 90)), (1, .int x1), (2, .int x2), (3, .int x3), (6, .int x6)]) dX0_castOne_121 (by decide) rfl rfl ?_
          obtain ⟨x6_23, hx_24⟩ : ∃ y : Int32, y = x6 + 1 := ⟨_, rfl⟩
          replace h := h x6_23 hx_24
          refine f_iinc C (j := 7) (v := x6_23) (lv2 := [(6, .int x6_23), (4, .int x6), (5, .int x7_15), (7, .int x7_15), (0, .ref (B + 90)), (1, .int x1), (2, .int x2), (3, .int x3)]) dX0_castOne_123 rfl hx_24.symm (by decide) rfl rfl ?_
          refine f_goto C (t := 65) dX0_castOne_126 (by decide) ?_
          refine f_lv C (lv2 := [(0, .ref (B + 90)), (1, .int x1), (2, .int x2), (3, .int x3), (4, .int x6), (5, .int x7_15), (6, .int x6_23)]) [4, 5, 6, 7, 1, 2, 0] rfl ?_
          exact hK65 _ _ _ _ h
def w_X0_castOne_45 (K45 : Int32 × Sto → Prop) (x1 : Int32) (x2 : Int32) (x3 : Int32) (σ : Sto) (P : Sto → Prop) : Prop :=
  isCity (gr σ 90 3) ∧ (if (gi σ (gr σ 90 3) 11) ≤ x3 then P σ else Lp (fun (K : Int32 × Int32 × Int32 × Sto → Prop) s => w_X0_castOne_65 K45 K x1 x2 x3 s.1 s.2.1 s.2.2.1 s.2.2.2 P) ((-1), 0, 0, σ))
theorem s_X0_castOne_45 {B : Nat} {E : Nat → List (Nat × Value) → List Value → Sto → Prop} {P : Sto → Prop} (C : Cy B E RX0 cX0_castOne 8 none 0 0 (Zm (QFv P))) (x1 : Int32) (x2 : Int32) (x3 : Int32) (K45 : Int32 × Sto → Prop) (hK45 : ∀ (x3 : Int32) (σ : Sto), K45 (x3, σ) → E 45 [(0, .ref (B + 90)), (1, .int x1), (2, .int x2), (3, .int x3)] [] σ) (σ : Sto) (h : w_X0_castOne_45 K45 x1 x2 x3 σ P) : E 45 [(0, .ref (B + 90)), (1, .int x1), (2, .int x2), (3, .int x3)] [] σ := by
  unfold w_X0_castOne_45 at h
  refine f_iload_n C (j := 3) dX0_castOne_45 rfl rfl rfl ?_
  refine f_aload_n C (j := 0) dX0_castOne_46 rfl rfl rfl ?_
  obtain ⟨hc_3, h⟩ := h
  refine f_getm C tF_X0_9 rfl o90 cn90_3 hc_3.z dX0_castOne_47 rfl ?_
  refine f_geti C tF_X0_76 rfl hc_3.o dX0_castOne_50 rfl ?_
  refine f_icmp_ge C (t := 152) dX0_castOne_53 (by decide) rfl (fun hq_4 => ?_) (fun hq_4 => ?_)
  · replace h := Eq.mp (if_pos hq_4) h
    exact f_vret C dX0_castOne_152 h
  · replace h := Eq.mp (if_neg hq_4) h
    refine f_iconst C (v := (-1)) dX0_castOne_56 kcm1 rfl ?_
    refine f_istore C (lv2 := [(4, .int (-1)), (0, .ref (B + 90)), (1, .int x1), (2, .int x2), (3, .int x3)]) dX0_castOne_57 (by decide) rfl rfl ?_
    refine f_iconst C (v := 0) dX0_castOne_59 kc0 rfl ?_
    refine f_istore C (lv2 := [(5, .int 0), (4, .int (-1)), (0, .ref (B + 90)), (1, .int x1), (2, .int x2), (3, .int x3)]) dX0_castOne_60 (by decide) rfl rfl ?_
    refine f_iconst C (v := 0) dX0_castOne_62 kc0 rfl ?_
    refine f_istore C (lv2 := [(6, .int 0), (5, .int 0), (4, .int (-1)), (0, .ref (B + 90)), (1, .int x1), (2, .int x2), (3, .int x3)]) dX0_castOne_63 (by decide) rfl rfl ?_
    refine f_lv C (lv2 := [(0, .ref (B + 90)), (1, .int x1), (2, .int x2), (3, .int x3), (4, .int (-1)), (5, .int 0), (6, .int 0)]) [3, 4, 5, 6, 2, 1, 0] rfl ?_
    exact Lp_sound (fun s : Int32 × Int32 × Int32 × Sto => E 65 [(0, .ref (B + 90)), (1, .int x1), (2, .int x2), (3, .int x3), (4, .int s.1), (5, .int s.2.1), (6, .int s.2.2.1)] [] s.2.2.2) h (fun K s hK h => s_X0_castOne_65 C x1 x2 x3 s.1 s.2.1 s.2.2.1 K45 K hK45 (fun x4 x5 x6 σ hk => hK (x4, x5, x6, σ) hk) s.2.2.2 h)
def w_X0_castOne_2 (K2 : Int32 × Sto → Prop) (x1 : Int32) (x2 : Int32) (x3 : Int32) (σ : Sto) (P : Sto → Prop) : Prop :=
  isCity (gr σ 90 3) ∧ (if (gi σ (gr σ 90 3) 8) ≤ x3 then Lp (fun (K : Int32 × Sto → Prop) s => w_X0_castOne_45 K x1 x2 s.1 s.2 P) (0, σ) else (if ((x1 >>> (x3 &&& 31)) &&& 1) = 0 then vp_in x3 12 ∧ ∀ x3_27 : Int32, x3_27 = x3 + 1 → K2 (x3_27, si σ 92 (tn x3) (gi σ 92 (tn x3))) else vp_in x3 12 ∧ ∀ x3_30 : Int32, x3_30 = x3 + 1 → K2 (x3_30, si σ 92 (tn x3) 0)))
theorem s_X0_castOne_2 {B : Nat} {E : Nat → List (Nat × Value) → List Value → Sto → Prop} {P : Sto → Prop} (C : Cy B E RX0 cX0_castOne 8 none 0 0 (Zm (QFv P))) (x1 : Int32) (x2 : Int32) (x3 : Int32) (K2 : Int32 × Sto → Prop) (hK2 : ∀ (x3 : Int32) (σ : Sto), K2 (x3, σ) → E 2 [(0, .ref (B + 90)), (1, .int x1), (2, .int x2), (3, .int x3)] [] σ) (σ : Sto) (h : w_X0_castOne_2 K2 x1 x2 x3 σ P) : E 2 [(0, .ref (B + 90)), (1, .int x1), (2, .int x2), (3, .int x3)] [] σ := by
  unfold w_X0_castOne_2 at h
  refine f_iload_n C (j := 3) dX0_castOne_2 rfl rfl rfl ?_
  refine f_aload_n C (j := 0) dX0_castOne_3 rfl rfl rfl ?_
  obtain ⟨hc_1, h⟩ := h
  refine f_getm C tF_X0_9 rfl o90 cn90_3 hc_1.z dX0_castOne_4 rfl ?_
  refine f_geti C tF_X0_60 rfl hc_1.o dX0_castOne_7 rfl ?_
  refine f_icmp_ge C (t := 43) dX0_castOne_10 (by decide) rfl (fun hq_2 => ?_) (fun hq_2 => ?_)
  · replace h := Eq.mp (if_pos hq_2) h
    refine f_iconst C (v := 0) dX0_castOne_43 kc0 rfl ?_
    refine f_istore_n C (lv2 := [(3, .int 0), (0, .ref (B + 90)), (1, .int x1), (2, .int x2)]) dX0_castOne_44 rfl (by decide) rfl rfl ?_
    refine f_lv C (lv2 := [(0, .ref (B + 90)), (1, .int x1), (2, .int x2), (3, .int 0)]) [1, 2, 3, 0] rfl ?_
    exact Lp_sound (fun s : Int32 × Sto => E 45 [(0, .ref (B + 90)), (1, .int x1), (2, .int x2), (3, .int s.1)] [] s.2) h (fun K s hK h => s_X0_castOne_45 C x1 x2 s.1 K (fun x3 σ hk => hK (x3, σ) hk) s.2 h)
  · replace h := Eq.mp (if_neg hq_2) h
    refine f_aload_n C (j := 0) dX0_castOne_13 rfl rfl rfl ?_
    refine f_getc C tF_X0_23 rfl o90 cs90_2 (by decide) dX0_castOne_14 rfl ?_
    refine f_iload_n C (j := 3) dX0_castOne_17 rfl rfl rfl ?_
    refine f_iload_n C (j := 1) dX0_castOne_18 rfl rfl rfl ?_
    refine f_iload_n C (j := 3) dX0_castOne_19 rfl rfl rfl ?_
    refine f_ishr C dX0_castOne_20 rfl ?_
    refine f_iconst C (v := 1) dX0_castOne_21 kc1 rfl ?_
    refine f_iand C dX0_castOne_22 rfl ?_
    refine f_if_eq C (t := 30) dX0_castOne_23 (by decide) rfl (fun hq_25 => ?_) (fun hq_25 => ?_)
    · replace h := Eq.mp (if_pos hq_25) h
      refine f_aload_n C (j := 0) dX0_castOne_30 rfl rfl rfl ?_
      refine f_getc C tF_X0_23 rfl o90 cs90_2 (by decide) dX0_castOne_31 rfl ?_
      refine f_iload_n C (j := 3) dX0_castOne_34 rfl rfl rfl ?_
      obtain ⟨hi_26, h⟩ := h
      refine f_iald C (j := tn x3) a92 hi_26 rfl dX0_castOne_35 rfl ?_
      refine f_iast C (j := tn x3) a92 hi_26 rfl dX0_castOne_36 rfl ?_
      obtain ⟨x3_27, hx_28⟩ : ∃ y : Int32, y = x3 + 1 := ⟨_, rfl⟩
      replace h := h x3_27 hx_28
      refine f_iinc C (j := 3) (v := x3_27) (lv2 := [(3, .int x3_27), (0, .ref (B + 90)), (1, .int x1), (2, .int x2)]) dX0_castOne_37 rfl hx_28.symm (by decide) rfl rfl ?_
      refine f_goto C (t := 2) dX0_castOne_40 (by decide) ?_
      refine f_lv C (lv2 := [(0, .ref (B + 90)), (1, .int x1), (2, .int x2), (3, .int x3_27)]) [1, 2, 3, 0] rfl ?_
      exact hK2 _ _ h
    · replace h := Eq.mp (if_neg hq_25) h
      refine f_iconst C (v := 0) dX0_castOne_26 kc0 rfl ?_
      refine f_goto C (t := 36) dX0_castOne_27 (by decide) ?_
      obtain ⟨hi_29, h⟩ := h
      refine f_iast C (j := tn x3) a92 hi_29 rfl dX0_castOne_36 rfl ?_
      obtain ⟨x3_30, hx_31⟩ : ∃ y : Int32, y = x3 + 1 := ⟨_, rfl⟩
      replace h := h x3_30 hx_31
      refine f_iinc C (j := 3) (v := x3_30) (lv2 := [(3, .int x3_30), (0, .ref (B + 90)), (1, .int x1), (2, .int x2)]) dX0_castOne_37 rfl hx_31.symm (by decide) rfl rfl ?_
      refine f_goto C (t := 2) dX0_castOne_40 (by decide) ?_
      refine f_lv C (lv2 := [(0, .ref (B + 90)), (1, .int x1), (2, .int x2), (3, .int x3_30)]) [1, 2, 3, 0] rfl ?_
      exact hK2 _ _ h
def w_X0_castOne (x1 : Int32) (x2 : Int32) (σ : Sto) (P : Sto → Prop) : Prop :=
  Lp (fun (K : Int32 × Sto → Prop) s => w_X0_castOne_2 K x1 x2 s.1 s.2 P) (0, σ)
theorem s_X0_castOne {B : Nat} {E : Nat → List (Nat × Value) → List Value → Sto → Prop} {P : Sto → Prop} (C : Cy B E RX0 cX0_castOne 8 none 0 0 (Zm (QFv P))) (x1 : Int32) (x2 : Int32) (σ : Sto) (h : w_X0_castOne x1 x2 σ P) : E 0 [(0, .ref (B + 90)), (1, .int x1), (2, .int x2)] [] σ := by
  unfold w_X0_castOne at h
  refine f_iconst C (v := 0) dX0_castOne_0 kc0 rfl ?_
  refine f_istore_n C (lv2 := [(3, .int 0), (0, .ref (B + 90)), (1, .int x1), (2, .int x2)]) dX0_castOne_1 rfl (by decide) rfl rfl ?_
  refine f_lv C (lv2 := [(0, .ref (B + 90)), (1, .int x1), (2, .int x2), (3, .int 0)]) [1, 2, 3, 0] rfl ?_
  exact Lp_sound (fun s : Int32 × Sto => E 2 [(0, .ref (B + 90)), (1, .int x1), (2, .int x2), (3, .int s.1)] [] s.2) h (fun K s hK h => s_X0_castOne_2 C x1 x2 s.1 K (fun x3 σ hk => hK (x3, σ) hk) s.2 h)
theorem c_X0_castOne (x1 : Int32) (x2 : Int32) (σ : Sto) (P : Sto → Prop) (h : w_X0_castOne x1 x2 σ P) : Ct yX0_castOne cX0_castOne 8 none 0 0 (fun B => [.ref (B + 90), .int x1, .int x2]) σ (QFv P) := Ct.of (by decide) (fun _ => Nat.le_of_ble_eq_true rfl) (fun B E C => s_X0_castOne C x1 x2 σ h)
def w_X0_lastOfFewest_7 (K7 : Int32 × Int32 × Int32 × Sto → Prop) (x1 : Int32) (x2 : Int32) (x3 : Int32) (x4 : Int32) (σ : Sto) (P : Int32 → Sto → Prop) : Prop :=
  isCity (gr σ 90 3) ∧ (if (gi σ (gr σ 90 3) 8) ≤ x4 then (if x3 ≤ 1 then P (-1) σ else P x2 σ) else vp_in x4 12 ∧ (if (gi σ 92 (tn x4)) ≤ 0 then ∀ x4_6 : Int32, x4_6 = x4 + 1 → K7 (x2, x3, x4_6, σ) else (if ((x1 >>> (x4 &&& 31)) &&& 1) = 0 then ∀ x4_9 : Int32, x4_9 = x4 + 1 → K7 (x2, x3, x4_9, σ) else ∀ x3_11 : Int32, x3_11 = x3 + 1 → (if x2 = (-1) then ∀ x4_14 : Int32, x4_14 = x4 + 1 → K7 (x4, x3_11, x4_14, σ) else vp_in x2 12 ∧ (if (gi σ 92 (tn x2)) < (gi σ 92 (tn x4)) then ∀ x4_18 : Int32, x4_18 = x4 + 1 → K7 (x2, x3_11, x4_18, σ) else ∀ x4_20 : Int32, x4_20 = x4 + 1 → K7 (x4, x3_11, x4_20, σ))))))
theorem s_X0_lastOfFewest_7 {B : Nat} {E : Nat → List (Nat × Value) → List Value → Sto → Prop} {P : Int32 → Sto → Prop} (C : Cy B E RX0 cX0_lastOfFewest 5 (some .int) 0 0 (Zm (QFi P))) (x1 : Int32) (x2 : Int32) (x3 : Int32) (x4 : Int32) (K7 : Int32 × Int32 × Int32 × Sto → Prop) (hK7 : ∀ (x2 : Int32) (x3 : Int32) (x4 : Int32) (σ : Sto), K7 (x2, x3, x4, σ) → E 7 [(0, .ref (B + 90)), (1, .int x1), (2, .int x2), (3, .int x3), (4, .int x4)] [] σ) (σ : Sto) (h : w_X0_lastOfFewest_7 K7 x1 x2 x3 x4 σ P) : E 7 [(0, .ref (B + 90)), (1, .int x1), (2, .int x2), (3, .int x3), (4, .int x4)] [] σ := by
  unfold w_X0_lastOfFewest_7 at h
  refine f_iload C (j := 4) dX0_lastOfFewest_7 rfl rfl ?_
  refine f_aload_n C (j := 0) dX0_lastOfFewest_9 rfl rfl rfl ?_
  obtain ⟨hc_1, h⟩ := h
  refine f_getm C tF_X0_9 rfl o90 cn90_3 hc_1.z dX0_lastOfFewest_10 rfl ?_
  refine f_geti C tF_X0_60 rfl hc_1.o dX0_lastOfFewest_13 rfl ?_
  refine f_icmp_ge C (t := 71) dX0_lastOfFewest_16 (by decide) rfl (fun hq_2 => ?_) (fun hq_2 => ?_)
  · replace h := Eq.mp (if_pos hq_2) h
    refine f_iload_n C (j := 3) dX0_lastOfFewest_71 rfl rfl rfl ?_
    refine f_iconst C (v := 1) dX0_lastOfFewest_72 kc1 rfl ?_
    refine f_icmp_le C (t := 80) dX0_lastOfFewest_73 (by decide) rfl (fun hq_3 => ?_) (fun hq_3 => ?_)
    · replace h := Eq.mp (if_pos hq_3) h
      refine f_iconst C (v := (-1)) dX0_lastOfFewest_80 kcm1 rfl ?_
      exact f_iret C dX0_lastOfFewest_81 h
    · replace h := Eq.mp (if_neg hq_3) h
      refine f_iload_n C (j := 2) dX0_lastOfFewest_76 rfl rfl rfl ?_
      refine f_goto C (t := 81) dX0_lastOfFewest_77 (by decide) ?_
      exact f_iret C dX0_lastOfFewest_81 h
  · replace h := Eq.mp (if_neg hq_2) h
    refine f_aload_n C (j := 0) dX0_lastOfFewest_19 rfl rfl rfl ?_
    refine f_getc C tF_X0_23 rfl o90 cs90_2 (by decide) dX0_lastOfFewest_20 rfl ?_
    refine f_iload C (j := 4) dX0_lastOfFewest_23 rfl rfl ?_
    obtain ⟨hi_4, h⟩ := h
    refine f_iald C (j := tn x4) a92 hi_4 rfl dX0_lastOfFewest_25 rfl ?_
    refine f_if_le C (t := 65) dX0_lastOfFewest_26 (by decide) rfl (fun hq_5 => ?_) (fun hq_5 => ?_)
    · replace h := Eq.mp (if_pos hq_5) h
      obtain ⟨x4_6, hx_7⟩ : ∃ y : Int32, y = x4 + 1 := ⟨_, rfl⟩
      replace h := h x4_6 hx_7
      refine f_iinc C (j := 4) (v := x4_6) (lv2 := [(4, .int x4_6), (0, .ref (B + 90)), (1, .int x1), (2, .int x2), (3, .int x3)]) dX0_lastOfFewest_65 rfl hx_7.symm (by decide) rfl rfl ?_
      refine f_goto C (t := 7) dX0_lastOfFewest_68 (by decide) ?_
      refine f_lv C (lv2 := [(0, .ref (B + 90)), (1, .int x1), (2, .int x2), (3, .int x3), (4, .int x4_6)]) [1, 2, 3, 4, 0] rfl ?_
      exact hK7 _ _ _ _ h
    · replace h := Eq.mp (if_neg hq_5) h
      refine f_iload_n C (j := 1) dX0_lastOfFewest_29 rfl rfl rfl ?_
      refine f_iload C (j := 4) dX0_lastOfFewest_30 rfl rfl ?_
      refine f_ishr C dX0_lastOfFewest_32 rfl ?_
      refine f_iconst C (v := 1) dX0_lastOfFewest_33 kc1 rfl ?_
      refine f_iand C dX0_lastOfFewest_34 rfl ?_
      refine f_if_eq C (t := 65) dX0_lastOfFewest_35 (by decide) rfl (fun hq_8 => ?_) (fun hq_8 => ?_)
      · replace h := Eq.mp (if_pos hq_8) h
        obtain ⟨x4_9, hx_10⟩ : ∃ y : Int32, y = x4 + 1 := ⟨_, rfl⟩
        replace h := h x4_9 hx_10
        refine f_iinc C (j := 4) (v := x4_9) (lv2 := [(4, .int x4_9), (0, .ref (B + 90)), (1, .int x1), (2, .int x2), (3, .int x3)]) dX0_lastOfFewest_65 rfl hx_10.symm (by decide) rfl rfl ?_
        refine f_goto C (t := 7) dX0_lastOfFewest_68 (by decide) ?_
        refine f_lv C (lv2 := [(0, .ref (B + 90)), (1, .int x1), (2, .int x2), (3, .int x3), (4, .int x4_9)]) [1, 2, 3, 4, 0] rfl ?_
        exact hK7 _ _ _ _ h
      · replace h := Eq.mp (if_neg hq_8) h
        obtain ⟨x3_11, hx_12⟩ : ∃ y : Int32, y = x3 + 1 := ⟨_, rfl⟩
        replace h := h x3_11 hx_12
        refine f_iinc C (j := 3) (v := x3_11) (lv2 := [(3, .int x3_11), (0, .ref (B + 90)), (1, .int x1), (2, .int x2), (4, .int x4)]) dX0_lastOfFewest_38 rfl hx_12.symm (by decide) rfl rfl ?_
        refine f_iload_n C (j := 3) dX0_lastOfFewest_41 rfl rfl rfl ?_
        refine f_iconst C (v := (-1)) dX0_lastOfFewest_42 kcm1 rfl ?_
        refine f_icmp_eq C (t := 62) dX0_lastOfFewest_43 (by decide) rfl (fun hq_13 => ?_) (fun hq_13 => ?_)
        · replace h := Eq.mp (if_pos hq_13) h
          refine f_iload C (j := 4) dX0_lastOfFewest_62 rfl rfl ?_
          refine f_istore_n C (lv2 := [(2, .int x4), (3, .int x3_11), (0, .ref (B + 90)), (1, .int x1), (4, .int x4)]) dX0_lastOfFewest_64 rfl (by decide) rfl rfl ?_
          obtain ⟨x4_14, hx_15⟩ : ∃ y : Int32, y = x4 + 1 := ⟨_, rfl⟩
          replace h := h x4_14 hx_15
          refine f_iinc C (j := 4) (v := x4_14) (lv2 := [(4, .int x4_14), (2, .int x4), (3, .int x3_11), (0, .ref (B + 90)), (1, .int x1)]) dX0_lastOfFewest_65 rfl hx_15.symm (by decide) rfl rfl ?_
          refine f_goto C (t := 7) dX0_lastOfFewest_68 (by decide) ?_
          refine f_lv C (lv2 := [(0, .ref (B + 90)), (1, .int x1), (2, .int x4), (3, .int x3_11), (4, .int x4_14)]) [3, 4, 1, 2, 0] rfl ?_
          exact hK7 _ _ _ _ h
        · replace h := Eq.mp (if_neg hq_13) h
          refine f_aload_n C (j := 1) dX0_lastOfFewest_46 rfl rfl rfl ?_
          refine f_getc C tF_X0_23 rfl o90 cs90_2 (by decide) dX0_lastOfFewest_47 rfl ?_
          refine f_iload C (j := 4) dX0_lastOfFewest_50 rfl rfl ?_
          refine f_iald C (j := tn x4) a92 hi_4 rfl dX0_lastOfFewest_52 rfl ?_
          refine f_aload_n C (j := 1) dX0_lastOfFewest_53 rfl rfl rfl ?_
          refine f_getc C tF_X0_23 rfl o90 cs90_2 (by decide) dX0_lastOfFewest_54 rfl ?_
          refine f_iload_n C (j := 3) dX0_lastOfFewest_57 rfl rfl rfl ?_
          obtain ⟨hi_16, h⟩ := h
          refine f_iald C (j := tn x2) a92 hi_16 rfl dX0_lastOfFewest_58 rfl ?_
          refine f_icmp_gt C (t := 65) dX0_lastOfFewest_59 (by decide) rfl (fun hq_17 => ?_) (fun hq_17 => ?_)
          · replace h := Eq.mp (if_pos hq_17) h
            obtain ⟨x4_18, hx_19⟩ : ∃ y : Int32, y = x4 + 1 := ⟨_, rfl⟩
            replace h := h x4_18 hx_19
            refine f_iinc C (j := 4) (v := x4_18) (lv2 := [(4, .int x4_18), (3, .int x3_11), (0, .ref (B + 90)), (1, .int x1), (2, .int x2)]) dX0_lastOfFewest_65 rfl hx_19.symm (by decide) rfl rfl ?_
            refine f_goto C (t := 7) dX0_lastOfFewest_68 (by decide) ?_
            refine f_lv C (lv2 := [(0, .ref (B + 90)), (1, .int x1), (2, .int x2), (3, .int x3_11), (4, .int x4_18)]) [2, 3, 4, 1, 0] rfl ?_
            exact hK7 _ _ _ _ h
          · replace h := Eq.mp (if_neg hq_17) h
            refine f_iload C (j := 4) dX0_lastOfFewest_62 rfl rfl ?_
            refine f_istore_n C (lv2 := [(2, .int x4), (3, .int x3_11), (0, .ref (B + 90)), (1, .int x1), (4, .int x4)]) dX0_lastOfFewest_64 rfl (by decide) rfl rfl ?_
            obtain ⟨x4_20, hx_21⟩ : ∃ y : Int32, y = x4 + 1 := ⟨_, rfl⟩
            replace h := h x4_20 hx_21
            refine f_iinc C (j := 4) (v := x4_20) (lv2 := [(4, .int x4_20), (2, .int x4), (3, .int x3_11), (0, .ref (B + 90)), (1, .int x1)]) dX0_lastOfFewest_65 rfl hx_21.symm (by decide) rfl rfl ?_
            refine f_goto C (t := 7) dX0_lastOfFewest_68 (by decide) ?_
            refine f_lv C (lv2 := [(0, .ref (B + 90)), (1, .int x1), (2, .int x4), (3, .int x3_11), (4, .int x4_20)]) [3, 4, 1, 2, 0] rfl ?_
            exact hK7 _ _ _ _ h
def w_X0_lastOfFewest (x1 : Int32) (σ : Sto) (P : Int32 → Sto → Prop) : Prop :=
  Lp (fun (K : Int32 × Int32 × Int32 × Sto → Prop) s => w_X0_lastOfFewest_7 K x1 s.1 s.2.1 s.2.2.1 s.2.2.2 P) ((-1), 0, 0, σ)
theorem s_X0_lastOfFewest {B : Nat} {E : Nat → List (Nat × Value) → List Value → Sto → Prop} {P : Int32 → Sto → Prop} (C : Cy B E RX0 cX0_lastOfFewest 5 (some .int) 0 0 (Zm (QFi P))) (x1 : Int32) (σ : Sto) (h : w_X0_lastOfFewest x1 σ P) : E 0 [(0, .ref (B + 90)), (1, .int x1)] [] σ := by
  unfold w_X0_lastOfFewest at h
  refine f_iconst C (v := (-1)) dX0_lastOfFewest_0 kcm1 rfl ?_
  refine f_istore_n C (lv2 := [(2, .int (-1)), (0, .ref (B + 90)), (1, .int x1)]) dX0_lastOfFewest_1 rfl (by decide) rfl rfl ?_
  refine f_iconst C (v := 0) dX0_lastOfFewest_2 kc0 rfl ?_
  refine f_istore_n C (lv2 := [(3, .int 0), (2, .int (-1)), (0, .ref (B + 90)), (1, .int x1)]) dX0_lastOfFewest_3 rfl (by decide) rfl rfl ?_
  refine f_iconst C (v := 0) dX0_lastOfFewest_4 kc0 rfl ?_
  refine f_istore C (lv2 := [(4, .int 0), (3, .int 0), (2, .int (-1)), (0, .ref (B + 90)), (1, .int x1)]) dX0_lastOfFewest_5 (by decide) rfl rfl ?_
  refine f_lv C (lv2 := [(0, .ref (B + 90)), (1, .int x1), (2, .int (-1)), (3, .int 0), (4, .int 0)]) [3, 4, 2, 1, 0] rfl ?_
  exact Lp_sound (fun s : Int32 × Int32 × Int32 × Sto => E 7 [(0, .ref (B + 90)), (1, .int x1), (2, .int s.1), (3, .int s.2.1), (4, .int s.2.2.1)] [] s.2.2.2) h (fun K s hK h => s_X0_lastOfFewest_7 C x1 s.1 s.2.1 s.2.2.1 K (fun x2 x3 x4 σ hk => hK (x2, x3, x4, σ) hk) s.2.2.2 h)
theorem c_X0_lastOfFewest (x1 : Int32) (σ : Sto) (P : Int32 → Sto → Prop) (h : w_X0_lastOfFewest x1 σ P) : Ct yX0_lastOfFewest cX0_lastOfFewest 5 (some .int) 0 0 (fun B => [.ref (B + 90), .int x1]) σ (QFi P) := Ct.of (by decide) (fun _ => Nat.le_of_ble_eq_true rfl) (fun B E C => s_X0_lastOfFewest C x1 σ h)
def w_X0_count_128 (x3 : Int32) (σ : Sto) (P : Int32 → Sto → Prop) : Prop :=
  w_X0_most x3 σ (fun r_11 σ_10 => P r_11 σ_10)
theorem s_X0_count_128 {B : Nat} {E : Nat → List (Nat × Value) → List Value → Sto → Prop} {P : Int32 → Sto → Prop} (C : Cy B E RX0 cX0_count 6 (some .int) 1 27 (Zm (QFi P))) (x3 : Int32) (σ : Sto) (h : w_X0_count_128 x3 σ P) : E 128 [(0, .ref (B + 90)), (3, .int x3)] [] σ := by
  unfold w_X0_count_128 at h
  refine f_aload_n C (j := 0) dX0_count_128 rfl rfl rfl ?_
  refine f_iload_n C (j := 1) dX0_count_129 rfl rfl rfl ?_
  refine f_callVi C (a := 90) (ci := 0) (As := fun B => [.int x3]) o90 rfl (c_X0_most  _ _ _ h) tM_X0_66 tI_X0_most tS_X0_most tN_X0 tC_X0_most 1 dd_X0_most rfl (by decide) (by decide) rfl (Nat.le_of_ble_eq_true rfl) dX0_count_130 rfl (fun r_11 σ_10 h => ?_)
  exact f_iret C dX0_count_133 h
def w_X0_count_87 (K87 : Int32 × Int32 × Int32 × Sto → Prop) (x3 : Int32) (x4 : Int32) (x5 : Int32) (σ : Sto) (P : Int32 → Sto → Prop) : Prop :=
  (if 12 ≤ x5 then w_X0_count_128 x3 σ P else (if x4 = (-1) then w_X0_count_128 x3 σ P else ∀ x3_13 : Int32, x3_13 = x3 &&& (~~~(1 <<< (x4 &&& 31))) → w_X0_castOne x3_13 (-1) σ (fun σ_15 => w_X0_lastOfFewest x3_13 σ_15 (fun r_18 σ_17 => ∀ x5_19 : Int32, x5_19 = x5 + 1 → K87 (x3_13, r_18, x5_19, σ_17)))))
theorem s_X0_count_87 {B : Nat} {E : Nat → List (Nat × Value) → List Value → Sto → Prop} {P : Int32 → Sto → Prop} (C : Cy B E RX0 cX0_count 6 (some .int) 1 27 (Zm (QFi P))) (x3 : Int32) (x4 : Int32) (x5 : Int32) (K87 : Int32 × Int32 × Int32 × Sto → Prop) (hK87 : ∀ (x3 : Int32) (x4 : Int32) (x5 : Int32) (σ : Sto), K87 (x3, x4, x5, σ) → E 87 [(0, .ref (B + 90)), (3, .int x3), (4, .int x4), (5, .int x5)] [] σ) (σ : Sto) (h : w_X0_count_87 K87 x3 x4 x5 σ P) : E 87 [(0, .ref (B + 90)), (3, .int x3), (4, .int x4), (5, .int x5)] [] σ := by
  unfold w_X0_count_87 at h
  refine f_iload C (j := 3) dX0_count_87 rfl rfl ?_
  refine f_bipush C (v := 12) dX0_count_89 kb12 rfl ?_
  refine f_icmp_ge C (t := 128) dX0_count_91 (by decide) rfl (fun hq_9 => ?_) (fun hq_9 => ?_)
  · replace h := Eq.mp (if_pos hq_9) h
    refine f_lv C (lv2 := [(0, .ref (B + 90)), (3, .int x3)]) [0, 1] rfl ?_
    exact s_X0_count_128 C _  _ h
  · replace h := Eq.mp (if_neg hq_9) h
    refine f_iload C (j := 2) dX0_count_94 rfl rfl ?_
    refine f_iconst C (v := (-1)) dX0_count_96 kcm1 rfl ?_
    refine f_icmp_eq C (t := 128) dX0_count_97 (by decide) rfl (fun hq_12 => ?_) (fun hq_12 => ?_)
    · replace h := Eq.mp (if_pos hq_12) h
      refine f_lv C (lv2 := [(0, .ref (B + 90)), (3, .int x3)]) [0, 1] rfl ?_
      exact s_X0_count_128 C _  _ h
    · replace h := Eq.mp (if_neg hq_12) h
      refine f_iload_n C (j := 1) dX0_count_100 rfl rfl rfl ?_
      refine f_iconst C (v := 1) dX0_count_101 kc1 rfl ?_
      refine f_iload C (j := 2) dX0_count_102 rfl rfl ?_
      refine f_ishl C dX0_count_104 rfl ?_
      refine f_iconst C (v := (-1)) dX0_count_105 kcm1 rfl ?_
      refine f_inot C dX0_count_106 rfl ?_
      refine f_iand C dX0_count_107 rfl ?_
      refine f_name (fun x3_13 hx_14 => ?_)
      replace h := h x3_13 hx_14
      refine f_istore_n C (lv2 := [(3, .int x3_13), (0, .ref (B + 90)), (4, .int x4), (5, .int x5)]) dX0_count_108 rfl (by decide) rfl rfl ?_
      refine f_aload_n C (j := 1) dX0_count_109 rfl rfl rfl ?_
      refine f_iload_n C (j := 0) dX0_count_110 rfl rfl rfl ?_
      refine f_iconst C (v := (-1)) dX0_count_111 kcm1 rfl ?_
      refine f_callVv C (a := 90) (ci := 0) (As := fun B => [.int x3_13, .int (-1)]) o90 rfl (c_X0_castOne  _ _ _ _ h) tM_X0_69 tI_X0_castOne tS_X0_castOne tN_X0 tC_X0_castOne 2 dd_X0_castOne rfl (by decide) (by decide) rfl (Nat.le_of_ble_eq_true rfl) dX0_count_112 rfl (fun σ_15 h => ?_)
      refine f_aload_n C (j := 1) dX0_count_115 rfl rfl rfl ?_
      refine f_iload_n C (j := 0) dX0_count_116 rfl rfl rfl ?_
      refine f_callVi C (a := 90) (ci := 0) (As := fun B => [.int x3_13]) o90 rfl (c_X0_lastOfFewest  _ _ _ h) tM_X0_73 tI_X0_lastOfFewest tS_X0_lastOfFewest tN_X0 tC_X0_lastOfFewest 1 dd_X0_lastOfFewest rfl (by decide) (by decide) rfl (Nat.le_of_ble_eq_true rfl) dX0_count_117 rfl (fun r_18 σ_17 h => ?_)
      refine f_istore C (lv2 := [(4, .int r_18), (3, .int x3_13), (0, .ref (B + 90)), (5, .int x5)]) dX0_count_120 (by decide) rfl rfl ?_
      obtain ⟨x5_19, hx_20⟩ : ∃ y : Int32, y = x5 + 1 := ⟨_, rfl⟩
      replace h := h x5_19 hx_20
      refine f_iinc C (j := 3) (v := x5_19) (lv2 := [(5, .int x5_19), (4, .int r_18), (3, .int x3_13), (0, .ref (B + 90))]) dX0_count_122 rfl hx_20.symm (by decide) rfl rfl ?_
      refine f_goto C (t := 87) dX0_count_125 (by decide) ?_
      refine f_lv C (lv2 := [(0, .ref (B + 90)), (3, .int x3_13), (4, .int r_18), (5, .int x5_19)]) [3, 2, 1, 0] rfl ?_
      exact hK87 _ _ _ _ h
def w_X0_count_15 (K15 : Int32 × Sto → Prop) (x1 : Int32) (x3 : Int32) (σ : Sto) (P : Int32 → Sto → Prop) : Prop :=
  isCity (gr σ 90 3) ∧ (if (gi σ (gr σ 90 3) 8) ≤ x3 then w_X0_most x1 σ (fun r_24 σ_23 => P r_24 σ_23) else (if ((x1 >>> (x3 &&& 31)) &&& 1) = 0 then vp_in x3 12 ∧ ∀ x3_27 : Int32, x3_27 = x3 + 1 → K15 (x3_27, si σ 92 (tn x3) 0) else w_X0_hatredOf x3 σ (fun r_30 σ_29 => vp_in x3 12 ∧ ∀ x3_32 : Int32, x3_32 = x3 + 1 → K15 (x3_32, si σ_29 92 (tn x3) r_30))))
theorem s_X0_count_15 {B : Nat} {E : Nat → List (Nat × Value) → List Value → Sto → Prop} {P : Int32 → Sto → Prop} (C : Cy B E RX0 cX0_count 6 (some .int) 1 27 (Zm (QFi P))) (x1 : Int32) (x3 : Int32) (K15 : Int32 × Sto → Prop) (hK15 : ∀ (x3 : Int32) (σ : Sto), K15 (x3, σ) → E 15 [(0, .ref (B + 90)), (1, .int x1), (3, .int x3)] [] σ) (σ : Sto) (h : w_X0_count_15 K15 x1 x3 σ P) : E 15 [(0, .ref (B + 90)), (1, .int x1), (3, .int x3)] [] σ := by
  unfold w_X0_count_15 at h
  refine f_iload_n C (j := 2) dX0_count_15 rfl rfl rfl ?_
  refine f_aload_n C (j := 0) dX0_count_16 rfl rfl rfl ?_
  obtain ⟨hc_21, h⟩ := h
  refine f_getm C tF_X0_9 rfl o90 cn90_3 hc_21.z dX0_count_17 rfl ?_
  refine f_geti C tF_X0_60 rfl hc_21.o dX0_count_20 rfl ?_
  refine f_icmp_ge C (t := 55) dX0_count_23 (by decide) rfl (fun hq_22 => ?_) (fun hq_22 => ?_)
  · replace h := Eq.mp (if_pos hq_22) h
    refine f_aload_n C (j := 0) dX0_count_55 rfl rfl rfl ?_
    refine f_iload_n C (j := 1) dX0_count_56 rfl rfl rfl ?_
    refine f_callVi C (a := 90) (ci := 0) (As := fun B => [.int x1]) o90 rfl (c_X0_most  _ _ _ h) tM_X0_66 tI_X0_most tS_X0_most tN_X0 tC_X0_most 1 dd_X0_most rfl (by decide) (by decide) rfl (Nat.le_of_ble_eq_true rfl) dX0_count_57 rfl (fun r_24 σ_23 h => ?_)
    exact f_iret C dX0_count_60 h
  · replace h := Eq.mp (if_neg hq_22) h
    refine f_aload_n C (j := 0) dX0_count_26 rfl rfl rfl ?_
    refine f_getc C tF_X0_23 rfl o90 cs90_2 (by decide) dX0_count_27 rfl ?_
    refine f_iload_n C (j := 2) dX0_count_30 rfl rfl rfl ?_
    refine f_iload_n C (j := 1) dX0_count_31 rfl rfl rfl ?_
    refine f_iload_n C (j := 2) dX0_count_32 rfl rfl rfl ?_
    refine f_ishr C dX0_count_33 rfl ?_
    refine f_iconst C (v := 1) dX0_count_34 kc1 rfl ?_
    refine f_iand C dX0_count_35 rfl ?_
    refine f_if_eq C (t := 47) dX0_count_36 (by decide) rfl (fun hq_25 => ?_) (fun hq_25 => ?_)
    · replace h := Eq.mp (if_pos hq_25) h
      refine f_iconst C (v := 0) dX0_count_47 kc0 rfl ?_
      obtain ⟨hi_26, h⟩ := h
      refine f_iast C (j := tn x3) a92 hi_26 rfl dX0_count_48 rfl ?_
      obtain ⟨x3_27, hx_28⟩ : ∃ y : Int32, y = x3 + 1 := ⟨_, rfl⟩
      replace h := h x3_27 hx_28
      refine f_iinc C (j := 2) (v := x3_27) (lv2 := [(3, .int x3_27), (0, .ref (B + 90)), (1, .int x1)]) dX0_count_49 rfl hx_28.symm (by decide) rfl rfl ?_
      refine f_goto C (t := 15) dX0_count_52 (by decide) ?_
      refine f_lv C (lv2 := [(0, .ref (B + 90)), (1, .int x1), (3, .int x3_27)]) [1, 2, 0] rfl ?_
      exact hK15 _ _ h
    · replace h := Eq.mp (if_neg hq_25) h
      refine f_aload_n C (j := 0) dX0_count_39 rfl rfl rfl ?_
      refine f_iload_n C (j := 2) dX0_count_40 rfl rfl rfl ?_
      refine f_callVi C (a := 90) (ci := 0) (As := fun B => [.int x3]) o90 rfl (c_X0_hatredOf  _ _ _ h) tM_X0_63 tI_X0_hatredOf tS_X0_hatredOf tN_X0 tC_X0_hatredOf 1 dd_X0_hatredOf rfl (by decide) (by decide) rfl (Nat.le_of_ble_eq_true rfl) dX0_count_41 rfl (fun r_30 σ_29 h => ?_)
      refine f_goto C (t := 48) dX0_count_44 (by decide) ?_
      obtain ⟨hi_31, h⟩ := h
      refine f_iast C (j := tn x3) a92 hi_31 rfl dX0_count_48 rfl ?_
      obtain ⟨x3_32, hx_33⟩ : ∃ y : Int32, y = x3 + 1 := ⟨_, rfl⟩
      replace h := h x3_32 hx_33
      refine f_iinc C (j := 2) (v := x3_32) (lv2 := [(3, .int x3_32), (0, .ref (B + 90)), (1, .int x1)]) dX0_count_49 rfl hx_33.symm (by decide) rfl rfl ?_
      refine f_goto C (t := 15) dX0_count_52 (by decide) ?_
      refine f_lv C (lv2 := [(0, .ref (B + 90)), (1, .int x1), (3, .int x3_32)]) [1, 2, 0] rfl ?_
      exact hK15 _ _ h
def w_X0_count (x1 : Int32) (x2 : Int32) (σ : Sto) (P : Int32 → Sto → Prop) : Prop :=
  w_J7_fill_53178 92 12 0 σ (fun σ_1 => (if x2 = 1 then Lp (fun (K : Int32 × Sto → Prop) s => w_X0_count_15 K x1 s.1 s.2 P) (0, σ_1) else w_X0_castOne x1 (-1) σ_1 (fun σ_4 => (if x2 = 0 then Lp (fun (K : Int32 × Int32 × Int32 × Sto → Prop) s => w_X0_count_87 K s.1 s.2.1 s.2.2.1 s.2.2.2 P) (x1, (-1), 0, σ_4) else w_X0_lastOfFewest x1 σ_4 (fun r_8 σ_7 => Lp (fun (K : Int32 × Int32 × Int32 × Sto → Prop) s => w_X0_count_87 K s.1 s.2.1 s.2.2.1 s.2.2.2 P) (x1, r_8, 0, σ_7))))))
theorem s_X0_count {B : Nat} {E : Nat → List (Nat × Value) → List Value → Sto → Prop} {P : Int32 → Sto → Prop} (C : Cy B E RX0 cX0_count 6 (some .int) 1 27 (Zm (QFi P))) (x1 : Int32) (x2 : Int32) (σ : Sto) (h : w_X0_count x1 x2 σ P) : E 0 [(0, .ref (B + 90)), (1, .int x1), (2, .int x2)] [] σ := by
  unfold w_X0_count at h
  refine f_aload_n C (j := 0) dX0_count_0 rfl rfl rfl ?_
  refine f_getc C tF_X0_23 rfl o90 cs90_2 (by decide) dX0_count_1 rfl ?_
  refine f_iconst C (v := 0) dX0_count_4 kc0 rfl ?_
  refine f_callSv C (As := fun B => [.ref (B + 92), .int 0]) (c_J7_fill_53178  _ _ _ _ _ h) tM_X0_54 tT_J7_fill_53178 tN_J7 tC_J7_fill_53178 2 dd_J7_fill_53178 rfl (by decide) (by decide) rfl (Nat.le_of_ble_eq_true rfl) dX0_count_5 rfl (fun σ_1 h => ?_)
  refine f_iload_n C (j := 2) dX0_count_8 rfl rfl rfl ?_
  refine f_iconst C (v := 1) dX0_count_9 kc1 rfl ?_
  refine f_icmp_ne C (t := 61) dX0_count_10 (by decide) rfl (fun hq_3 => ?_) (fun hq_3 => ?_)
  · replace h := Eq.mp (if_neg hq_3) h
    refine f_iload_n C (j := 1) dX0_count_61 rfl rfl rfl ?_
    refine f_istore_n C (lv2 := [(3, .int x1), (0, .ref (B + 90)), (1, .int x1), (2, .int x2)]) dX0_count_62 rfl (by decide) rfl rfl ?_
    refine f_aload_n C (j := 1) dX0_count_63 rfl rfl rfl ?_
    refine f_iload_n C (j := 0) dX0_count_64 rfl rfl rfl ?_
    refine f_iconst C (v := (-1)) dX0_count_65 kcm1 rfl ?_
    refine f_callVv C (a := 90) (ci := 0) (As := fun B => [.int x1, .int (-1)]) o90 rfl (c_X0_castOne  _ _ _ _ h) tM_X0_69 tI_X0_castOne tS_X0_castOne tN_X0 tC_X0_castOne 2 dd_X0_castOne rfl (by decide) (by decide) rfl (Nat.le_of_ble_eq_true rfl) dX0_count_66 rfl (fun σ_4 h => ?_)
    refine f_iload_n C (j := 3) dX0_count_69 rfl rfl rfl ?_
    refine f_if_ne C (t := 77) dX0_count_70 (by decide) rfl (fun hq_6 => ?_) (fun hq_6 => ?_)
    · replace h := Eq.mp (if_neg hq_6) h
      refine f_aload_n C (j := 1) dX0_count_77 rfl rfl rfl ?_
      refine f_iload_n C (j := 0) dX0_count_78 rfl rfl rfl ?_
      refine f_callVi C (a := 90) (ci := 0) (As := fun B => [.int x1]) o90 rfl (c_X0_lastOfFewest  _ _ _ h) tM_X0_73 tI_X0_lastOfFewest tS_X0_lastOfFewest tN_X0 tC_X0_lastOfFewest 1 dd_X0_lastOfFewest rfl (by decide) (by decide) rfl (Nat.le_of_ble_eq_true rfl) dX0_count_79 rfl (fun r_8 σ_7 h => ?_)
      refine f_istore C (lv2 := [(4, .int r_8), (3, .int x1), (0, .ref (B + 90)), (1, .int x1), (2, .int x2)]) dX0_count_82 (by decide) rfl rfl ?_
      refine f_iconst C (v := 0) dX0_count_84 kc0 rfl ?_
      refine f_istore C (lv2 := [(5, .int 0), (4, .int r_8), (3, .int x1), (0, .ref (B + 90)), (1, .int x1), (2, .int x2)]) dX0_count_85 (by decide) rfl rfl ?_
      refine f_lv C (lv2 := [(0, .ref (B + 90)), (3, .int x1), (4, .int r_8), (5, .int 0)]) [3, 2, 1, 0] rfl ?_
      exact Lp_sound (fun s : Int32 × Int32 × Int32 × Sto => E 87 [(0, .ref (B + 90)), (3, .int s.1), (4, .int s.2.1), (5, .int s.2.2.1)] [] s.2.2.2) h (fun K s hK h => s_X0_count_87 C s.1 s.2.1 s.2.2.1 K (fun x3 x4 x5 σ hk => hK (x3, x4, x5, σ) hk) s.2.2.2 h)
    · replace h := Eq.mp (if_pos hq_6) h
      refine f_iconst C (v := (-1)) dX0_count_73 kcm1 rfl ?_
      refine f_goto C (t := 82) dX0_count_74 (by decide) ?_
      refine f_istore C (lv2 := [(4, .int (-1)), (3, .int x1), (0, .ref (B + 90)), (1, .int x1), (2, .int x2)]) dX0_count_82 (by decide) rfl rfl ?_
      refine f_iconst C (v := 0) dX0_count_84 kc0 rfl ?_
      refine f_istore C (lv2 := [(5, .int 0), (4, .int (-1)), (3, .int x1), (0, .ref (B + 90)), (1, .int x1), (2, .int x2)]) dX0_count_85 (by decide) rfl rfl ?_
      refine f_lv C (lv2 := [(0, .ref (B + 90)), (3, .int x1), (4, .int (-1)), (5, .int 0)]) [3, 2, 1, 0] rfl ?_
      exact Lp_sound (fun s : Int32 × Int32 × Int32 × Sto => E 87 [(0, .ref (B + 90)), (3, .int s.1), (4, .int s.2.1), (5, .int s.2.2.1)] [] s.2.2.2) h (fun K s hK h => s_X0_count_87 C s.1 s.2.1 s.2.2.1 K (fun x3 x4 x5 σ hk => hK (x3, x4, x5, σ) hk) s.2.2.2 h)
  · replace h := Eq.mp (if_pos hq_3) h
    refine f_iconst C (v := 0) dX0_count_13 kc0 rfl ?_
    refine f_istore_n C (lv2 := [(3, .int 0), (0, .ref (B + 90)), (1, .int x1), (2, .int x2)]) dX0_count_14 rfl (by decide) rfl rfl ?_
    refine f_lv C (lv2 := [(0, .ref (B + 90)), (1, .int x1), (3, .int 0)]) [1, 2, 0] rfl ?_
    exact Lp_sound (fun s : Int32 × Sto => E 15 [(0, .ref (B + 90)), (1, .int x1), (3, .int s.1)] [] s.2) h (fun K s hK h => s_X0_count_15 C x1 s.1 K (fun x3 σ hk => hK (x3, σ) hk) s.2 h)
theorem c_X0_count (x1 : Int32) (x2 : Int32) (σ : Sto) (P : Int32 → Sto → Prop) (h : w_X0_count x1 x2 σ P) : Ct yX0_count cX0_count 6 (some .int) 1 27 (fun B => [.ref (B + 90), .int x1, .int x2]) σ (QFi P) := Ct.of (by decide) (fun _ => Nat.le_of_ble_eq_true rfl) (fun B E C => s_X0_count C x1 x2 σ h)
def w_X0_goneNextYear_72 (x1 : Int32) (x5 : Int32) (σ : Sto) (P : Int32 → Sto → Prop) : Prop :=
  (if x5 = (-1) then P x1 σ else P (x1 ||| (1 <<< (x5 &&& 31))) σ)
theorem s_X0_goneNextYear_72 {B : Nat} {E : Nat → List (Nat × Value) → List Value → Sto → Prop} {P : Int32 → Sto → Prop} (C : Cy B E RX0 cX0_goneNextYear 6 (some .int) 2 52 (Zm (QFi P))) (x1 : Int32) (x5 : Int32) (σ : Sto) (h : w_X0_goneNextYear_72 x1 x5 σ P) : E 72 [(0, .ref (B + 90)), (1, .int x1), (5, .int x5)] [] σ := by
  unfold w_X0_goneNextYear_72 at h
  refine f_iload C (j := 2) dX0_goneNextYear_72 rfl rfl ?_
  refine f_iconst C (v := (-1)) dX0_goneNextYear_74 kcm1 rfl ?_
  refine f_icmp_ne C (t := 82) dX0_goneNextYear_75 (by decide) rfl (fun hq_11 => ?_) (fun hq_11 => ?_)
  · replace h := Eq.mp (if_neg hq_11) h
    refine f_iload_n C (j := 1) dX0_goneNextYear_82 rfl rfl rfl ?_
    refine f_iconst C (v := 1) dX0_goneNextYear_83 kc1 rfl ?_
    refine f_iload C (j := 2) dX0_goneNextYear_84 rfl rfl ?_
    refine f_ishl C dX0_goneNextYear_86 rfl ?_
    refine f_ior C dX0_goneNextYear_87 rfl ?_
    exact f_iret C dX0_goneNextYear_88 h
  · replace h := Eq.mp (if_pos hq_11) h
    refine f_iload_n C (j := 1) dX0_goneNextYear_78 rfl rfl rfl ?_
    refine f_goto C (t := 88) dX0_goneNextYear_79 (by decide) ?_
    exact f_iret C dX0_goneNextYear_88 h
def w_X0_goneNextYear (x1 : Int32) (x2 : Int32) (σ : Sto) (P : Int32 → Sto → Prop) : Prop :=
  w_X6_without x1 σ (fun r_2 σ_1 => ∀ x3_3 : Int32, x3_3 = r_2 &&& (~~~x2) → vp_in x3_3 4096 ∧ ∀ x4_6 : Int32, x4_6 = gi σ_1 91 (tn x3_3) → ∀ x5_8 : Int32, x5_8 = (x4_6 &&& 15) - 1 → (if ((x4_6.toUInt32 >>> ((4 : Int32).toUInt32 &&& Int32.toUInt32 31)).toInt32) = (gi σ_1 90 4) then w_X0_goneNextYear_72 x1 x5_8 σ_1 P else isCity (gr σ_1 90 3) ∧ w_X0_count x3_3 (gi σ_1 (gr σ_1 90 3) 12) σ_1 (fun r_14 σ_13 => w_X0_goneNextYear_72 x1 r_14 (si σ_13 91 (tn x3_3) (((gi σ_13 90 4) <<< 4) ||| (r_14 + 1))) P)))
theorem s_X0_goneNextYear {B : Nat} {E : Nat → List (Nat × Value) → List Value → Sto → Prop} {P : Int32 → Sto → Prop} (C : Cy B E RX0 cX0_goneNextYear 6 (some .int) 2 52 (Zm (QFi P))) (x1 : Int32) (x2 : Int32) (σ : Sto) (h : w_X0_goneNextYear x1 x2 σ P) : E 0 [(0, .ref (B + 90)), (1, .int x1), (2, .int x2)] [] σ := by
  unfold w_X0_goneNextYear at h
  refine f_aload_n C (j := 0) dX0_goneNextYear_0 rfl rfl rfl ?_
  refine f_getc C tF_X0_15 rfl o90 cs90_0 (by decide) dX0_goneNextYear_1 rfl ?_
  refine f_iload_n C (j := 1) dX0_goneNextYear_4 rfl rfl rfl ?_
  refine f_callVi C (a := 88) (ci := 6) (As := fun B => [.int x1]) o88 rfl (c_X6_without  _ _ _ h) tM_X0_38 tI_X6_without tS_X6_without tN_X6 tC_X6_without 1 dd_X6_without rfl (by decide) (by decide) rfl (Nat.le_of_ble_eq_true rfl) dX0_goneNextYear_5 rfl (fun r_2 σ_1 h => ?_)
  refine f_iload_n C (j := 2) dX0_goneNextYear_8 rfl rfl rfl ?_
  refine f_iconst C (v := (-1)) dX0_goneNextYear_9 kcm1 rfl ?_
  refine f_inot C dX0_goneNextYear_10 rfl ?_
  refine f_iand C dX0_goneNextYear_11 rfl ?_
  refine f_name (fun x3_3 hx_4 => ?_)
  replace h := h x3_3 hx_4
  refine f_istore_n C (lv2 := [(3, .int x3_3), (0, .ref (B + 90)), (1, .int x1), (2, .int x2)]) dX0_goneNextYear_12 rfl (by decide) rfl rfl ?_
  refine f_aload_n C (j := 1) dX0_goneNextYear_13 rfl rfl rfl ?_
  refine f_getc C tF_X0_19 rfl o90 cs90_1 (by decide) dX0_goneNextYear_14 rfl ?_
  refine f_iload_n C (j := 0) dX0_goneNextYear_17 rfl rfl rfl ?_
  obtain ⟨hi_5, h⟩ := h
  refine f_iald C (j := tn x3_3) a91 hi_5 rfl dX0_goneNextYear_18 rfl ?_
  refine f_name (fun x4_6 hx_7 => ?_)
  replace h := h x4_6 hx_7
  refine f_istore C (lv2 := [(4, .int x4_6), (3, .int x3_3), (0, .ref (B + 90)), (1, .int x1), (2, .int x2)]) dX0_goneNextYear_19 (by decide) rfl rfl ?_
  refine f_iload C (j := 0) dX0_goneNextYear_21 rfl rfl ?_
  refine f_bipush C (v := 15) dX0_goneNextYear_23 kb15 rfl ?_
  refine f_iand C dX0_goneNextYear_25 rfl ?_
  refine f_iconst C (v := 1) dX0_goneNextYear_26 kc1 rfl ?_
  refine f_isub C dX0_goneNextYear_27 rfl ?_
  refine f_name (fun x5_8 hx_9 => ?_)
  replace h := h x5_8 hx_9
  refine f_istore C (lv2 := [(5, .int x5_8), (4, .int x4_6), (3, .int x3_3), (0, .ref (B + 90)), (1, .int x1), (2, .int x2)]) dX0_goneNextYear_28 (by decide) rfl rfl ?_
  refine f_iload C (j := 1) dX0_goneNextYear_30 rfl rfl ?_
  refine f_iconst C (v := 4) dX0_goneNextYear_32 kc4 rfl ?_
  refine f_iushr C dX0_goneNextYear_33 rfl ?_
  refine f_aload_n C (j := 3) dX0_goneNextYear_34 rfl rfl rfl ?_
  refine f_geti C tF_X0_26 rfl o90 dX0_goneNextYear_35 rfl ?_
  refine f_icmp_eq C (t := 72) dX0_goneNextYear_38 (by decide) rfl (fun hq_10 => ?_) (fun hq_10 => ?_)
  · replace h := Eq.mp (if_pos hq_10) h
    refine f_lv C (lv2 := [(0, .ref (B + 90)), (1, .int x1), (5, .int x5_8)]) [3, 4, 0] rfl ?_
    exact s_X0_goneNextYear_72 C _ _  _ h
  · replace h := Eq.mp (if_neg hq_10) h
    refine f_aload_n C (j := 3) dX0_goneNextYear_41 rfl rfl rfl ?_
    refine f_iload_n C (j := 2) dX0_goneNextYear_42 rfl rfl rfl ?_
    refine f_aload_n C (j := 3) dX0_goneNextYear_43 rfl rfl rfl ?_
    obtain ⟨hc_12, h⟩ := h
    refine f_getm C tF_X0_9 rfl o90 cn90_3 hc_12.z dX0_goneNextYear_44 rfl ?_
    refine f_geti C tF_X0_47 rfl hc_12.o dX0_goneNextYear_47 rfl ?_
    refine f_callVi C (a := 90) (ci := 0) (As := fun B => [.int x3_3, .int (gi σ_1 (gr σ_1 90 3) 12)]) o90 rfl (c_X0_count  _ _ _ _ h) tM_X0_50 tI_X0_count tS_X0_count tN_X0 tC_X0_count 2 dd_X0_count rfl (by decide) (by decide) rfl (Nat.le_of_ble_eq_true rfl) dX0_goneNextYear_50 rfl (fun r_14 σ_13 h => ?_)
    refine f_istore C (lv2 := [(5, .int r_14), (4, .int x4_6), (3, .int x3_3), (0, .ref (B + 90)), (1, .int x1), (2, .int x2)]) dX0_goneNextYear_53 (by decide) rfl rfl ?_
    refine f_aload_n C (j := 3) dX0_goneNextYear_55 rfl rfl rfl ?_
    refine f_getc C tF_X0_19 rfl o90 cs90_1 (by decide) dX0_goneNextYear_56 rfl ?_
    refine f_iload_n C (j := 2) dX0_goneNextYear_59 rfl rfl rfl ?_
    refine f_aload_n C (j := 3) dX0_goneNextYear_60 rfl rfl rfl ?_
    refine f_geti C tF_X0_26 rfl o90 dX0_goneNextYear_61 rfl ?_
    refine f_iconst C (v := 4) dX0_goneNextYear_64 kc4 rfl ?_
    refine f_ishlk C (y := 4) (z := 4) (by decide) dX0_goneNextYear_65 rfl ?_
    refine f_iload C (j := 0) dX0_goneNextYear_66 rfl rfl ?_
    refine f_iconst C (v := 1) dX0_goneNextYear_68 kc1 rfl ?_
    refine f_iadd C dX0_goneNextYear_69 rfl ?_
    refine f_ior C dX0_goneNextYear_70 rfl ?_
    refine f_iast C (j := tn x3_3) a91 hi_5 rfl dX0_goneNextYear_71 rfl ?_
    refine f_lv C (lv2 := [(0, .ref (B + 90)), (1, .int x1), (5, .int r_14)]) [3, 4, 0] rfl ?_
    exact s_X0_goneNextYear_72 C _ _  _ h
theorem c_X0_goneNextYear (x1 : Int32) (x2 : Int32) (σ : Sto) (P : Int32 → Sto → Prop) (h : w_X0_goneNextYear x1 x2 σ P) : Ct yX0_goneNextYear cX0_goneNextYear 6 (some .int) 2 52 (fun B => [.ref (B + 90), .int x1, .int x2]) σ (QFi P) := Ct.of (by decide) (fun _ => Nat.le_of_ble_eq_true rfl) (fun B E C => s_X0_goneNextYear C x1 x2 σ h)
def w_X0_swayedBy_160 (K105 : Int32 × Int32 × Sto → Prop) (x2 : Int32) (x3 : Int32) (x5 : Int32) (z0 : Int32) (z1 : Int32) (σ : Sto) (P : Int32 → Sto → Prop) : Prop :=
  ∀ x4_20 : Int32, x4_20 = z1 ||| z0 → vp_in x5 12 ∧ ∀ x5_23 : Int32, x5_23 = x5 + 1 → K105 (x4_20, x5_23, si σ 92 (tn x5) ((gi σ 92 (tn x5)) - x3))
theorem s_X0_swayedBy_160 {B : Nat} {E : Nat → List (Nat × Value) → List Value → Sto → Prop} {P : Int32 → Sto → Prop} (C : Cy B E RX0 cX0_swayedBy 7 (some .int) 3 69 (Zm (QFi P))) (x2 : Int32) (x3 : Int32) (x5 : Int32) (z0 : Int32) (z1 : Int32) (K105 : Int32 × Int32 × Sto → Prop) (hK105 : ∀ (x4 : Int32) (x5 : Int32) (σ : Sto), K105 (x4, x5, σ) → E 105 [(0, .ref (B + 90)), (2, .int x2), (3, .int x3), (4, .int x4), (5, .int x5)] [] σ) (σ : Sto) (h : w_X0_swayedBy_160 K105 x2 x3 x5 z0 z1 σ P) : E 160 [(0, .ref (B + 90)), (2, .int x2), (3, .int x3), (5, .int x5)] [.int z0, .int z1] σ := by
  unfold w_X0_swayedBy_160 at h
  refine f_ior C dX0_swayedBy_160 rfl ?_
  refine f_name (fun x4_20 hx_21 => ?_)
  replace h := h x4_20 hx_21
  refine f_istore C (lv2 := [(4, .int x4_20), (0, .ref (B + 90)), (2, .int x2), (3, .int x3), (5, .int x5)]) dX0_swayedBy_161 (by decide) rfl rfl ?_
  refine f_aload_n C (j := 1) dX0_swayedBy_163 rfl rfl rfl ?_
  refine f_getc C tF_X0_23 rfl o90 cs90_2 (by decide) dX0_swayedBy_164 rfl ?_
  refine f_iload C (j := 4) dX0_swayedBy_167 rfl rfl ?_
  refine f_dup2 C dX0_swayedBy_169 rfl rfl rfl ?_
  obtain ⟨hi_22, h⟩ := h
  refine f_iald C (j := tn x5) a92 hi_22 rfl dX0_swayedBy_170 rfl ?_
  refine f_iload_n C (j := 3) dX0_swayedBy_171 rfl rfl rfl ?_
  refine f_isub C dX0_swayedBy_172 rfl ?_
  refine f_iast C (j := tn x5) a92 hi_22 rfl dX0_swayedBy_173 rfl ?_
  obtain ⟨x5_23, hx_24⟩ : ∃ y : Int32, y = x5 + 1 := ⟨_, rfl⟩
  replace h := h x5_23 hx_24
  refine f_iinc C (j := 4) (v := x5_23) (lv2 := [(5, .int x5_23), (4, .int x4_20), (0, .ref (B + 90)), (2, .int x2), (3, .int x3)]) dX0_swayedBy_174 rfl hx_24.symm (by decide) rfl rfl ?_
  refine f_goto C (t := 105) dX0_swayedBy_177 (by decide) ?_
  refine f_lv C (lv2 := [(0, .ref (B + 90)), (2, .int x2), (3, .int x3), (4, .int x4_20), (5, .int x5_23)]) [2, 3, 4, 1, 0] rfl ?_
  exact hK105 _ _ _ h
def w_X0_swayedBy_105 (K105 : Int32 × Int32 × Sto → Prop) (x2 : Int32) (x3 : Int32) (x4 : Int32) (x5 : Int32) (σ : Sto) (P : Int32 → Sto → Prop) : Prop :=
  isCity (gr σ 90 3) ∧ (if (gi σ (gr σ 90 3) 8) ≤ x5 then P x4 σ else (if ((x2 >>> (x5 &&& 31)) &&& 1) = 0 then ∀ x5_14 : Int32, x5_14 = x5 + 1 → K105 (x4, x5_14, σ) else vp_in x5 12 ∧ w_X0_most x2 (si σ 92 (tn x5) ((gi σ 92 (tn x5)) + x3)) (fun r_18 σ_17 => (if r_18 = (-1) then w_X0_swayedBy_160 K105 x2 x3 x5 0 x4 σ_17 P else w_X0_swayedBy_160 K105 x2 x3 x5 (1 <<< (r_18 &&& 31)) x4 σ_17 P))))
theorem s_X0_swayedBy_105 {B : Nat} {E : Nat → List (Nat × Value) → List Value → Sto → Prop} {P : Int32 → Sto → Prop} (C : Cy B E RX0 cX0_swayedBy 7 (some .int) 3 69 (Zm (QFi P))) (x2 : Int32) (x3 : Int32) (x4 : Int32) (x5 : Int32) (K105 : Int32 × Int32 × Sto → Prop) (hK105 : ∀ (x4 : Int32) (x5 : Int32) (σ : Sto), K105 (x4, x5, σ) → E 105 [(0, .ref (B + 90)), (2, .int x2), (3, .int x3), (4, .int x4), (5, .int x5)] [] σ) (σ : Sto) (h : w_X0_swayedBy_105 K105 x2 x3 x4 x5 σ P) : E 105 [(0, .ref (B + 90)), (2, .int x2), (3, .int x3), (4, .int x4), (5, .int x5)] [] σ := by
  unfold w_X0_swayedBy_105 at h
  refine f_iload C (j := 4) dX0_swayedBy_105 rfl rfl ?_
  refine f_aload_n C (j := 0) dX0_swayedBy_107 rfl rfl rfl ?_
  obtain ⟨hc_11, h⟩ := h
  refine f_getm C tF_X0_9 rfl o90 cn90_3 hc_11.z dX0_swayedBy_108 rfl ?_
  refine f_geti C tF_X0_60 rfl hc_11.o dX0_swayedBy_111 rfl ?_
  refine f_icmp_ge C (t := 180) dX0_swayedBy_114 (by decide) rfl (fun hq_12 => ?_) (fun hq_12 => ?_)
  · replace h := Eq.mp (if_pos hq_12) h
    refine f_iload C (j := 3) dX0_swayedBy_180 rfl rfl ?_
    exact f_iret C dX0_swayedBy_182 h
  · replace h := Eq.mp (if_neg hq_12) h
    refine f_iload_n C (j := 1) dX0_swayedBy_117 rfl rfl rfl ?_
    refine f_iload C (j := 4) dX0_swayedBy_118 rfl rfl ?_
    refine f_ishr C dX0_swayedBy_120 rfl ?_
    refine f_iconst C (v := 1) dX0_swayedBy_121 kc1 rfl ?_
    refine f_iand C dX0_swayedBy_122 rfl ?_
    refine f_if_eq C (t := 174) dX0_swayedBy_123 (by decide) rfl (fun hq_13 => ?_) (fun hq_13 => ?_)
    · replace h := Eq.mp (if_pos hq_13) h
      obtain ⟨x5_14, hx_15⟩ : ∃ y : Int32, y = x5 + 1 := ⟨_, rfl⟩
      replace h := h x5_14 hx_15
      refine f_iinc C (j := 4) (v := x5_14) (lv2 := [(5, .int x5_14), (0, .ref (B + 90)), (2, .int x2), (3, .int x3), (4, .int x4)]) dX0_swayedBy_174 rfl hx_15.symm (by decide) rfl rfl ?_
      refine f_goto C (t := 105) dX0_swayedBy_177 (by decide) ?_
      refine f_lv C (lv2 := [(0, .ref (B + 90)), (2, .int x2), (3, .int x3), (4, .int x4), (5, .int x5_14)]) [1, 2, 3, 4, 0] rfl ?_
      exact hK105 _ _ _ h
    · replace h := Eq.mp (if_neg hq_13) h
      refine f_aload_n C (j := 0) dX0_swayedBy_126 rfl rfl rfl ?_
      refine f_getc C tF_X0_23 rfl o90 cs90_2 (by decide) dX0_swayedBy_127 rfl ?_
      refine f_iload C (j := 4) dX0_swayedBy_130 rfl rfl ?_
      refine f_dup2 C dX0_swayedBy_132 rfl rfl rfl ?_
      obtain ⟨hi_16, h⟩ := h
      refine f_iald C (j := tn x5) a92 hi_16 rfl dX0_swayedBy_133 rfl ?_
      refine f_iload_n C (j := 2) dX0_swayedBy_134 rfl rfl rfl ?_
      refine f_iadd C dX0_swayedBy_135 rfl ?_
      refine f_iast C (j := tn x5) a92 hi_16 rfl dX0_swayedBy_136 rfl ?_
      refine f_aload_n C (j := 0) dX0_swayedBy_137 rfl rfl rfl ?_
      refine f_iload_n C (j := 1) dX0_swayedBy_138 rfl rfl rfl ?_
      refine f_callVi C (a := 90) (ci := 0) (As := fun B => [.int x2]) o90 rfl (c_X0_most  _ _ _ h) tM_X0_66 tI_X0_most tS_X0_most tN_X0 tC_X0_most 1 dd_X0_most rfl (by decide) (by decide) rfl (Nat.le_of_ble_eq_true rfl) dX0_swayedBy_139 rfl (fun r_18 σ_17 h => ?_)
      refine f_istore C (lv2 := [(6, .int r_18), (0, .ref (B + 90)), (2, .int x2), (3, .int x3), (4, .int x4), (5, .int x5)]) dX0_swayedBy_142 (by decide) rfl rfl ?_
      refine f_iload C (j := 4) dX0_swayedBy_144 rfl rfl ?_
      refine f_iload C (j := 0) dX0_swayedBy_146 rfl rfl ?_
      refine f_iconst C (v := (-1)) dX0_swayedBy_148 kcm1 rfl ?_
      refine f_icmp_ne C (t := 156) dX0_swayedBy_149 (by decide) rfl (fun hq_19 => ?_) (fun hq_19 => ?_)
      · replace h := Eq.mp (if_neg hq_19) h
        refine f_iconst C (v := 1) dX0_swayedBy_156 kc1 rfl ?_
        refine f_iload C (j := 0) dX0_swayedBy_157 rfl rfl ?_
        refine f_ishl C dX0_swayedBy_159 rfl ?_
        refine f_lv C (lv2 := [(0, .ref (B + 90)), (2, .int x2), (3, .int x3), (5, .int x5)]) [1, 2, 3, 5] rfl ?_
        exact s_X0_swayedBy_160 C _ _ _ _ _  K105 hK105 _ h
      · replace h := Eq.mp (if_pos hq_19) h
        refine f_iconst C (v := 0) dX0_swayedBy_152 kc0 rfl ?_
        refine f_goto C (t := 160) dX0_swayedBy_153 (by decide) ?_
        refine f_lv C (lv2 := [(0, .ref (B + 90)), (2, .int x2), (3, .int x3), (5, .int x5)]) [1, 2, 3, 5] rfl ?_
        exact s_X0_swayedBy_160 C _ _ _ _ _  K105 hK105 _ h
def w_X0_swayedBy_52 (K52 : Int32 × Sto → Prop) (x1 : Int32) (x2 : Int32) (x3 : Int32) (x4 : Int32) (σ : Sto) (P : Int32 → Sto → Prop) : Prop :=
  isCity (gr σ 90 3) ∧ (if (gi σ (gr σ 90 3) 8) ≤ x4 then Lp (fun (K : Int32 × Int32 × Sto → Prop) s => w_X0_swayedBy_105 K x2 x3 s.1 s.2.1 s.2.2 P) (0, 0, σ) else w_X0_hatredOf x4 σ (fun r_26 σ_25 => isCity (gr σ_25 90 3) ∧ vp_in ((x1 * 12) + x4) 72 ∧ vp_in x4 12 ∧ ∀ x4_30 : Int32, x4_30 = x4 + 1 → K52 (x4_30, si σ_25 92 (tn x4) (r_26 - (gi σ_25 ((gr σ_25 90 3) + 6) (tn ((x1 * 12) + x4)))))))
theorem s_X0_swayedBy_52 {B : Nat} {E : Nat → List (Nat × Value) → List Value → Sto → Prop} {P : Int32 → Sto → Prop} (C : Cy B E RX0 cX0_swayedBy 7 (some .int) 3 69 (Zm (QFi P))) (x1 : Int32) (x2 : Int32) (x3 : Int32) (x4 : Int32) (K52 : Int32 × Sto → Prop) (hK52 : ∀ (x4 : Int32) (σ : Sto), K52 (x4, σ) → E 52 [(0, .ref (B + 90)), (1, .int x1), (2, .int x2), (3, .int x3), (4, .int x4)] [] σ) (σ : Sto) (h : w_X0_swayedBy_52 K52 x1 x2 x3 x4 σ P) : E 52 [(0, .ref (B + 90)), (1, .int x1), (2, .int x2), (3, .int x3), (4, .int x4)] [] σ := by
  unfold w_X0_swayedBy_52 at h
  refine f_iload C (j := 4) dX0_swayedBy_52 rfl rfl ?_
  refine f_aload_n C (j := 0) dX0_swayedBy_54 rfl rfl rfl ?_
  obtain ⟨hc_9, h⟩ := h
  refine f_getm C tF_X0_9 rfl o90 cn90_3 hc_9.z dX0_swayedBy_55 rfl ?_
  refine f_geti C tF_X0_60 rfl hc_9.o dX0_swayedBy_58 rfl ?_
  refine f_icmp_ge C (t := 99) dX0_swayedBy_61 (by decide) rfl (fun hq_10 => ?_) (fun hq_10 => ?_)
  · replace h := Eq.mp (if_pos hq_10) h
    refine f_iconst C (v := 0) dX0_swayedBy_99 kc0 rfl ?_
    refine f_istore C (lv2 := [(4, .int 0), (0, .ref (B + 90)), (1, .int x1), (2, .int x2), (3, .int x3)]) dX0_swayedBy_100 (by decide) rfl rfl ?_
    refine f_iconst C (v := 0) dX0_swayedBy_102 kc0 rfl ?_
    refine f_istore C (lv2 := [(5, .int 0), (4, .int 0), (0, .ref (B + 90)), (1, .int x1), (2, .int x2), (3, .int x3)]) dX0_swayedBy_103 (by decide) rfl rfl ?_
    refine f_lv C (lv2 := [(0, .ref (B + 90)), (2, .int x2), (3, .int x3), (4, .int 0), (5, .int 0)]) [2, 4, 5, 1, 0] rfl ?_
    exact Lp_sound (fun s : Int32 × Int32 × Sto => E 105 [(0, .ref (B + 90)), (2, .int x2), (3, .int x3), (4, .int s.1), (5, .int s.2.1)] [] s.2.2) h (fun K s hK h => s_X0_swayedBy_105 C x2 x3 s.1 s.2.1 K (fun x4 x5 σ hk => hK (x4, x5, σ) hk) s.2.2 h)
  · replace h := Eq.mp (if_neg hq_10) h
    refine f_aload_n C (j := 0) dX0_swayedBy_64 rfl rfl rfl ?_
    refine f_getc C tF_X0_23 rfl o90 cs90_2 (by decide) dX0_swayedBy_65 rfl ?_
    refine f_iload C (j := 4) dX0_swayedBy_68 rfl rfl ?_
    refine f_aload_n C (j := 0) dX0_swayedBy_70 rfl rfl rfl ?_
    refine f_iload C (j := 4) dX0_swayedBy_71 rfl rfl ?_
    refine f_callVi C (a := 90) (ci := 0) (As := fun B => [.int x4]) o90 rfl (c_X0_hatredOf  _ _ _ h) tM_X0_63 tI_X0_hatredOf tS_X0_hatredOf tN_X0 tC_X0_hatredOf 1 dd_X0_hatredOf rfl (by decide) (by decide) rfl (Nat.le_of_ble_eq_true rfl) dX0_swayedBy_73 rfl (fun r_26 σ_25 h => ?_)
    refine f_aload_n C (j := 0) dX0_swayedBy_76 rfl rfl rfl ?_
    obtain ⟨hc_27, h⟩ := h
    refine f_getm C tF_X0_9 rfl o90 cn90_3 hc_27.z dX0_swayedBy_77 rfl ?_
    refine f_getc C tF_X0_79 rfl hc_27.o hc_27.c5 (Nat.succ_ne_zero _) dX0_swayedBy_80 rfl ?_
    refine f_iload_n C (j := 1) dX0_swayedBy_83 rfl rfl rfl ?_
    refine f_bipush C (v := 12) dX0_swayedBy_84 kb12 rfl ?_
    refine f_imul C dX0_swayedBy_86 rfl ?_
    refine f_iload C (j := 4) dX0_swayedBy_87 rfl rfl ?_
    refine f_iadd C dX0_swayedBy_89 rfl ?_
    obtain ⟨hi_28, h⟩ := h
    refine f_iald C (j := tn ((x1 * 12) + x4)) hc_27.a5 hi_28 rfl dX0_swayedBy_90 rfl ?_
    refine f_isub C dX0_swayedBy_91 rfl ?_
    obtain ⟨hi_29, h⟩ := h
    refine f_iast C (j := tn x4) a92 hi_29 rfl dX0_swayedBy_92 rfl ?_
    obtain ⟨x4_30, hx_31⟩ : ∃ y : Int32, y = x4 + 1 := ⟨_, rfl⟩
    replace h := h x4_30 hx_31
    refine f_iinc C (j := 4) (v := x4_30) (lv2 := [(4, .int x4_30), (0, .ref (B + 90)), (1, .int x1), (2, .int x2), (3, .int x3)]) dX0_swayedBy_93 rfl hx_31.symm (by decide) rfl rfl ?_
    refine f_goto C (t := 52) dX0_swayedBy_96 (by decide) ?_
    refine f_lv C (lv2 := [(0, .ref (B + 90)), (1, .int x1), (2, .int x2), (3, .int x3), (4, .int x4_30)]) [1, 2, 3, 4, 0] rfl ?_
    exact hK52 _ _ h
def w_X0_swayedBy_21 (x1 : Int32) (x2 : Int32) (z0 : Int32) (σ : Sto) (P : Int32 → Sto → Prop) : Prop :=
  w_J7_fill_53178 92 12 0 σ (fun σ_5 => isCity (gr σ_5 90 3) ∧ (if (gi σ_5 (gr σ_5 90 3) 12) = 0 then w_X0_castOne x2 x1 σ_5 (fun σ_32 => Lp (fun (K : Int32 × Int32 × Sto → Prop) s => w_X0_swayedBy_105 K x2 z0 s.1 s.2.1 s.2.2 P) (0, 0, σ_32)) else Lp (fun (K : Int32 × Sto → Prop) s => w_X0_swayedBy_52 K x1 x2 z0 s.1 s.2 P) (0, σ_5)))
theorem s_X0_swayedBy_21 {B : Nat} {E : Nat → List (Nat × Value) → List Value → Sto → Prop} {P : Int32 → Sto → Prop} (C : Cy B E RX0 cX0_swayedBy 7 (some .int) 3 69 (Zm (QFi P))) (x1 : Int32) (x2 : Int32) (z0 : Int32) (σ : Sto) (h : w_X0_swayedBy_21 x1 x2 z0 σ P) : E 21 [(0, .ref (B + 90)), (1, .int x1), (2, .int x2)] [.int z0] σ := by
  unfold w_X0_swayedBy_21 at h
  refine f_istore_n C (lv2 := [(3, .int z0), (0, .ref (B + 90)), (1, .int x1), (2, .int x2)]) dX0_swayedBy_21 rfl (by decide) rfl rfl ?_
  refine f_aload_n C (j := 1) dX0_swayedBy_22 rfl rfl rfl ?_
  refine f_getc C tF_X0_23 rfl o90 cs90_2 (by decide) dX0_swayedBy_23 rfl ?_
  refine f_iconst C (v := 0) dX0_swayedBy_26 kc0 rfl ?_
  refine f_callSv C (As := fun B => [.ref (B + 92), .int 0]) (c_J7_fill_53178  _ _ _ _ _ h) tM_X0_54 tT_J7_fill_53178 tN_J7 tC_J7_fill_53178 2 dd_J7_fill_53178 rfl (by decide) (by decide) rfl (Nat.le_of_ble_eq_true rfl) dX0_swayedBy_27 rfl (fun σ_5 h => ?_)
  refine f_aload_n C (j := 1) dX0_swayedBy_30 rfl rfl rfl ?_
  obtain ⟨hc_7, h⟩ := h
  refine f_getm C tF_X0_9 rfl o90 cn90_3 hc_7.z dX0_swayedBy_31 rfl ?_
  refine f_geti C tF_X0_47 rfl hc_7.o dX0_swayedBy_34 rfl ?_
  refine f_if_ne C (t := 49) dX0_swayedBy_37 (by decide) rfl (fun hq_8 => ?_) (fun hq_8 => ?_)
  · replace h := Eq.mp (if_neg hq_8) h
    refine f_iconst C (v := 0) dX0_swayedBy_49 kc0 rfl ?_
    refine f_istore C (lv2 := [(4, .int 0), (3, .int z0), (0, .ref (B + 90)), (1, .int x1), (2, .int x2)]) dX0_swayedBy_50 (by decide) rfl rfl ?_
    refine f_lv C (lv2 := [(0, .ref (B + 90)), (1, .int x1), (2, .int x2), (3, .int z0), (4, .int 0)]) [2, 3, 4, 1, 0] rfl ?_
    exact Lp_sound (fun s : Int32 × Sto => E 52 [(0, .ref (B + 90)), (1, .int x1), (2, .int x2), (3, .int z0), (4, .int s.1)] [] s.2) h (fun K s hK h => s_X0_swayedBy_52 C x1 x2 z0 s.1 K (fun x4 σ hk => hK (x4, σ) hk) s.2 h)
  · replace h := Eq.mp (if_pos hq_8) h
    refine f_aload_n C (j := 1) dX0_swayedBy_40 rfl rfl rfl ?_
    refine f_iload_n C (j := 3) dX0_swayedBy_41 rfl rfl rfl ?_
    refine f_iload_n C (j := 2) dX0_swayedBy_42 rfl rfl rfl ?_
    refine f_callVv C (a := 90) (ci := 0) (As := fun B => [.int x2, .int x1]) o90 rfl (c_X0_castOne  _ _ _ _ h) tM_X0_69 tI_X0_castOne tS_X0_castOne tN_X0 tC_X0_castOne 2 dd_X0_castOne rfl (by decide) (by decide) rfl (Nat.le_of_ble_eq_true rfl) dX0_swayedBy_43 rfl (fun σ_32 h => ?_)
    refine f_goto C (t := 99) dX0_swayedBy_46 (by decide) ?_
    refine f_iconst C (v := 0) dX0_swayedBy_99 kc0 rfl ?_
    refine f_istore C (lv2 := [(4, .int 0), (3, .int z0), (0, .ref (B + 90)), (1, .int x1), (2, .int x2)]) dX0_swayedBy_100 (by decide) rfl rfl ?_
    refine f_iconst C (v := 0) dX0_swayedBy_102 kc0 rfl ?_
    refine f_istore C (lv2 := [(5, .int 0), (4, .int 0), (3, .int z0), (0, .ref (B + 90)), (1, .int x1), (2, .int x2)]) dX0_swayedBy_103 (by decide) rfl rfl ?_
    refine f_lv C (lv2 := [(0, .ref (B + 90)), (2, .int x2), (3, .int z0), (4, .int 0), (5, .int 0)]) [3, 5, 2, 1, 0] rfl ?_
    exact Lp_sound (fun s : Int32 × Int32 × Sto => E 105 [(0, .ref (B + 90)), (2, .int x2), (3, .int z0), (4, .int s.1), (5, .int s.2.1)] [] s.2.2) h (fun K s hK h => s_X0_swayedBy_105 C x2 z0 s.1 s.2.1 K (fun x4 x5 σ hk => hK (x4, x5, σ) hk) s.2.2 h)
def w_X0_swayedBy (x1 : Int32) (σ : Sto) (P : Int32 → Sto → Prop) : Prop :=
  w_X0_openNow σ (fun r_2 σ_1 => isCity (gr σ_1 90 3) ∧ (if (gi σ_1 (gr σ_1 90 3) 12) = 0 then w_X0_swayedBy_21 x1 r_2 1 σ_1 P else w_X0_swayedBy_21 x1 r_2 9 σ_1 P))
theorem s_X0_swayedBy {B : Nat} {E : Nat → List (Nat × Value) → List Value → Sto → Prop} {P : Int32 → Sto → Prop} (C : Cy B E RX0 cX0_swayedBy 7 (some .int) 3 69 (Zm (QFi P))) (x1 : Int32) (σ : Sto) (h : w_X0_swayedBy x1 σ P) : E 0 [(0, .ref (B + 90)), (1, .int x1)] [] σ := by
  unfold w_X0_swayedBy at h
  refine f_aload_n C (j := 0) dX0_swayedBy_0 rfl rfl rfl ?_
  refine f_callVi C (a := 90) (ci := 0) (As := fun B => []) o90 rfl (c_X0_openNow   _ _ h) tM_X0_82 tI_X0_openNow tS_X0_openNow tN_X0 tC_X0_openNow 0 dd_X0_openNow rfl (by decide) (by decide) rfl (Nat.le_of_ble_eq_true rfl) dX0_swayedBy_1 rfl (fun r_2 σ_1 h => ?_)
  refine f_istore_n C (lv2 := [(2, .int r_2), (0, .ref (B + 90)), (1, .int x1)]) dX0_swayedBy_4 rfl (by decide) rfl rfl ?_
  refine f_aload_n C (j := 1) dX0_swayedBy_5 rfl rfl rfl ?_
  obtain ⟨hc_3, h⟩ := h
  refine f_getm C tF_X0_9 rfl o90 cn90_3 hc_3.z dX0_swayedBy_6 rfl ?_
  refine f_geti C tF_X0_47 rfl hc_3.o dX0_swayedBy_9 rfl ?_
  refine f_if_ne C (t := 19) dX0_swayedBy_12 (by decide) rfl (fun hq_4 => ?_) (fun hq_4 => ?_)
  · replace h := Eq.mp (if_neg hq_4) h
    refine f_bipush C (v := 9) dX0_swayedBy_19 kb9 rfl ?_
    refine f_lv C (lv2 := [(0, .ref (B + 90)), (1, .int x1), (2, .int r_2)]) [1, 2, 0] rfl ?_
    exact s_X0_swayedBy_21 C _ _ _  _ h
  · replace h := Eq.mp (if_pos hq_4) h
    refine f_iconst C (v := 1) dX0_swayedBy_15 kc1 rfl ?_
    refine f_goto C (t := 21) dX0_swayedBy_16 (by decide) ?_
    refine f_lv C (lv2 := [(0, .ref (B + 90)), (1, .int x1), (2, .int r_2)]) [1, 2, 0] rfl ?_
    exact s_X0_swayedBy_21 C _ _ _  _ h
theorem c_X0_swayedBy (x1 : Int32) (σ : Sto) (P : Int32 → Sto → Prop) (h : w_X0_swayedBy x1 σ P) : Ct yX0_swayedBy cX0_swayedBy 7 (some .int) 3 69 (fun B => [.ref (B + 90), .int x1]) σ (QFi P) := Ct.of (by decide) (fun _ => Nat.le_of_ble_eq_true rfl) (fun B E C => s_X0_swayedBy C x1 σ h)
def w_J7_fill_d0a16_6 (K6 : Int32 × Sto → Prop) (a0 : Nat) (n0 : Nat) (x1 : Int64) (x3 : Int32) (x4 : Int32) (σ : Sto) (P : Sto → Prop) : Prop :=
  (if x4 ≤ x3 then P σ else isA a0 2 n0 ∧ vp_in x3 n0 ∧ ∀ x3_7 : Int32, x3_7 = x3 + 1 → K6 (x3_7, sl σ a0 (tn x3) x1))
theorem s_J7_fill_d0a16_6 {B : Nat} {E : Nat → List (Nat × Value) → List Value → Sto → Prop} {P : Sto → Prop} (C : Cy B E RJ7 cJ7_fill_d0a16 5 none 0 0 (Zm (QFv P))) (a0 : Nat) (n0 : Nat) (x1 : Int64) (x3 : Int32) (x4 : Int32) (K6 : Int32 × Sto → Prop) (hK6 : ∀ (x3 : Int32) (σ : Sto), K6 (x3, σ) → E 6 [(0, .ref (B + a0)), (1, .long x1), (3, .int x3), (4, .int x4)] [] σ) (σ : Sto) (h : w_J7_fill_d0a16_6 K6 a0 n0 x1 x3 x4 σ P) : E 6 [(0, .ref (B + a0)), (1, .long x1), (3, .int x3), (4, .int x4)] [] σ := by
  unfold w_J7_fill_d0a16_6 at h
  refine f_iload_n C (j := 2) dJ7_fill_d0a16_6 rfl rfl rfl ?_
  refine f_iload C (j := 3) dJ7_fill_d0a16_7 rfl rfl ?_
  refine f_icmp_ge C (t := 22) dJ7_fill_d0a16_9 (by decide) rfl (fun hq_4 => ?_) (fun hq_4 => ?_)
  · replace h := Eq.mp (if_pos hq_4) h
    exact f_vret C dJ7_fill_d0a16_22 h
  · replace h := Eq.mp (if_neg hq_4) h
    refine f_aload_n C (j := 0) dJ7_fill_d0a16_12 rfl rfl rfl ?_
    refine f_iload_n C (j := 2) dJ7_fill_d0a16_13 rfl rfl rfl ?_
    refine f_lload_n C (j := 1) dJ7_fill_d0a16_14 rfl rfl rfl ?_
    obtain ⟨ha_5, h⟩ := h
    obtain ⟨hi_6, h⟩ := h
    refine f_last C (j := tn x3) ha_5 hi_6 rfl dJ7_fill_d0a16_15 rfl ?_
    obtain ⟨x3_7, hx_8⟩ : ∃ y : Int32, y = x3 + 1 := ⟨_, rfl⟩
    replace h := h x3_7 hx_8
    refine f_iinc C (j := 2) (v := x3_7) (lv2 := [(3, .int x3_7), (0, .ref (B + a0)), (1, .long x1), (4, .int x4)]) dJ7_fill_d0a16_16 rfl hx_8.symm (by decide) rfl rfl ?_
    refine f_goto C (t := 6) dJ7_fill_d0a16_19 (by decide) ?_
    refine f_lv C (lv2 := [(0, .ref (B + a0)), (1, .long x1), (3, .int x3_7), (4, .int x4)]) [1, 2, 0, 3] rfl ?_
    exact hK6 _ _ h
def w_J7_fill_d0a16 (a0 : Nat) (n0 : Nat) (x1 : Int64) (σ : Sto) (P : Sto → Prop) : Prop :=
  isA a0 2 n0 ∧ ∀ x4_2 : Int32, x4_2 = nI n0 → Lp (fun (K : Int32 × Sto → Prop) s => w_J7_fill_d0a16_6 K a0 n0 x1 s.1 x4_2 s.2 P) (0, σ)
theorem s_J7_fill_d0a16 {B : Nat} {E : Nat → List (Nat × Value) → List Value → Sto → Prop} {P : Sto → Prop} (C : Cy B E RJ7 cJ7_fill_d0a16 5 none 0 0 (Zm (QFv P))) (a0 : Nat) (n0 : Nat) (x1 : Int64) (σ : Sto) (h : w_J7_fill_d0a16 a0 n0 x1 σ P) : E 0 [(0, .ref (B + a0)), (1, .long x1)] [] σ := by
  unfold w_J7_fill_d0a16 at h
  refine f_iconst C (v := 0) dJ7_fill_d0a16_0 kc0 rfl ?_
  refine f_istore_n C (lv2 := [(3, .int 0), (0, .ref (B + a0)), (1, .long x1)]) dJ7_fill_d0a16_1 rfl (by decide) rfl rfl ?_
  refine f_aload_n C (j := 1) dJ7_fill_d0a16_2 rfl rfl rfl ?_
  obtain ⟨ha_1, h⟩ := h
  refine f_alen2 C ha_1 dJ7_fill_d0a16_3 rfl ?_
  refine f_name (fun x4_2 hx_3 => ?_)
  replace h := h x4_2 hx_3
  refine f_istore C (lv2 := [(4, .int x4_2), (3, .int 0), (0, .ref (B + a0)), (1, .long x1)]) dJ7_fill_d0a16_4 (by decide) rfl rfl ?_
  refine f_lv C (lv2 := [(0, .ref (B + a0)), (1, .long x1), (3, .int 0), (4, .int x4_2)]) [2, 3, 1, 0] rfl ?_
  exact Lp_sound (fun s : Int32 × Sto => E 6 [(0, .ref (B + a0)), (1, .long x1), (3, .int s.1), (4, .int x4_2)] [] s.2) h (fun K s hK h => s_J7_fill_d0a16_6 C a0 n0 x1 s.1 x4_2 K (fun x3 σ hk => hK (x3, σ) hk) s.2 h)
theorem c_J7_fill_d0a16 (a0 : Nat) (n0 : Nat) (x1 : Int64) (σ : Sto) (P : Sto → Prop) (h : w_J7_fill_d0a16 a0 n0 x1 σ P) : Ct yJ7_fill_d0a16 cJ7_fill_d0a16 5 none 0 0 (fun B => [.ref (B + a0), .long x1]) σ (QFv P) := Ct.of (by decide) (fun _ => Nat.le_of_ble_eq_true rfl) (fun B E C => s_J7_fill_d0a16 C a0 n0 x1 σ h)
def w_X7_clear (a0 : Nat) (σ : Sto) (P : Sto → Prop) : Prop :=
  isStory a0 ∧ P (si (si (si σ a0 5 0) a0 6 0) a0 7 0)
theorem s_X7_clear {B : Nat} {E : Nat → List (Nat × Value) → List Value → Sto → Prop} {P : Sto → Prop} (C : Cy B E RX7 cX7_clear 1 none 0 0 (Zm (QFv P))) (a0 : Nat) (σ : Sto) (h : w_X7_clear a0 σ P) : E 0 [(0, .ref (B + a0))] [] σ := by
  unfold w_X7_clear at h
  refine f_aload_n C (j := 0) dX7_clear_0 rfl rfl rfl ?_
  refine f_iconst C (v := 0) dX7_clear_1 kc0 rfl ?_
  obtain ⟨hs_1, h⟩ := h
  refine f_putz C tF_X7_25 fm_7_5 rfl (Or.inl rfl) hs_1.o dX7_clear_2 rfl ?_
  refine f_aload_n C (j := 0) dX7_clear_5 rfl rfl rfl ?_
  refine f_iconst C (v := 0) dX7_clear_6 kc0 rfl ?_
  refine f_puti C tF_X7_29 fm_7_6 rfl hs_1.o dX7_clear_7 rfl ?_
  refine f_aload_n C (j := 0) dX7_clear_10 rfl rfl rfl ?_
  refine f_iconst C (v := 0) dX7_clear_11 kc0 rfl ?_
  refine f_puti C tF_X7_33 fm_7_7 rfl hs_1.o dX7_clear_12 rfl ?_
  exact f_vret C dX7_clear_15 h
theorem c_X7_clear (a0 : Nat) (σ : Sto) (P : Sto → Prop) (h : w_X7_clear a0 σ P) : Ct yX7_clear cX7_clear 1 none 0 0 (fun B => [.ref (B + a0)]) σ (QFv P) := Ct.of (by decide) (fun _ => Nat.le_of_ble_eq_true rfl) (fun B E C => s_X7_clear C a0 σ h)
def w_X1_clear (a0 : Nat) (σ : Sto) (P : Sto → Prop) : Prop :=
  isCity a0 ∧ w_J7_fill_d0a16 (a0 + 1) 24 0 σ (fun σ_2 => w_J7_fill_53178 (a0 + 2) 12 1 σ_2 (fun σ_4 => w_J7_fill_53178 (a0 + 4) 16 0 σ_4 (fun σ_6 => w_J7_fill_53178 (a0 + 5) 6 0 σ_6 (fun σ_8 => w_J7_fill_53178 (a0 + 6) 72 0 σ_8 (fun σ_10 => w_J7_fill_53178 (a0 + 7) 12 0 σ_10 (fun σ_12 => w_X7_clear (a0 + 8) σ_12 (fun σ_14 => P (si (si (si (si (si (si (si (si σ_14 a0 8 0) a0 9 0) a0 10 0) a0 11 0) a0 12 0) a0 13 0) a0 14 0) a0 15 0))))))))
theorem s_X1_clear {B : Nat} {E : Nat → List (Nat × Value) → List Value → Sto → Prop} {P : Sto → Prop} (C : Cy B E RX1 cX1_clear 1 none 1 24 (Zm (QFv P))) (a0 : Nat) (σ : Sto) (h : w_X1_clear a0 σ P) : E 0 [(0, .ref (B + a0))] [] σ := by
  unfold w_X1_clear at h
  refine f_aload_n C (j := 0) dX1_clear_0 rfl rfl rfl ?_
  obtain ⟨hc_1, h⟩ := h
  refine f_getc C tF_X1_11 rfl hc_1.o hc_1.c0 (Nat.succ_ne_zero _) dX1_clear_1 rfl ?_
  refine f_lconst C (v := 0) dX1_clear_4 (by decide) rfl ?_
  refine f_callSv C (As := fun B => [.ref (B + (a0 + 1)), .long 0]) (c_J7_fill_d0a16  _ _ _ _ _ h) tM_X1_66 tT_J7_fill_d0a16 tN_J7 tC_J7_fill_d0a16 2 dd_J7_fill_d0a16 rfl (by decide) (by decide) rfl (Nat.le_of_ble_eq_true rfl) dX1_clear_5 rfl (fun σ_2 h => ?_)
  refine f_aload_n C (j := 0) dX1_clear_8 rfl rfl rfl ?_
  refine f_getc C tF_X1_15 rfl hc_1.o hc_1.c1 (Nat.succ_ne_zero _) dX1_clear_9 rfl ?_
  refine f_iconst C (v := 1) dX1_clear_12 kc1 rfl ?_
  refine f_callSv C (As := fun B => [.ref (B + (a0 + 2)), .int 1]) (c_J7_fill_53178  _ _ _ _ _ h) tM_X1_72 tT_J7_fill_53178 tN_J7 tC_J7_fill_53178 2 dd_J7_fill_53178 rfl (by decide) (by decide) rfl (Nat.le_of_ble_eq_true rfl) dX1_clear_13 rfl (fun σ_4 h => ?_)
  refine f_aload_n C (j := 0) dX1_clear_16 rfl rfl rfl ?_
  refine f_getc C tF_X1_22 rfl hc_1.o hc_1.c3 (Nat.succ_ne_zero _) dX1_clear_17 rfl ?_
  refine f_iconst C (v := 0) dX1_clear_20 kc0 rfl ?_
  refine f_callSv C (As := fun B => [.ref (B + (a0 + 4)), .int 0]) (c_J7_fill_53178  _ _ _ _ _ h) tM_X1_72 tT_J7_fill_53178 tN_J7 tC_J7_fill_53178 2 dd_J7_fill_53178 rfl (by decide) (by decide) rfl (Nat.le_of_ble_eq_true rfl) dX1_clear_21 rfl (fun σ_6 h => ?_)
  refine f_aload_n C (j := 0) dX1_clear_24 rfl rfl rfl ?_
  refine f_getc C tF_X1_25 rfl hc_1.o hc_1.c4 (Nat.succ_ne_zero _) dX1_clear_25 rfl ?_
  refine f_iconst C (v := 0) dX1_clear_28 kc0 rfl ?_
  refine f_callSv C (As := fun B => [.ref (B + (a0 + 5)), .int 0]) (c_J7_fill_53178  _ _ _ _ _ h) tM_X1_72 tT_J7_fill_53178 tN_J7 tC_J7_fill_53178 2 dd_J7_fill_53178 rfl (by decide) (by decide) rfl (Nat.le_of_ble_eq_true rfl) dX1_clear_29 rfl (fun σ_8 h => ?_)
  refine f_aload_n C (j := 0) dX1_clear_32 rfl rfl rfl ?_
  refine f_getc C tF_X1_28 rfl hc_1.o hc_1.c5 (Nat.succ_ne_zero _) dX1_clear_33 rfl ?_
  refine f_iconst C (v := 0) dX1_clear_36 kc0 rfl ?_
  refine f_callSv C (As := fun B => [.ref (B + (a0 + 6)), .int 0]) (c_J7_fill_53178  _ _ _ _ _ h) tM_X1_72 tT_J7_fill_53178 tN_J7 tC_J7_fill_53178 2 dd_J7_fill_53178 rfl (by decide) (by decide) rfl (Nat.le_of_ble_eq_true rfl) dX1_clear_37 rfl (fun σ_10 h => ?_)
  refine f_aload_n C (j := 0) dX1_clear_40 rfl rfl rfl ?_
  refine f_getc C tF_X1_31 rfl hc_1.o hc_1.c6 (Nat.succ_ne_zero _) dX1_clear_41 rfl ?_
  refine f_iconst C (v := 0) dX1_clear_44 kc0 rfl ?_
  refine f_callSv C (As := fun B => [.ref (B + (a0 + 7)), .int 0]) (c_J7_fill_53178  _ _ _ _ _ h) tM_X1_72 tT_J7_fill_53178 tN_J7 tC_J7_fill_53178 2 dd_J7_fill_53178 rfl (by decide) (by decide) rfl (Nat.le_of_ble_eq_true rfl) dX1_clear_45 rfl (fun σ_12 h => ?_)
  refine f_aload_n C (j := 0) dX1_clear_48 rfl rfl rfl ?_
  refine f_getc C tF_X1_37 rfl hc_1.o hc_1.c7 (Nat.succ_ne_zero _) dX1_clear_49 rfl ?_
  refine f_callVv C (a := a0 + 8) (ci := 7) (As := fun B => []) hc_1.s.o rfl (c_X7_clear  _ _ _ h) tM_X1_75 tI_X7_clear tS_X7_clear tN_X7 tC_X7_clear 0 dd_X7_clear rfl (by decide) (by decide) rfl (Nat.le_of_ble_eq_true rfl) dX1_clear_52 rfl (fun σ_14 h => ?_)
  refine f_aload_n C (j := 0) dX1_clear_55 rfl rfl rfl ?_
  refine f_iconst C (v := 0) dX1_clear_56 kc0 rfl ?_
  refine f_puti C tF_X1_41 fm_1_8 rfl hc_1.o dX1_clear_57 rfl ?_
  refine f_aload_n C (j := 0) dX1_clear_60 rfl rfl rfl ?_
  refine f_iconst C (v := 0) dX1_clear_61 kc0 rfl ?_
  refine f_puti C tF_X1_45 fm_1_9 rfl hc_1.o dX1_clear_62 rfl ?_
  refine f_aload_n C (j := 0) dX1_clear_65 rfl rfl rfl ?_
  refine f_iconst C (v := 0) dX1_clear_66 kc0 rfl ?_
  refine f_puti C tF_X1_48 fm_1_10 rfl hc_1.o dX1_clear_67 rfl ?_
  refine f_aload_n C (j := 0) dX1_clear_70 rfl rfl rfl ?_
  refine f_iconst C (v := 0) dX1_clear_71 kc0 rfl ?_
  refine f_puti C tF_X1_51 fm_1_11 rfl hc_1.o dX1_clear_72 rfl ?_
  refine f_aload_n C (j := 0) dX1_clear_75 rfl rfl rfl ?_
  refine f_iconst C (v := 0) dX1_clear_76 kc0 rfl ?_
  refine f_puti C tF_X1_54 fm_1_12 rfl hc_1.o dX1_clear_77 rfl ?_
  refine f_aload_n C (j := 0) dX1_clear_80 rfl rfl rfl ?_
  refine f_iconst C (v := 0) dX1_clear_81 kc0 rfl ?_
  refine f_puti C tF_X1_57 fm_1_13 rfl hc_1.o dX1_clear_82 rfl ?_
  refine f_aload_n C (j := 0) dX1_clear_85 rfl rfl rfl ?_
  refine f_iconst C (v := 0) dX1_clear_86 kc0 rfl ?_
  refine f_puti C tF_X1_60 fm_1_14 rfl hc_1.o dX1_clear_87 rfl ?_
  refine f_aload_n C (j := 0) dX1_clear_90 rfl rfl rfl ?_
  refine f_iconst C (v := 0) dX1_clear_91 kc0 rfl ?_
  refine f_puti C tF_X1_63 fm_1_15 rfl hc_1.o dX1_clear_92 rfl ?_
  exact f_vret C dX1_clear_95 h
theorem c_X1_clear (a0 : Nat) (σ : Sto) (P : Sto → Prop) (h : w_X1_clear a0 σ P) : Ct yX1_clear cX1_clear 1 none 1 24 (fun B => [.ref (B + a0)]) σ (QFv P) := Ct.of (by decide) (fun _ => Nat.le_of_ble_eq_true rfl) (fun B E C => s_X1_clear C a0 σ h)
def w_X7_copyFrom (a0 : Nat) (a1 : Nat) (σ : Sto) (P : Sto → Prop) : Prop :=
  isStory a1 ∧ isStory a0 ∧ ∀ σ_3 : Sto, σ_3 = cpi (cpi (cpi (cpi (cpi σ (a1 + 1) 0 (a0 + 1) 0 60) (a1 + 2) 0 (a0 + 2) 0 60) (a1 + 3) 0 (a0 + 3) 0 60) (a1 + 4) 0 (a0 + 4) 0 60) (a1 + 5) 0 (a0 + 5) 0 60 → (gi σ_3 a1 5 = 0 ∨ gi σ_3 a1 5 = 1) ∧ ∀ σ_6 : Sto, σ_6 = si σ_3 a0 5 (gi σ_3 a1 5) → ∀ σ_8 : Sto, σ_8 = si σ_6 a0 6 (gi σ_6 a1 6) → P (si σ_8 a0 7 (gi σ_8 a1 7))
theorem s_X7_copyFrom {B : Nat} {E : Nat → List (Nat × Value) → List Value → Sto → Prop} {P : Sto → Prop} (C : Cy B E RX7 cX7_copyFrom 2 none 1 26 (Zm (QFv P))) (a0 : Nat) (a1 : Nat) (σ : Sto) (h : w_X7_copyFrom a0 a1 σ P) : E 0 [(0, .ref (B + a0)), (1, .ref (B + a1))] [] σ := by
  unfold w_X7_copyFrom at h
  refine f_aload_n C (j := 1) dX7_copyFrom_0 rfl rfl rfl ?_
  obtain ⟨hs_1, h⟩ := h
  refine f_getc C tF_X7_9 rfl hs_1.o hs_1.c0 (Nat.succ_ne_zero _) dX7_copyFrom_1 rfl ?_
  refine f_iconst C (v := 0) dX7_copyFrom_4 kc0 rfl ?_
  refine f_aload_n C (j := 0) dX7_copyFrom_5 rfl rfl rfl ?_
  obtain ⟨hs_2, h⟩ := h
  refine f_getc C tF_X7_9 rfl hs_2.o hs_2.c0 (Nat.succ_ne_zero _) dX7_copyFrom_6 rfl ?_
  refine f_iconst C (v := 0) dX7_copyFrom_9 kc0 rfl ?_
  refine f_bipush C (v := 60) dX7_copyFrom_10 kb60 rfl ?_
  refine f_copyi C (spj := 0) (dpj := 0) (nj := 60) tM_X7_36 tNa_arraycopy tT_arraycopy tN_System (by decide) (by decide) hs_1.a0 hs_2.a0 (by decide) (by decide) (by decide) rfl rfl rfl (by decide) (by decide) (Nat.le_of_ble_eq_true rfl) dX7_copyFrom_12 rfl ?_
  refine f_aload_n C (j := 1) dX7_copyFrom_15 rfl rfl rfl ?_
  refine f_getc C tF_X7_13 rfl hs_1.o hs_1.c1 (Nat.succ_ne_zero _) dX7_copyFrom_16 rfl ?_
  refine f_iconst C (v := 0) dX7_copyFrom_19 kc0 rfl ?_
  refine f_aload_n C (j := 0) dX7_copyFrom_20 rfl rfl rfl ?_
  refine f_getc C tF_X7_13 rfl hs_2.o hs_2.c1 (Nat.succ_ne_zero _) dX7_copyFrom_21 rfl ?_
  refine f_iconst C (v := 0) dX7_copyFrom_24 kc0 rfl ?_
  refine f_bipush C (v := 60) dX7_copyFrom_25 kb60 rfl ?_
  refine f_copyi C (spj := 0) (dpj := 0) (nj := 60) tM_X7_36 tNa_arraycopy tT_arraycopy tN_System (by decide) (by decide) hs_1.a1 hs_2.a1 (by decide) (by decide) (by decide) rfl rfl rfl (by decide) (by decide) (Nat.le_of_ble_eq_true rfl) dX7_copyFrom_27 rfl ?_
  refine f_aload_n C (j := 1) dX7_copyFrom_30 rfl rfl rfl ?_
  refine f_getc C tF_X7_16 rfl hs_1.o hs_1.c2 (Nat.succ_ne_zero _) dX7_copyFrom_31 rfl ?_
  refine f_iconst C (v := 0) dX7_copyFrom_34 kc0 rfl ?_
  refine f_aload_n C (j := 0) dX7_copyFrom_35 rfl rfl rfl ?_
  refine f_getc C tF_X7_16 rfl hs_2.o hs_2.c2 (Nat.succ_ne_zero _) dX7_copyFrom_36 rfl ?_
  refine f_iconst C (v := 0) dX7_copyFrom_39 kc0 rfl ?_
  refine f_bipush C (v := 60) dX7_copyFrom_40 kb60 rfl ?_
  refine f_copyi C (spj := 0) (dpj := 0) (nj := 60) tM_X7_36 tNa_arraycopy tT_arraycopy tN_System (by decide) (by decide) hs_1.a2 hs_2.a2 (by decide) (by decide) (by decide) rfl rfl rfl (by decide) (by decide) (Nat.le_of_ble_eq_true rfl) dX7_copyFrom_42 rfl ?_
  refine f_aload_n C (j := 1) dX7_copyFrom_45 rfl rfl rfl ?_
  refine f_getc C tF_X7_19 rfl hs_1.o hs_1.c3 (Nat.succ_ne_zero _) dX7_copyFrom_46 rfl ?_
  refine f_iconst C (v := 0) dX7_copyFrom_49 kc0 rfl ?_
  refine f_aload_n C (j := 0) dX7_copyFrom_50 rfl rfl rfl ?_
  refine f_getc C tF_X7_19 rfl hs_2.o hs_2.c3 (Nat.succ_ne_zero _) dX7_copyFrom_51 rfl ?_
  refine f_iconst C (v := 0) dX7_copyFrom_54 kc0 rfl ?_
  refine f_bipush C (v := 60) dX7_copyFrom_55 kb60 rfl ?_
  refine f_copyi C (spj := 0) (dpj := 0) (nj := 60) tM_X7_36 tNa_arraycopy tT_arraycopy tN_System (by decide) (by decide) hs_1.a3 hs_2.a3 (by decide) (by decide) (by decide) rfl rfl rfl (by decide) (by decide) (Nat.le_of_ble_eq_true rfl) dX7_copyFrom_57 rfl ?_
  refine f_aload_n C (j := 1) dX7_copyFrom_60 rfl rfl rfl ?_
  refine f_getc C tF_X7_22 rfl hs_1.o hs_1.c4 (Nat.succ_ne_zero _) dX7_copyFrom_61 rfl ?_
  refine f_iconst C (v := 0) dX7_copyFrom_64 kc0 rfl ?_
  refine f_aload_n C (j := 0) dX7_copyFrom_65 rfl rfl rfl ?_
  refine f_getc C tF_X7_22 rfl hs_2.o hs_2.c4 (Nat.succ_ne_zero _) dX7_copyFrom_66 rfl ?_
  refine f_iconst C (v := 0) dX7_copyFrom_69 kc0 rfl ?_
  refine f_bipush C (v := 60) dX7_copyFrom_70 kb60 rfl ?_
  refine f_copyi C (spj := 0) (dpj := 0) (nj := 60) tM_X7_36 tNa_arraycopy tT_arraycopy tN_System (by decide) (by decide) hs_1.a4 hs_2.a4 (by decide) (by decide) (by decide) rfl rfl rfl (by decide) (by decide) (Nat.le_of_ble_eq_true rfl) dX7_copyFrom_72 rfl ?_
  refine f_aload_n C (j := 0) dX7_copyFrom_75 rfl rfl rfl ?_
  refine f_aload_n C (j := 1) dX7_copyFrom_76 rfl rfl rfl ?_
  refine f_names (fun σ_3 hσ_4 => ?_)
  replace h := h σ_3 hσ_4
  refine f_geti C tF_X7_25 rfl hs_1.o dX7_copyFrom_77 rfl ?_
  obtain ⟨hb_5, h⟩ := h
  refine f_putz C tF_X7_25 fm_7_5 rfl hb_5 hs_2.o dX7_copyFrom_80 rfl ?_
  refine f_aload_n C (j := 0) dX7_copyFrom_83 rfl rfl rfl ?_
  refine f_aload_n C (j := 1) dX7_copyFrom_84 rfl rfl rfl ?_
  refine f_names (fun σ_6 hσ_7 => ?_)
  replace h := h σ_6 hσ_7
  refine f_geti C tF_X7_29 rfl hs_1.o dX7_copyFrom_85 rfl ?_
  refine f_puti C tF_X7_29 fm_7_6 rfl hs_2.o dX7_copyFrom_88 rfl ?_
  refine f_aload_n C (j := 0) dX7_copyFrom_91 rfl rfl rfl ?_
  refine f_aload_n C (j := 1) dX7_copyFrom_92 rfl rfl rfl ?_
  refine f_names (fun σ_8 hσ_9 => ?_)
  replace h := h σ_8 hσ_9
  refine f_geti C tF_X7_33 rfl hs_1.o dX7_copyFrom_93 rfl ?_
  refine f_puti C tF_X7_33 fm_7_7 rfl hs_2.o dX7_copyFrom_96 rfl ?_
  exact f_vret C dX7_copyFrom_99 h
theorem c_X7_copyFrom (a0 : Nat) (a1 : Nat) (σ : Sto) (P : Sto → Prop) (h : w_X7_copyFrom a0 a1 σ P) : Ct yX7_copyFrom cX7_copyFrom 2 none 1 26 (fun B => [.ref (B + a0), .ref (B + a1)]) σ (QFv P) := Ct.of (by decide) (fun _ => Nat.le_of_ble_eq_true rfl) (fun B E C => s_X7_copyFrom C a0 a1 σ h)
def w_X1_copyFrom (a0 : Nat) (a1 : Nat) (σ : Sto) (P : Sto → Prop) : Prop :=
  isCity a1 ∧ isCity a0 ∧ w_X7_copyFrom (a0 + 8) (a1 + 8) (cpi (cpi (cpi (cpi (cpi (cpi (cpl σ (a1 + 1) 0 (a0 + 1) 0 24) (a1 + 2) 0 (a0 + 2) 0 12) (a1 + 3) 0 (a0 + 3) 0 16) (a1 + 4) 0 (a0 + 4) 0 16) (a1 + 5) 0 (a0 + 5) 0 6) (a1 + 6) 0 (a0 + 6) 0 72) (a1 + 7) 0 (a0 + 7) 0 12) (fun σ_3 => ∀ σ_5 : Sto, σ_5 = si σ_3 a0 8 (gi σ_3 a1 8) → ∀ σ_7 : Sto, σ_7 = si σ_5 a0 9 (gi σ_5 a1 9) → ∀ σ_9 : Sto, σ_9 = si σ_7 a0 10 (gi σ_7 a1 10) → ∀ σ_11 : Sto, σ_11 = si σ_9 a0 11 (gi σ_9 a1 11) → ∀ σ_13 : Sto, σ_13 = si σ_11 a0 12 (gi σ_11 a1 12) → ∀ σ_15 : Sto, σ_15 = si σ_13 a0 13 (gi σ_13 a1 13) → ∀ σ_17 : Sto, σ_17 = si σ_15 a0 14 (gi σ_15 a1 14) → P (si σ_17 a0 15 (gi σ_17 a1 15)))
theorem s_X1_copyFrom {B : Nat} {E : Nat → List (Nat × Value) → List Value → Sto → Prop} {P : Sto → Prop} (C : Cy B E RX1 cX1_copyFrom 2 none 2 47 (Zm (QFv P))) (a0 : Nat) (a1 : Nat) (σ : Sto) (h : w_X1_copyFrom a0 a1 σ P) : E 0 [(0, .ref (B + a0)), (1, .ref (B + a1))] [] σ := by
  unfold w_X1_copyFrom at h
  refine f_aload_n C (j := 1) dX1_copyFrom_0 rfl rfl rfl ?_
  obtain ⟨hc_1, h⟩ := h
  refine f_getc C tF_X1_11 rfl hc_1.o hc_1.c0 (Nat.succ_ne_zero _) dX1_copyFrom_1 rfl ?_
  refine f_iconst C (v := 0) dX1_copyFrom_4 kc0 rfl ?_
  refine f_aload_n C (j := 0) dX1_copyFrom_5 rfl rfl rfl ?_
  obtain ⟨hc_2, h⟩ := h
  refine f_getc C tF_X1_11 rfl hc_2.o hc_2.c0 (Nat.succ_ne_zero _) dX1_copyFrom_6 rfl ?_
  refine f_iconst C (v := 0) dX1_copyFrom_9 kc0 rfl ?_
  refine f_bipush C (v := 24) dX1_copyFrom_10 kb24 rfl ?_
  refine f_copyl C (spj := 0) (dpj := 0) (nj := 24) tM_X1_78 tNa_arraycopy tT_arraycopy tN_System (by decide) (by decide) hc_1.a0 hc_2.a0 (by decide) (by decide) (by decide) rfl rfl rfl (by decide) (by decide) (Nat.le_of_ble_eq_true rfl) dX1_copyFrom_12 rfl ?_
  refine f_aload_n C (j := 1) dX1_copyFrom_15 rfl rfl rfl ?_
  refine f_getc C tF_X1_15 rfl hc_1.o hc_1.c1 (Nat.succ_ne_zero _) dX1_copyFrom_16 rfl ?_
  refine f_iconst C (v := 0) dX1_copyFrom_19 kc0 rfl ?_
  refine f_aload_n C (j := 0) dX1_copyFrom_20 rfl rfl rfl ?_
  refine f_getc C tF_X1_15 rfl hc_2.o hc_2.c1 (Nat.succ_ne_zero _) dX1_copyFrom_21 rfl ?_
  refine f_iconst C (v := 0) dX1_copyFrom_24 kc0 rfl ?_
  refine f_bipush C (v := 12) dX1_copyFrom_25 kb12 rfl ?_
  refine f_copyi C (spj := 0) (dpj := 0) (nj := 12) tM_X1_78 tNa_arraycopy tT_arraycopy tN_System (by decide) (by decide) hc_1.a1 hc_2.a1 (by decide) (by decide) (by decide) rfl rfl rfl (by decide) (by decide) (Nat.le_of_ble_eq_true rfl) dX1_copyFrom_27 rfl ?_
  refine f_aload_n C (j := 1) dX1_copyFrom_30 rfl rfl rfl ?_
  refine f_getc C tF_X1_19 rfl hc_1.o hc_1.c2 (Nat.succ_ne_zero _) dX1_copyFrom_31 rfl ?_
  refine f_iconst C (v := 0) dX1_copyFrom_34 kc0 rfl ?_
  refine f_aload_n C (j := 0) dX1_copyFrom_35 rfl rfl rfl ?_
  refine f_getc C tF_X1_19 rfl hc_2.o hc_2.c2 (Nat.succ_ne_zero _) dX1_copyFrom_36 rfl ?_
  refine f_iconst C (v := 0) dX1_copyFrom_39 kc0 rfl ?_
  refine f_bipush C (v := 16) dX1_copyFrom_40 kb16 rfl ?_
  refine f_copyi C (spj := 0) (dpj := 0) (nj := 16) tM_X1_78 tNa_arraycopy tT_arraycopy tN_System (by decide) (by decide) hc_1.a2 hc_2.a2 (by decide) (by decide) (by decide) rfl rfl rfl (by decide) (by decide) (Nat.le_of_ble_eq_true rfl) dX1_copyFrom_42 rfl ?_
  refine f_aload_n C (j := 1) dX1_copyFrom_45 rfl rfl rfl ?_
  refine f_getc C tF_X1_22 rfl hc_1.o hc_1.c3 (Nat.succ_ne_zero _) dX1_copyFrom_46 rfl ?_
  refine f_iconst C (v := 0) dX1_copyFrom_49 kc0 rfl ?_
  refine f_aload_n C (j := 0) dX1_copyFrom_50 rfl rfl rfl ?_
  refine f_getc C tF_X1_22 rfl hc_2.o hc_2.c3 (Nat.succ_ne_zero _) dX1_copyFrom_51 rfl ?_
  refine f_iconst C (v := 0) dX1_copyFrom_54 kc0 rfl ?_
  refine f_bipush C (v := 16) dX1_copyFrom_55 kb16 rfl ?_
  refine f_copyi C (spj := 0) (dpj := 0) (nj := 16) tM_X1_78 tNa_arraycopy tT_arraycopy tN_System (by decide) (by decide) hc_1.a3 hc_2.a3 (by decide) (by decide) (by decide) rfl rfl rfl (by decide) (by decide) (Nat.le_of_ble_eq_true rfl) dX1_copyFrom_57 rfl ?_
  refine f_aload_n C (j := 1) dX1_copyFrom_60 rfl rfl rfl ?_
  refine f_getc C tF_X1_25 rfl hc_1.o hc_1.c4 (Nat.succ_ne_zero _) dX1_copyFrom_61 rfl ?_
  refine f_iconst C (v := 0) dX1_copyFrom_64 kc0 rfl ?_
  refine f_aload_n C (j := 0) dX1_copyFrom_65 rfl rfl rfl ?_
  refine f_getc C tF_X1_25 rfl hc_2.o hc_2.c4 (Nat.succ_ne_zero _) dX1_copyFrom_66 rfl ?_
  refine f_iconst C (v := 0) dX1_copyFrom_69 kc0 rfl ?_
  refine f_bipush C (v := 6) dX1_copyFrom_70 kb6 rfl ?_
  refine f_copyi C (spj := 0) (dpj := 0) (nj := 6) tM_X1_78 tNa_arraycopy tT_arraycopy tN_System (by decide) (by decide) hc_1.a4 hc_2.a4 (by decide) (by decide) (by decide) rfl rfl rfl (by decide) (by decide) (Nat.le_of_ble_eq_true rfl) dX1_copyFrom_72 rfl ?_
  refine f_aload_n C (j := 1) dX1_copyFrom_75 rfl rfl rfl ?_
  refine f_getc C tF_X1_28 rfl hc_1.o hc_1.c5 (Nat.succ_ne_zero _) dX1_copyFrom_76 rfl ?_
  refine f_iconst C (v := 0) dX1_copyFrom_79 kc0 rfl ?_
  refine f_aload_n C (j := 0) dX1_copyFrom_80 rfl rfl rfl ?_
  refine f_getc C tF_X1_28 rfl hc_2.o hc_2.c5 (Nat.succ_ne_zero _) dX1_copyFrom_81 rfl ?_
  refine f_iconst C (v := 0) dX1_copyFrom_84 kc0 rfl ?_
  refine f_bipush C (v := 72) dX1_copyFrom_85 kb72 rfl ?_
  refine f_copyi C (spj := 0) (dpj := 0) (nj := 72) tM_X1_78 tNa_arraycopy tT_arraycopy tN_System (by decide) (by decide) hc_1.a5 hc_2.a5 (by decide) (by decide) (by decide) rfl rfl rfl (by decide) (by decide) (Nat.le_of_ble_eq_true rfl) dX1_copyFrom_87 rfl ?_
  refine f_aload_n C (j := 1) dX1_copyFrom_90 rfl rfl rfl ?_
  refine f_getc C tF_X1_31 rfl hc_1.o hc_1.c6 (Nat.succ_ne_zero _) dX1_copyFrom_91 rfl ?_
  refine f_iconst C (v := 0) dX1_copyFrom_94 kc0 rfl ?_
  refine f_aload_n C (j := 0) dX1_copyFrom_95 rfl rfl rfl ?_
  refine f_getc C tF_X1_31 rfl hc_2.o hc_2.c6 (Nat.succ_ne_zero _) dX1_copyFrom_96 rfl ?_
  refine f_iconst C (v := 0) dX1_copyFrom_99 kc0 rfl ?_
  refine f_bipush C (v := 12) dX1_copyFrom_100 kb12 rfl ?_
  refine f_copyi C (spj := 0) (dpj := 0) (nj := 12) tM_X1_78 tNa_arraycopy tT_arraycopy tN_System (by decide) (by decide) hc_1.a6 hc_2.a6 (by decide) (by decide) (by decide) rfl rfl rfl (by decide) (by decide) (Nat.le_of_ble_eq_true rfl) dX1_copyFrom_102 rfl ?_
  refine f_aload_n C (j := 0) dX1_copyFrom_105 rfl rfl rfl ?_
  refine f_getc C tF_X1_37 rfl hc_2.o hc_2.c7 (Nat.succ_ne_zero _) dX1_copyFrom_106 rfl ?_
  refine f_aload_n C (j := 1) dX1_copyFrom_109 rfl rfl rfl ?_
  refine f_getc C tF_X1_37 rfl hc_1.o hc_1.c7 (Nat.succ_ne_zero _) dX1_copyFrom_110 rfl ?_
  refine f_callVv C (a := a0 + 8) (ci := 7) (As := fun B => [.ref (B + (a1 + 8))]) hc_2.s.o rfl (c_X7_copyFrom  _ _ _ _ h) tM_X1_84 tI_X7_copyFrom tS_X7_copyFrom tN_X7 tC_X7_copyFrom 1 dd_X7_copyFrom rfl (by decide) (by decide) rfl (Nat.le_of_ble_eq_true rfl) dX1_copyFrom_113 rfl (fun σ_3 h => ?_)
  refine f_aload_n C (j := 0) dX1_copyFrom_116 rfl rfl rfl ?_
  refine f_aload_n C (j := 1) dX1_copyFrom_117 rfl rfl rfl ?_
  refine f_geti C tF_X1_41 rfl hc_1.o dX1_copyFrom_118 rfl ?_
  refine f_puti C tF_X1_41 fm_1_8 rfl hc_2.o dX1_copyFrom_121 rfl ?_
  refine f_aload_n C (j := 0) dX1_copyFrom_124 rfl rfl rfl ?_
  refine f_aload_n C (j := 1) dX1_copyFrom_125 rfl rfl rfl ?_
  refine f_names (fun σ_5 hσ_6 => ?_)
  replace h := h σ_5 hσ_6
  refine f_geti C tF_X1_45 rfl hc_1.o dX1_copyFrom_126 rfl ?_
  refine f_puti C tF_X1_45 fm_1_9 rfl hc_2.o dX1_copyFrom_129 rfl ?_
  refine f_aload_n C (j := 0) dX1_copyFrom_132 rfl rfl rfl ?_
  refine f_aload_n C (j := 1) dX1_copyFrom_133 rfl rfl rfl ?_
  refine f_names (fun σ_7 hσ_8 => ?_)
  replace h := h σ_7 hσ_8
  refine f_geti C tF_X1_48 rfl hc_1.o dX1_copyFrom_134 rfl ?_
  refine f_puti C tF_X1_48 fm_1_10 rfl hc_2.o dX1_copyFrom_137 rfl ?_
  refine f_aload_n C (j := 0) dX1_copyFrom_140 rfl rfl rfl ?_
  refine f_aload_n C (j := 1) dX1_copyFrom_141 rfl rfl rfl ?_
  refine f_names (fun σ_9 hσ_10 => ?_)
  replace h := h σ_9 hσ_10
  refine f_geti C tF_X1_51 rfl hc_1.o dX1_copyFrom_142 rfl ?_
  refine f_puti C tF_X1_51 fm_1_11 rfl hc_2.o dX1_copyFrom_145 rfl ?_
  refine f_aload_n C (j := 0) dX1_copyFrom_148 rfl rfl rfl ?_
  refine f_aload_n C (j := 1) dX1_copyFrom_149 rfl rfl rfl ?_
  refine f_names (fun σ_11 hσ_12 => ?_)
  replace h := h σ_11 hσ_12
  refine f_geti C tF_X1_54 rfl hc_1.o dX1_copyFrom_150 rfl ?_
  refine f_puti C tF_X1_54 fm_1_12 rfl hc_2.o dX1_copyFrom_153 rfl ?_
  refine f_aload_n C (j := 0) dX1_copyFrom_156 rfl rfl rfl ?_
  refine f_aload_n C (j := 1) dX1_copyFrom_157 rfl rfl rfl ?_
  refine f_names (fun σ_13 hσ_14 => ?_)
  replace h := h σ_13 hσ_14
  refine f_geti C tF_X1_57 rfl hc_1.o dX1_copyFrom_158 rfl ?_
  refine f_puti C tF_X1_57 fm_1_13 rfl hc_2.o dX1_copyFrom_161 rfl ?_
  refine f_aload_n C (j := 0) dX1_copyFrom_164 rfl rfl rfl ?_
  refine f_aload_n C (j := 1) dX1_copyFrom_165 rfl rfl rfl ?_
  refine f_names (fun σ_15 hσ_16 => ?_)
  replace h := h σ_15 hσ_16
  refine f_geti C tF_X1_60 rfl hc_1.o dX1_copyFrom_166 rfl ?_
  refine f_puti C tF_X1_60 fm_1_14 rfl hc_2.o dX1_copyFrom_169 rfl ?_
  refine f_aload_n C (j := 0) dX1_copyFrom_172 rfl rfl rfl ?_
  refine f_aload_n C (j := 1) dX1_copyFrom_173 rfl rfl rfl ?_
  refine f_names (fun σ_17 hσ_18 => ?_)
  replace h := h σ_17 hσ_18
  refine f_geti C tF_X1_63 rfl hc_1.o dX1_copyFrom_174 rfl ?_
  refine f_puti C tF_X1_63 fm_1_15 rfl hc_2.o dX1_copyFrom_177 rfl ?_
  exact f_vret C dX1_copyFrom_180 h
theorem c_X1_copyFrom (a0 : Nat) (a1 : Nat) (σ : Sto) (P : Sto → Prop) (h : w_X1_copyFrom a0 a1 σ P) : Ct yX1_copyFrom cX1_copyFrom 2 none 2 47 (fun B => [.ref (B + a0), .ref (B + a1)]) σ (QFv P) := Ct.of (by decide) (fun _ => Nat.le_of_ble_eq_true rfl) (fun B E C => s_X1_copyFrom C a0 a1 σ h)
def w_X1_isTaken_2 (K2 : Int32 × Sto → Prop) (a0 : Nat) (x1 : Int64) (x3 : Int32) (σ : Sto) (P : Int32 → Sto → Prop) : Prop :=
  (if 24 ≤ x3 then P 0 σ else isCity a0 ∧ vp_in x3 24 ∧ (if (lg_cmp (gl σ (a0 + 1) (tn x3)) x1) = 0 then P 1 σ else ∀ x3_5 : Int32, x3_5 = x3 + 1 → K2 (x3_5, σ)))
theorem s_X1_isTaken_2 {B : Nat} {E : Nat → List (Nat × Value) → List Value → Sto → Prop} {P : Int32 → Sto → Prop} (C : Cy B E RX1 cX1_isTaken 4 (some .boolean) 0 0 (Zm (QFi P))) (a0 : Nat) (x1 : Int64) (x3 : Int32) (K2 : Int32 × Sto → Prop) (hK2 : ∀ (x3 : Int32) (σ : Sto), K2 (x3, σ) → E 2 [(0, .ref (B + a0)), (1, .long x1), (3, .int x3)] [] σ) (σ : Sto) (h : w_X1_isTaken_2 K2 a0 x1 x3 σ P) : E 2 [(0, .ref (B + a0)), (1, .long x1), (3, .int x3)] [] σ := by
  unfold w_X1_isTaken_2 at h
  refine f_iload_n C (j := 2) dX1_isTaken_2 rfl rfl rfl ?_
  refine f_bipush C (v := 24) dX1_isTaken_3 kb24 rfl ?_
  refine f_icmp_ge C (t := 27) dX1_isTaken_5 (by decide) rfl (fun hq_1 => ?_) (fun hq_1 => ?_)
  · replace h := Eq.mp (if_pos hq_1) h
    refine f_iconst C (v := 0) dX1_isTaken_27 kc0 rfl ?_
    exact f_zret C (Or.inl rfl) dX1_isTaken_28 h
  · replace h := Eq.mp (if_neg hq_1) h
    refine f_aload_n C (j := 0) dX1_isTaken_8 rfl rfl rfl ?_
    obtain ⟨hc_2, h⟩ := h
    refine f_getc C tF_X1_11 rfl hc_2.o hc_2.c0 (Nat.succ_ne_zero _) dX1_isTaken_9 rfl ?_
    refine f_iload_n C (j := 2) dX1_isTaken_12 rfl rfl rfl ?_
    obtain ⟨hi_3, h⟩ := h
    refine f_lald C (j := tn x3) hc_2.a0 hi_3 rfl dX1_isTaken_13 rfl ?_
    refine f_lload_n C (j := 1) dX1_isTaken_14 rfl rfl rfl ?_
    refine f_lcmp C dX1_isTaken_15 rfl ?_
    refine f_if_ne C (t := 21) dX1_isTaken_16 (by decide) rfl (fun hq_4 => ?_) (fun hq_4 => ?_)
    · replace h := Eq.mp (if_neg hq_4) h
      obtain ⟨x3_5, hx_6⟩ : ∃ y : Int32, y = x3 + 1 := ⟨_, rfl⟩
      replace h := h x3_5 hx_6
      refine f_iinc C (j := 2) (v := x3_5) (lv2 := [(3, .int x3_5), (0, .ref (B + a0)), (1, .long x1)]) dX1_isTaken_21 rfl hx_6.symm (by decide) rfl rfl ?_
      refine f_goto C (t := 2) dX1_isTaken_24 (by decide) ?_
      refine f_lv C (lv2 := [(0, .ref (B + a0)), (1, .long x1), (3, .int x3_5)]) [1, 2, 0] rfl ?_
      exact hK2 _ _ h
    · replace h := Eq.mp (if_pos hq_4) h
      refine f_iconst C (v := 1) dX1_isTaken_19 kc1 rfl ?_
      exact f_zret C (Or.inr rfl) dX1_isTaken_20 h
def w_X1_isTaken (a0 : Nat) (x1 : Int64) (σ : Sto) (P : Int32 → Sto → Prop) : Prop :=
  Lp (fun (K : Int32 × Sto → Prop) s => w_X1_isTaken_2 K a0 x1 s.1 s.2 P) (0, σ)
theorem s_X1_isTaken {B : Nat} {E : Nat → List (Nat × Value) → List Value → Sto → Prop} {P : Int32 → Sto → Prop} (C : Cy B E RX1 cX1_isTaken 4 (some .boolean) 0 0 (Zm (QFi P))) (a0 : Nat) (x1 : Int64) (σ : Sto) (h : w_X1_isTaken a0 x1 σ P) : E 0 [(0, .ref (B + a0)), (1, .long x1)] [] σ := by
  unfold w_X1_isTaken at h
  refine f_iconst C (v := 0) dX1_isTaken_0 kc0 rfl ?_
  refine f_istore_n C (lv2 := [(3, .int 0), (0, .ref (B + a0)), (1, .long x1)]) dX1_isTaken_1 rfl (by decide) rfl rfl ?_
  refine f_lv C (lv2 := [(0, .ref (B + a0)), (1, .long x1), (3, .int 0)]) [1, 2, 0] rfl ?_
  exact Lp_sound (fun s : Int32 × Sto => E 2 [(0, .ref (B + a0)), (1, .long x1), (3, .int s.1)] [] s.2) h (fun K s hK h => s_X1_isTaken_2 C a0 x1 s.1 K (fun x3 σ hk => hK (x3, σ) hk) s.2 h)
theorem c_X1_isTaken (a0 : Nat) (x1 : Int64) (σ : Sto) (P : Int32 → Sto → Prop) (h : w_X1_isTaken a0 x1 σ P) : Ct yX1_isTaken cX1_isTaken 4 (some .boolean) 0 0 (fun B => [.ref (B + a0), .long x1]) σ (QFi P) := Ct.of (by decide) (fun _ => Nat.le_of_ble_eq_true rfl) (fun B E C => s_X1_isTaken C a0 x1 σ h)
def w_X1_find_27 (K27 : Int32 × Sto → Prop) (a0 : Nat) (x1 : Int64) (x3 : Int32) (x4 : Int32) (x5 : Int32) (σ : Sto) (P : Int32 → Sto → Prop) : Prop :=
  (if x4 ≤ x5 then P (-1) σ else isCity a0 ∧ vp_in x5 24 ∧ (if (lg_cmp (gl σ (a0 + 1) (tn x5)) x1) = 0 then P (x5 - x3) σ else ∀ x5_7 : Int32, x5_7 = x5 + 1 → K27 (x5_7, σ)))
theorem s_X1_find_27 {B : Nat} {E : Nat → List (Nat × Value) → List Value → Sto → Prop} {P : Int32 → Sto → Prop} (C : Cy B E RX1 cX1_find 6 (some .int) 0 0 (Zm (QFi P))) (a0 : Nat) (x1 : Int64) (x3 : Int32) (x4 : Int32) (x5 : Int32) (K27 : Int32 × Sto → Prop) (hK27 : ∀ (x5 : Int32) (σ : Sto), K27 (x5, σ) → E 27 [(0, .ref (B + a0)), (1, .long x1), (3, .int x3), (4, .int x4), (5, .int x5)] [] σ) (σ : Sto) (h : w_X1_find_27 K27 a0 x1 x3 x4 x5 σ P) : E 27 [(0, .ref (B + a0)), (1, .long x1), (3, .int x3), (4, .int x4), (5, .int x5)] [] σ := by
  unfold w_X1_find_27 at h
  refine f_iload C (j := 4) dX1_find_27 rfl rfl ?_
  refine f_iload C (j := 3) dX1_find_29 rfl rfl ?_
  refine f_icmp_ge C (t := 57) dX1_find_31 (by decide) rfl (fun hq_3 => ?_) (fun hq_3 => ?_)
  · replace h := Eq.mp (if_pos hq_3) h
    refine f_iconst C (v := (-1)) dX1_find_57 kcm1 rfl ?_
    exact f_iret C dX1_find_58 h
  · replace h := Eq.mp (if_neg hq_3) h
    refine f_aload_n C (j := 0) dX1_find_34 rfl rfl rfl ?_
    obtain ⟨hc_4, h⟩ := h
    refine f_getc C tF_X1_11 rfl hc_4.o hc_4.c0 (Nat.succ_ne_zero _) dX1_find_35 rfl ?_
    refine f_iload C (j := 4) dX1_find_38 rfl rfl ?_
    obtain ⟨hi_5, h⟩ := h
    refine f_lald C (j := tn x5) hc_4.a0 hi_5 rfl dX1_find_40 rfl ?_
    refine f_lload_n C (j := 1) dX1_find_41 rfl rfl rfl ?_
    refine f_lcmp C dX1_find_42 rfl ?_
    refine f_if_ne C (t := 51) dX1_find_43 (by decide) rfl (fun hq_6 => ?_) (fun hq_6 => ?_)
    · replace h := Eq.mp (if_neg hq_6) h
      obtain ⟨x5_7, hx_8⟩ : ∃ y : Int32, y = x5 + 1 := ⟨_, rfl⟩
      replace h := h x5_7 hx_8
      refine f_iinc C (j := 4) (v := x5_7) (lv2 := [(5, .int x5_7), (0, .ref (B + a0)), (1, .long x1), (3, .int x3), (4, .int x4)]) dX1_find_51 rfl hx_8.symm (by decide) rfl rfl ?_
      refine f_goto C (t := 27) dX1_find_54 (by decide) ?_
      refine f_lv C (lv2 := [(0, .ref (B + a0)), (1, .long x1), (3, .int x3), (4, .int x4), (5, .int x5_7)]) [1, 2, 3, 4, 0] rfl ?_
      exact hK27 _ _ h
    · replace h := Eq.mp (if_pos hq_6) h
      refine f_iload C (j := 4) dX1_find_46 rfl rfl ?_
      refine f_iload_n C (j := 2) dX1_find_48 rfl rfl rfl ?_
      refine f_isub C dX1_find_49 rfl ?_
      exact f_iret C dX1_find_50 h
def w_X1_find (a0 : Nat) (x1 : Int64) (x3 : Int32) (σ : Sto) (P : Int32 → Sto → Prop) : Prop :=
  (if x3 = 0 then Lp (fun (K : Int32 × Sto → Prop) s => w_X1_find_27 K a0 x1 x3 12 s.1 s.2 P) (x3, σ) else (if x3 = 12 then Lp (fun (K : Int32 × Sto → Prop) s => w_X1_find_27 K a0 x1 x3 18 s.1 s.2 P) (x3, σ) else Lp (fun (K : Int32 × Sto → Prop) s => w_X1_find_27 K a0 x1 x3 24 s.1 s.2 P) (x3, σ)))
theorem s_X1_find {B : Nat} {E : Nat → List (Nat × Value) → List Value → Sto → Prop} {P : Int32 → Sto → Prop} (C : Cy B E RX1 cX1_find 6 (some .int) 0 0 (Zm (QFi P))) (a0 : Nat) (x1 : Int64) (x3 : Int32) (σ : Sto) (h : w_X1_find a0 x1 x3 σ P) : E 0 [(0, .ref (B + a0)), (1, .long x1), (3, .int x3)] [] σ := by
  unfold w_X1_find at h
  refine f_iload_n C (j := 2) dX1_find_0 rfl rfl rfl ?_
  refine f_if_ne C (t := 9) dX1_find_1 (by decide) rfl (fun hq_1 => ?_) (fun hq_1 => ?_)
  · replace h := Eq.mp (if_neg hq_1) h
    refine f_iload_n C (j := 2) dX1_find_9 rfl rfl rfl ?_
    refine f_bipush C (v := 12) dX1_find_10 kb12 rfl ?_
    refine f_icmp_ne C (t := 20) dX1_find_12 (by decide) rfl (fun hq_2 => ?_) (fun hq_2 => ?_)
    · replace h := Eq.mp (if_neg hq_2) h
      refine f_bipush C (v := 24) dX1_find_20 kb24 rfl ?_
      refine f_istore C (lv2 := [(4, .int 24), (0, .ref (B + a0)), (1, .long x1), (3, .int x3)]) dX1_find_22 (by decide) rfl rfl ?_
      refine f_iload_n C (j := 3) dX1_find_24 rfl rfl rfl ?_
      refine f_istore C (lv2 := [(5, .int x3), (4, .int 24), (0, .ref (B + a0)), (1, .long x1), (3, .int x3)]) dX1_find_25 (by decide) rfl rfl ?_
      refine f_lv C (lv2 := [(0, .ref (B + a0)), (1, .long x1), (3, .int x3), (4, .int 24), (5, .int x3)]) [2, 3, 4, 1, 0] rfl ?_
      exact Lp_sound (fun s : Int32 × Sto => E 27 [(0, .ref (B + a0)), (1, .long x1), (3, .int x3), (4, .int 24), (5, .int s.1)] [] s.2) h (fun K s hK h => s_X1_find_27 C a0 x1 x3 24 s.1 K (fun x5 σ hk => hK (x5, σ) hk) s.2 h)
    · replace h := Eq.mp (if_pos hq_2) h
      refine f_bipush C (v := 18) dX1_find_15 kb18 rfl ?_
      refine f_goto C (t := 22) dX1_find_17 (by decide) ?_
      refine f_istore C (lv2 := [(4, .int 18), (0, .ref (B + a0)), (1, .long x1), (3, .int x3)]) dX1_find_22 (by decide) rfl rfl ?_
      refine f_iload_n C (j := 3) dX1_find_24 rfl rfl rfl ?_
      refine f_istore C (lv2 := [(5, .int x3), (4, .int 18), (0, .ref (B + a0)), (1, .long x1), (3, .int x3)]) dX1_find_25 (by decide) rfl rfl ?_
      refine f_lv C (lv2 := [(0, .ref (B + a0)), (1, .long x1), (3, .int x3), (4, .int 18), (5, .int x3)]) [2, 3, 4, 1, 0] rfl ?_
      exact Lp_sound (fun s : Int32 × Sto => E 27 [(0, .ref (B + a0)), (1, .long x1), (3, .int x3), (4, .int 18), (5, .int s.1)] [] s.2) h (fun K s hK h => s_X1_find_27 C a0 x1 x3 18 s.1 K (fun x5 σ hk => hK (x5, σ) hk) s.2 h)
  · replace h := Eq.mp (if_pos hq_1) h
    refine f_bipush C (v := 12) dX1_find_4 kb12 rfl ?_
    refine f_goto C (t := 22) dX1_find_6 (by decide) ?_
    refine f_istore C (lv2 := [(4, .int 12), (0, .ref (B + a0)), (1, .long x1), (3, .int x3)]) dX1_find_22 (by decide) rfl rfl ?_
    refine f_iload_n C (j := 3) dX1_find_24 rfl rfl rfl ?_
    refine f_istore C (lv2 := [(5, .int x3), (4, .int 12), (0, .ref (B + a0)), (1, .long x1), (3, .int x3)]) dX1_find_25 (by decide) rfl rfl ?_
    refine f_lv C (lv2 := [(0, .ref (B + a0)), (1, .long x1), (3, .int x3), (4, .int 12), (5, .int x3)]) [2, 3, 4, 1, 0] rfl ?_
    exact Lp_sound (fun s : Int32 × Sto => E 27 [(0, .ref (B + a0)), (1, .long x1), (3, .int x3), (4, .int 12), (5, .int s.1)] [] s.2) h (fun K s hK h => s_X1_find_27 C a0 x1 x3 12 s.1 K (fun x5 σ hk => hK (x5, σ) hk) s.2 h)
theorem c_X1_find (a0 : Nat) (x1 : Int64) (x3 : Int32) (σ : Sto) (P : Int32 → Sto → Prop) (h : w_X1_find a0 x1 x3 σ P) : Ct yX1_find cX1_find 6 (some .int) 0 0 (fun B => [.ref (B + a0), .long x1, .int x3]) σ (QFi P) := Ct.of (by decide) (fun _ => Nat.le_of_ble_eq_true rfl) (fun B E C => s_X1_find C a0 x1 x3 σ h)
def w_X1_worthOf_4 (K4 : Int32 × Int32 × Sto → Prop) (a0 : Nat) (x1 : Int32) (x2 : Int32) (x3 : Int32) (σ : Sto) (P : Int32 → Sto → Prop) : Prop :=
  isCity a0 ∧ (if (gi σ a0 8) ≤ x3 then P x2 σ else (if ((x1 >>> (x3 &&& 31)) &&& 1) = 0 then ∀ x3_4 : Int32, x3_4 = x3 + 1 → K4 (x2, x3_4, σ) else vp_in x3 12 ∧ ∀ x2_7 : Int32, x2_7 = x2 + (gi σ (a0 + 2) (tn x3)) → ∀ x3_9 : Int32, x3_9 = x3 + 1 → K4 (x2_7, x3_9, σ)))
theorem s_X1_worthOf_4 {B : Nat} {E : Nat → List (Nat × Value) → List Value → Sto → Prop} {P : Int32 → Sto → Prop} (C : Cy B E RX1 cX1_worthOf 4 (some .int) 0 0 (Zm (QFi P))) (a0 : Nat) (x1 : Int32) (x2 : Int32) (x3 : Int32) (K4 : Int32 × Int32 × Sto → Prop) (hK4 : ∀ (x2 : Int32) (x3 : Int32) (σ : Sto), K4 (x2, x3, σ) → E 4 [(0, .ref (B + a0)), (1, .int x1), (2, .int x2), (3, .int x3)] [] σ) (σ : Sto) (h : w_X1_worthOf_4 K4 a0 x1 x2 x3 σ P) : E 4 [(0, .ref (B + a0)), (1, .int x1), (2, .int x2), (3, .int x3)] [] σ := by
  unfold w_X1_worthOf_4 at h
  refine f_iload_n C (j := 3) dX1_worthOf_4 rfl rfl rfl ?_
  refine f_aload_n C (j := 0) dX1_worthOf_5 rfl rfl rfl ?_
  obtain ⟨hc_1, h⟩ := h
  refine f_geti C tF_X1_41 rfl hc_1.o dX1_worthOf_6 rfl ?_
  refine f_icmp_ge C (t := 35) dX1_worthOf_9 (by decide) rfl (fun hq_2 => ?_) (fun hq_2 => ?_)
  · replace h := Eq.mp (if_pos hq_2) h
    refine f_iload_n C (j := 2) dX1_worthOf_35 rfl rfl rfl ?_
    exact f_iret C dX1_worthOf_36 h
  · replace h := Eq.mp (if_neg hq_2) h
    refine f_iload_n C (j := 1) dX1_worthOf_12 rfl rfl rfl ?_
    refine f_iload_n C (j := 3) dX1_worthOf_13 rfl rfl rfl ?_
    refine f_ishr C dX1_worthOf_14 rfl ?_
    refine f_iconst C (v := 1) dX1_worthOf_15 kc1 rfl ?_
    refine f_iand C dX1_worthOf_16 rfl ?_
    refine f_if_eq C (t := 29) dX1_worthOf_17 (by decide) rfl (fun hq_3 => ?_) (fun hq_3 => ?_)
    · replace h := Eq.mp (if_pos hq_3) h
      obtain ⟨x3_4, hx_5⟩ : ∃ y : Int32, y = x3 + 1 := ⟨_, rfl⟩
      replace h := h x3_4 hx_5
      refine f_iinc C (j := 3) (v := x3_4) (lv2 := [(3, .int x3_4), (0, .ref (B + a0)), (1, .int x1), (2, .int x2)]) dX1_worthOf_29 rfl hx_5.symm (by decide) rfl rfl ?_
      refine f_goto C (t := 4) dX1_worthOf_32 (by decide) ?_
      refine f_lv C (lv2 := [(0, .ref (B + a0)), (1, .int x1), (2, .int x2), (3, .int x3_4)]) [1, 2, 3, 0] rfl ?_
      exact hK4 _ _ _ h
    · replace h := Eq.mp (if_neg hq_3) h
      refine f_iload_n C (j := 2) dX1_worthOf_20 rfl rfl rfl ?_
      refine f_aload_n C (j := 0) dX1_worthOf_21 rfl rfl rfl ?_
      refine f_getc C tF_X1_15 rfl hc_1.o hc_1.c1 (Nat.succ_ne_zero _) dX1_worthOf_22 rfl ?_
      refine f_iload_n C (j := 3) dX1_worthOf_25 rfl rfl rfl ?_
      obtain ⟨hi_6, h⟩ := h
      refine f_iald C (j := tn x3) hc_1.a1 hi_6 rfl dX1_worthOf_26 rfl ?_
      refine f_iadd C dX1_worthOf_27 rfl ?_
      refine f_name (fun x2_7 hx_8 => ?_)
      replace h := h x2_7 hx_8
      refine f_istore_n C (lv2 := [(2, .int x2_7), (0, .ref (B + a0)), (1, .int x1), (3, .int x3)]) dX1_worthOf_28 rfl (by decide) rfl rfl ?_
      obtain ⟨x3_9, hx_10⟩ : ∃ y : Int32, y = x3 + 1 := ⟨_, rfl⟩
      replace h := h x3_9 hx_10
      refine f_iinc C (j := 3) (v := x3_9) (lv2 := [(3, .int x3_9), (2, .int x2_7), (0, .ref (B + a0)), (1, .int x1)]) dX1_worthOf_29 rfl hx_10.symm (by decide) rfl rfl ?_
      refine f_goto C (t := 4) dX1_worthOf_32 (by decide) ?_
      refine f_lv C (lv2 := [(0, .ref (B + a0)), (1, .int x1), (2, .int x2_7), (3, .int x3_9)]) [2, 3, 1, 0] rfl ?_
      exact hK4 _ _ _ h
def w_X1_worthOf (a0 : Nat) (x1 : Int32) (σ : Sto) (P : Int32 → Sto → Prop) : Prop :=
  Lp (fun (K : Int32 × Int32 × Sto → Prop) s => w_X1_worthOf_4 K a0 x1 s.1 s.2.1 s.2.2 P) (0, 0, σ)
theorem s_X1_worthOf {B : Nat} {E : Nat → List (Nat × Value) → List Value → Sto → Prop} {P : Int32 → Sto → Prop} (C : Cy B E RX1 cX1_worthOf 4 (some .int) 0 0 (Zm (QFi P))) (a0 : Nat) (x1 : Int32) (σ : Sto) (h : w_X1_worthOf a0 x1 σ P) : E 0 [(0, .ref (B + a0)), (1, .int x1)] [] σ := by
  unfold w_X1_worthOf at h
  refine f_iconst C (v := 0) dX1_worthOf_0 kc0 rfl ?_
  refine f_istore_n C (lv2 := [(2, .int 0), (0, .ref (B + a0)), (1, .int x1)]) dX1_worthOf_1 rfl (by decide) rfl rfl ?_
  refine f_iconst C (v := 0) dX1_worthOf_2 kc0 rfl ?_
  refine f_istore_n C (lv2 := [(3, .int 0), (2, .int 0), (0, .ref (B + a0)), (1, .int x1)]) dX1_worthOf_3 rfl (by decide) rfl rfl ?_
  refine f_lv C (lv2 := [(0, .ref (B + a0)), (1, .int x1), (2, .int 0), (3, .int 0)]) [2, 3, 1, 0] rfl ?_
  exact Lp_sound (fun s : Int32 × Int32 × Sto => E 4 [(0, .ref (B + a0)), (1, .int x1), (2, .int s.1), (3, .int s.2.1)] [] s.2.2) h (fun K s hK h => s_X1_worthOf_4 C a0 x1 s.1 s.2.1 K (fun x2 x3 σ hk => hK (x2, x3, σ) hk) s.2.2 h)
theorem c_X1_worthOf (a0 : Nat) (x1 : Int32) (σ : Sto) (P : Int32 → Sto → Prop) (h : w_X1_worthOf a0 x1 σ P) : Ct yX1_worthOf cX1_worthOf 4 (some .int) 0 0 (fun B => [.ref (B + a0), .int x1]) σ (QFi P) := Ct.of (by decide) (fun _ => Nat.le_of_ble_eq_true rfl) (fun B E C => s_X1_worthOf C a0 x1 σ h)
def w_X1_makingsOf_4 (K4 : Int32 × Int32 × Sto → Prop) (a0 : Nat) (x1 : Int32) (x2 : Int32) (x3 : Int32) (σ : Sto) (P : Int32 → Sto → Prop) : Prop :=
  isCity a0 ∧ (if (gi σ a0 9) ≤ x3 then P x2 σ else vp_in x3 16 ∧ (if (gi σ (a0 + 3) (tn x3)) = x1 then ∀ x2_7 : Int32, x2_7 = x2 ||| (1 <<< (x3 &&& 31)) → ∀ x3_9 : Int32, x3_9 = x3 + 1 → K4 (x2_7, x3_9, σ) else ∀ x3_5 : Int32, x3_5 = x3 + 1 → K4 (x2, x3_5, σ)))
theorem s_X1_makingsOf_4 {B : Nat} {E : Nat → List (Nat × Value) → List Value → Sto → Prop} {P : Int32 → Sto → Prop} (C : Cy B E RX1 cX1_makingsOf 4 (some .int) 0 0 (Zm (QFi P))) (a0 : Nat) (x1 : Int32) (x2 : Int32) (x3 : Int32) (K4 : Int32 × Int32 × Sto → Prop) (hK4 : ∀ (x2 : Int32) (x3 : Int32) (σ : Sto), K4 (x2, x3, σ) → E 4 [(0, .ref (B + a0)), (1, .int x1), (2, .int x2), (3, .int x3)] [] σ) (σ : Sto) (h : w_X1_makingsOf_4 K4 a0 x1 x2 x3 σ P) : E 4 [(0, .ref (B + a0)), (1, .int x1), (2, .int x2), (3, .int x3)] [] σ := by
  unfold w_X1_makingsOf_4 at h
  refine f_iload_n C (j := 3) dX1_makingsOf_4 rfl rfl rfl ?_
  refine f_aload_n C (j := 0) dX1_makingsOf_5 rfl rfl rfl ?_
  obtain ⟨hc_1, h⟩ := h
  refine f_geti C tF_X1_45 rfl hc_1.o dX1_makingsOf_6 rfl ?_
  refine f_icmp_ge C (t := 34) dX1_makingsOf_9 (by decide) rfl (fun hq_2 => ?_) (fun hq_2 => ?_)
  · replace h := Eq.mp (if_pos hq_2) h
    refine f_iload_n C (j := 2) dX1_makingsOf_34 rfl rfl rfl ?_
    exact f_iret C dX1_makingsOf_35 h
  · replace h := Eq.mp (if_neg hq_2) h
    refine f_aload_n C (j := 0) dX1_makingsOf_12 rfl rfl rfl ?_
    refine f_getc C tF_X1_19 rfl hc_1.o hc_1.c2 (Nat.succ_ne_zero _) dX1_makingsOf_13 rfl ?_
    refine f_iload_n C (j := 3) dX1_makingsOf_16 rfl rfl rfl ?_
    obtain ⟨hi_3, h⟩ := h
    refine f_iald C (j := tn x3) hc_1.a2 hi_3 rfl dX1_makingsOf_17 rfl ?_
    refine f_iload_n C (j := 1) dX1_makingsOf_18 rfl rfl rfl ?_
    refine f_icmp_ne C (t := 28) dX1_makingsOf_19 (by decide) rfl (fun hq_4 => ?_) (fun hq_4 => ?_)
    · replace h := Eq.mp (if_neg hq_4) h
      obtain ⟨x3_5, hx_6⟩ : ∃ y : Int32, y = x3 + 1 := ⟨_, rfl⟩
      replace h := h x3_5 hx_6
      refine f_iinc C (j := 3) (v := x3_5) (lv2 := [(3, .int x3_5), (0, .ref (B + a0)), (1, .int x1), (2, .int x2)]) dX1_makingsOf_28 rfl hx_6.symm (by decide) rfl rfl ?_
      refine f_goto C (t := 4) dX1_makingsOf_31 (by decide) ?_
      refine f_lv C (lv2 := [(0, .ref (B + a0)), (1, .int x1), (2, .int x2), (3, .int x3_5)]) [1, 2, 3, 0] rfl ?_
      exact hK4 _ _ _ h
    · replace h := Eq.mp (if_pos hq_4) h
      refine f_iload_n C (j := 2) dX1_makingsOf_22 rfl rfl rfl ?_
      refine f_iconst C (v := 1) dX1_makingsOf_23 kc1 rfl ?_
      refine f_iload_n C (j := 3) dX1_makingsOf_24 rfl rfl rfl ?_
      refine f_ishl C dX1_makingsOf_25 rfl ?_
      refine f_ior C dX1_makingsOf_26 rfl ?_
      refine f_name (fun x2_7 hx_8 => ?_)
      replace h := h x2_7 hx_8
      refine f_istore_n C (lv2 := [(2, .int x2_7), (0, .ref (B + a0)), (1, .int x1), (3, .int x3)]) dX1_makingsOf_27 rfl (by decide) rfl rfl ?_
      obtain ⟨x3_9, hx_10⟩ : ∃ y : Int32, y = x3 + 1 := ⟨_, rfl⟩
      replace h := h x3_9 hx_10
      refine f_iinc C (j := 3) (v := x3_9) (lv2 := [(3, .int x3_9), (2, .int x2_7), (0, .ref (B + a0)), (1, .int x1)]) dX1_makingsOf_28 rfl hx_10.symm (by decide) rfl rfl ?_
      refine f_goto C (t := 4) dX1_makingsOf_31 (by decide) ?_
      refine f_lv C (lv2 := [(0, .ref (B + a0)), (1, .int x1), (2, .int x2_7), (3, .int x3_9)]) [2, 3, 1, 0] rfl ?_
      exact hK4 _ _ _ h
def w_X1_makingsOf (a0 : Nat) (x1 : Int32) (σ : Sto) (P : Int32 → Sto → Prop) : Prop :=
  Lp (fun (K : Int32 × Int32 × Sto → Prop) s => w_X1_makingsOf_4 K a0 x1 s.1 s.2.1 s.2.2 P) (0, 0, σ)
theorem s_X1_makingsOf {B : Nat} {E : Nat → List (Nat × Value) → List Value → Sto → Prop} {P : Int32 → Sto → Prop} (C : Cy B E RX1 cX1_makingsOf 4 (some .int) 0 0 (Zm (QFi P))) (a0 : Nat) (x1 : Int32) (σ : Sto) (h : w_X1_makingsOf a0 x1 σ P) : E 0 [(0, .ref (B + a0)), (1, .int x1)] [] σ := by
  unfold w_X1_makingsOf at h
  refine f_iconst C (v := 0) dX1_makingsOf_0 kc0 rfl ?_
  refine f_istore_n C (lv2 := [(2, .int 0), (0, .ref (B + a0)), (1, .int x1)]) dX1_makingsOf_1 rfl (by decide) rfl rfl ?_
  refine f_iconst C (v := 0) dX1_makingsOf_2 kc0 rfl ?_
  refine f_istore_n C (lv2 := [(3, .int 0), (2, .int 0), (0, .ref (B + a0)), (1, .int x1)]) dX1_makingsOf_3 rfl (by decide) rfl rfl ?_
  refine f_lv C (lv2 := [(0, .ref (B + a0)), (1, .int x1), (2, .int 0), (3, .int 0)]) [2, 3, 1, 0] rfl ?_
  exact Lp_sound (fun s : Int32 × Int32 × Sto => E 4 [(0, .ref (B + a0)), (1, .int x1), (2, .int s.1), (3, .int s.2.1)] [] s.2.2) h (fun K s hK h => s_X1_makingsOf_4 C a0 x1 s.1 s.2.1 K (fun x2 x3 σ hk => hK (x2, x3, σ) hk) s.2.2 h)
theorem c_X1_makingsOf (a0 : Nat) (x1 : Int32) (σ : Sto) (P : Int32 → Sto → Prop) (h : w_X1_makingsOf a0 x1 σ P) : Ct yX1_makingsOf cX1_makingsOf 4 (some .int) 0 0 (fun B => [.ref (B + a0), .int x1]) σ (QFi P) := Ct.of (by decide) (fun _ => Nat.le_of_ble_eq_true rfl) (fun B E C => s_X1_makingsOf C a0 x1 σ h)
def w_X9_readWord_110 (K110 : Int32 × Sto → Prop) (x1 : Int32) (σ : Sto) (P : Sto → Prop) : Prop :=
  (if 23 ≤ x1 then P σ else (if (gi σ 10 5) = 2 then vp_in x1 23 ∧ (if (lg_cmp (gl σ 12 (tn x1)) (gl σ 10 8)) = 0 then ∀ x1_9 : Int32, x1_9 = x1 + 1 → K110 (x1_9, si (si σ 10 5 3) 10 7 x1) else ∀ x1_7 : Int32, x1_7 = x1 + 1 → K110 (x1_7, σ)) else P σ))
theorem s_X9_readWord_110 {B : Nat} {E : Nat → List (Nat × Value) → List Value → Sto → Prop} {P : Sto → Prop} (C : Cy B E RX9 cX9_readWord 2 none 0 0 (Zm (QFv P))) (x1 : Int32) (K110 : Int32 × Sto → Prop) (hK110 : ∀ (x1 : Int32) (σ : Sto), K110 (x1, σ) → E 110 [(0, .ref (B + 10)), (1, .int x1)] [] σ) (σ : Sto) (h : w_X9_readWord_110 K110 x1 σ P) : E 110 [(0, .ref (B + 10)), (1, .int x1)] [] σ := by
  unfold w_X9_readWord_110 at h
  refine f_iload_n C (j := 1) dX9_readWord_110 rfl rfl rfl ?_
  refine f_bipush C (v := 23) dX9_readWord_111 kb23 rfl ?_
  refine f_icmp_ge C (t := 154) dX9_readWord_113 (by decide) rfl (fun hq_3 => ?_) (fun hq_3 => ?_)
  · replace h := Eq.mp (if_pos hq_3) h
    exact f_vret C dX9_readWord_154 h
  · replace h := Eq.mp (if_neg hq_3) h
    refine f_aload_n C (j := 0) dX9_readWord_116 rfl rfl rfl ?_
    refine f_geti C tF_X9_40 rfl o10 dX9_readWord_117 rfl ?_
    refine f_iconst C (v := 2) dX9_readWord_120 kc2 rfl ?_
    refine f_icmp_ne C (t := 154) dX9_readWord_121 (by decide) rfl (fun hq_4 => ?_) (fun hq_4 => ?_)
    · replace h := Eq.mp (if_neg hq_4) h
      exact f_vret C dX9_readWord_154 h
    · replace h := Eq.mp (if_pos hq_4) h
      refine f_aload_n C (j := 0) dX9_readWord_124 rfl rfl rfl ?_
      refine f_getc C tF_X9_15 rfl o10 cs10_1 (by decide) dX9_readWord_125 rfl ?_
      refine f_iload_n C (j := 1) dX9_readWord_128 rfl rfl rfl ?_
      obtain ⟨hi_5, h⟩ := h
      refine f_lald C (j := tn x1) a12 hi_5 rfl dX9_readWord_129 rfl ?_
      refine f_aload_n C (j := 0) dX9_readWord_130 rfl rfl rfl ?_
      refine f_getl C tF_X9_49 rfl o10 dX9_readWord_131 rfl ?_
      refine f_lcmp C dX9_readWord_134 rfl ?_
      refine f_if_ne C (t := 148) dX9_readWord_135 (by decide) rfl (fun hq_6 => ?_) (fun hq_6 => ?_)
      · replace h := Eq.mp (if_neg hq_6) h
        obtain ⟨x1_7, hx_8⟩ : ∃ y : Int32, y = x1 + 1 := ⟨_, rfl⟩
        replace h := h x1_7 hx_8
        refine f_iinc C (j := 1) (v := x1_7) (lv2 := [(1, .int x1_7), (0, .ref (B + 10))]) dX9_readWord_148 rfl hx_8.symm (by decide) rfl rfl ?_
        refine f_goto C (t := 110) dX9_readWord_151 (by decide) ?_
        refine f_lv C (lv2 := [(0, .ref (B + 10)), (1, .int x1_7)]) [1, 0] rfl ?_
        exact hK110 _ _ h
      · replace h := Eq.mp (if_pos hq_6) h
        refine f_aload_n C (j := 0) dX9_readWord_138 rfl rfl rfl ?_
        refine f_iconst C (v := 3) dX9_readWord_139 kc3 rfl ?_
        refine f_puti C tF_X9_40 fm_9_5 rfl o10 dX9_readWord_140 rfl ?_
        refine f_aload_n C (j := 0) dX9_readWord_143 rfl rfl rfl ?_
        refine f_iload_n C (j := 1) dX9_readWord_144 rfl rfl rfl ?_
        refine f_puti C tF_X9_46 fm_9_7 rfl o10 dX9_readWord_145 rfl ?_
        obtain ⟨x1_9, hx_10⟩ : ∃ y : Int32, y = x1 + 1 := ⟨_, rfl⟩
        replace h := h x1_9 hx_10
        refine f_iinc C (j := 1) (v := x1_9) (lv2 := [(1, .int x1_9), (0, .ref (B + 10))]) dX9_readWord_148 rfl hx_10.symm (by decide) rfl rfl ?_
        refine f_goto C (t := 110) dX9_readWord_151 (by decide) ?_
        refine f_lv C (lv2 := [(0, .ref (B + 10)), (1, .int x1_9)]) [1, 0] rfl ?_
        exact hK110 _ _ h
def w_X9_readWord_83 (σ : Sto) (P : Sto → Prop) : Prop :=
  (if ((gi σ 10 4) - (gi σ 10 6)) ≤ 8 then Lp (fun (K : Int32 × Sto → Prop) s => w_X9_readWord_110 K s.1 s.2 P) (0, si σ 10 5 2) else P (si σ 10 5 4))
theorem s_X9_readWord_83 {B : Nat} {E : Nat → List (Nat × Value) → List Value → Sto → Prop} {P : Sto → Prop} (C : Cy B E RX9 cX9_readWord 2 none 0 0 (Zm (QFv P))) (σ : Sto) (h : w_X9_readWord_83 σ P) : E 83 [(0, .ref (B + 10))] [] σ := by
  unfold w_X9_readWord_83 at h
  refine f_aload_n C (j := 0) dX9_readWord_83 rfl rfl rfl ?_
  refine f_geti C tF_X9_37 rfl o10 dX9_readWord_84 rfl ?_
  refine f_aload_n C (j := 0) dX9_readWord_87 rfl rfl rfl ?_
  refine f_geti C tF_X9_43 rfl o10 dX9_readWord_88 rfl ?_
  refine f_isub C dX9_readWord_91 rfl ?_
  refine f_bipush C (v := 8) dX9_readWord_92 kb8 rfl ?_
  refine f_icmp_le C (t := 103) dX9_readWord_94 (by decide) rfl (fun hq_2 => ?_) (fun hq_2 => ?_)
  · replace h := Eq.mp (if_pos hq_2) h
    refine f_aload_n C (j := 0) dX9_readWord_103 rfl rfl rfl ?_
    refine f_iconst C (v := 2) dX9_readWord_104 kc2 rfl ?_
    refine f_puti C tF_X9_40 fm_9_5 rfl o10 dX9_readWord_105 rfl ?_
    refine f_iconst C (v := 0) dX9_readWord_108 kc0 rfl ?_
    refine f_istore_n C (lv2 := [(1, .int 0), (0, .ref (B + 10))]) dX9_readWord_109 rfl (by decide) rfl rfl ?_
    refine f_lv C (lv2 := [(0, .ref (B + 10)), (1, .int 0)]) [1, 0] rfl ?_
    exact Lp_sound (fun s : Int32 × Sto => E 110 [(0, .ref (B + 10)), (1, .int s.1)] [] s.2) h (fun K s hK h => s_X9_readWord_110 C s.1 K (fun x1 σ hk => hK (x1, σ) hk) s.2 h)
  · replace h := Eq.mp (if_neg hq_2) h
    refine f_aload_n C (j := 0) dX9_readWord_97 rfl rfl rfl ?_
    refine f_iconst C (v := 4) dX9_readWord_98 kc4 rfl ?_
    refine f_puti C tF_X9_40 fm_9_5 rfl o10 dX9_readWord_99 rfl ?_
    exact f_vret C dX9_readWord_102 h
def w_X9_readWord_5 (K5 : Sto → Prop) (σ : Sto) (P : Sto → Prop) : Prop :=
  (if (gi σ 10 3) ≤ (gi σ 10 4) then w_X9_readWord_83 σ P else vp_in (gi σ 10 4) 900 ∧ (if (gi σ 11 (tn (gi σ 10 4))) < 97 then w_X9_readWord_83 σ P else (if 122 < (gi σ 11 (tn (gi σ 10 4))) then w_X9_readWord_83 σ P else ∀ σ_14 : Sto, σ_14 = sl σ 10 8 (((gl σ 10 8) <<< ((5 : Int32).toInt64 &&& 63)) ||| ((((gi σ 11 (tn (gi σ 10 4))) - 97) + 1).toInt64)) → K5 (si σ_14 10 4 ((gi σ_14 10 4) + 1)))))
theorem s_X9_readWord_5 {B : Nat} {E : Nat → List (Nat × Value) → List Value → Sto → Prop} {P : Sto → Prop} (C : Cy B E RX9 cX9_readWord 2 none 0 0 (Zm (QFv P))) (K5 : Sto → Prop) (hK5 : ∀ (σ : Sto), K5 (σ) → E 5 [(0, .ref (B + 10))] [] σ) (σ : Sto) (h : w_X9_readWord_5 K5 σ P) : E 5 [(0, .ref (B + 10))] [] σ := by
  unfold w_X9_readWord_5 at h
  refine f_aload_n C (j := 0) dX9_readWord_5 rfl rfl rfl ?_
  refine f_geti C tF_X9_37 rfl o10 dX9_readWord_6 rfl ?_
  refine f_aload_n C (j := 0) dX9_readWord_9 rfl rfl rfl ?_
  refine f_geti C tF_X9_35 rfl o10 dX9_readWord_10 rfl ?_
  refine f_icmp_ge C (t := 83) dX9_readWord_13 (by decide) rfl (fun hq_1 => ?_) (fun hq_1 => ?_)
  · replace h := Eq.mp (if_pos hq_1) h
    exact s_X9_readWord_83 C  _ h
  · replace h := Eq.mp (if_neg hq_1) h
    refine f_aload_n C (j := 0) dX9_readWord_16 rfl rfl rfl ?_
    refine f_getc C tF_X9_11 rfl o10 cs10_0 (by decide) dX9_readWord_17 rfl ?_
    refine f_aload_n C (j := 0) dX9_readWord_20 rfl rfl rfl ?_
    refine f_geti C tF_X9_37 rfl o10 dX9_readWord_21 rfl ?_
    obtain ⟨hi_11, h⟩ := h
    refine f_bald C (j := tn (gi σ 10 4)) a11 hi_11 rfl dX9_readWord_24 rfl ?_
    refine f_bipush C (v := 97) dX9_readWord_25 kb97 rfl ?_
    refine f_icmp_lt C (t := 83) dX9_readWord_27 (by decide) rfl (fun hq_12 => ?_) (fun hq_12 => ?_)
    · replace h := Eq.mp (if_pos hq_12) h
      exact s_X9_readWord_83 C  _ h
    · replace h := Eq.mp (if_neg hq_12) h
      refine f_aload_n C (j := 0) dX9_readWord_30 rfl rfl rfl ?_
      refine f_getc C tF_X9_11 rfl o10 cs10_0 (by decide) dX9_readWord_31 rfl ?_
      refine f_aload_n C (j := 0) dX9_readWord_34 rfl rfl rfl ?_
      refine f_geti C tF_X9_37 rfl o10 dX9_readWord_35 rfl ?_
      refine f_bald C (j := tn (gi σ 10 4)) a11 hi_11 rfl dX9_readWord_38 rfl ?_
      refine f_bipush C (v := 122) dX9_readWord_39 kb122 rfl ?_
      refine f_icmp_gt C (t := 83) dX9_readWord_41 (by decide) rfl (fun hq_13 => ?_) (fun hq_13 => ?_)
      · replace h := Eq.mp (if_pos hq_13) h
        exact s_X9_readWord_83 C  _ h
      · replace h := Eq.mp (if_neg hq_13) h
        refine f_aload_n C (j := 0) dX9_readWord_44 rfl rfl rfl ?_
        refine f_aload_n C (j := 0) dX9_readWord_45 rfl rfl rfl ?_
        refine f_getl C tF_X9_49 rfl o10 dX9_readWord_46 rfl ?_
        refine f_iconst C (v := 5) dX9_readWord_49 kc5 rfl ?_
        refine f_lshl C dX9_readWord_50 rfl ?_
        refine f_aload_n C (j := 0) dX9_readWord_51 rfl rfl rfl ?_
        refine f_getc C tF_X9_11 rfl o10 cs10_0 (by decide) dX9_readWord_52 rfl ?_
        refine f_aload_n C (j := 0) dX9_readWord_55 rfl rfl rfl ?_
        refine f_geti C tF_X9_37 rfl o10 dX9_readWord_56 rfl ?_
        refine f_bald C (j := tn (gi σ 10 4)) a11 hi_11 rfl dX9_readWord_59 rfl ?_
        refine f_bipush C (v := 97) dX9_readWord_60 kb97 rfl ?_
        refine f_isub C dX9_readWord_62 rfl ?_
        refine f_iconst C (v := 1) dX9_readWord_63 kc1 rfl ?_
        refine f_iadd C dX9_readWord_64 rfl ?_
        refine f_i2l C dX9_readWord_65 rfl ?_
        refine f_lor C dX9_readWord_66 rfl ?_
        refine f_putl C tF_X9_49 fm_9_8 rfl o10 dX9_readWord_67 rfl ?_
        refine f_aload_n C (j := 0) dX9_readWord_70 rfl rfl rfl ?_
        refine f_dup C dX9_readWord_71 rfl rfl ?_
        refine f_names (fun σ_14 hσ_15 => ?_)
        replace h := h σ_14 hσ_15
        refine f_geti C tF_X9_37 rfl o10 dX9_readWord_72 rfl ?_
        refine f_iconst C (v := 1) dX9_readWord_75 kc1 rfl ?_
        refine f_iadd C dX9_readWord_76 rfl ?_
        refine f_puti C tF_X9_37 fm_9_4 rfl o10 dX9_readWord_77 rfl ?_
        refine f_goto C (t := 5) dX9_readWord_80 (by decide) ?_
        exact hK5  _ h
def w_X9_readWord (σ : Sto) (P : Sto → Prop) : Prop :=
  Lp (fun (K : Sto → Prop) s => w_X9_readWord_5 K  s P) (sl σ 10 8 0)
theorem s_X9_readWord {B : Nat} {E : Nat → List (Nat × Value) → List Value → Sto → Prop} {P : Sto → Prop} (C : Cy B E RX9 cX9_readWord 2 none 0 0 (Zm (QFv P))) (σ : Sto) (h : w_X9_readWord σ P) : E 0 [(0, .ref (B + 10))] [] σ := by
  unfold w_X9_readWord at h
  refine f_aload_n C (j := 0) dX9_readWord_0 rfl rfl rfl ?_
  refine f_lconst C (v := 0) dX9_readWord_1 (by decide) rfl ?_
  refine f_putl C tF_X9_49 fm_9_8 rfl o10 dX9_readWord_2 rfl ?_
  exact Lp_sound (fun s : Sto => E 5 [(0, .ref (B + 10))] [] s) h (fun K s hK h => s_X9_readWord_5 C  K (fun σ hk => hK σ hk) s h)
theorem c_X9_readWord (σ : Sto) (P : Sto → Prop) (h : w_X9_readWord σ P) : Ct yX9_readWord cX9_readWord 2 none 0 0 (fun B => [.ref (B + 10)]) σ (QFv P) := Ct.of (by decide) (fun _ => Nat.le_of_ble_eq_true rfl) (fun B E C => s_X9_readWord C σ h)
def w_X9_readNumber_72 (x1 : Int32) (σ : Sto) (P : Sto → Prop) : Prop :=
  (if ((gi σ 10 4) - (gi σ 10 6)) ≤ 4 then P (si (si σ 10 5 5) 10 7 x1) else P (si (si σ 10 5 1) 10 7 x1))
theorem s_X9_readNumber_72 {B : Nat} {E : Nat → List (Nat × Value) → List Value → Sto → Prop} {P : Sto → Prop} (C : Cy B E RX9 cX9_readNumber 2 none 0 0 (Zm (QFv P))) (x1 : Int32) (σ : Sto) (h : w_X9_readNumber_72 x1 σ P) : E 72 [(0, .ref (B + 10)), (1, .int x1)] [] σ := by
  unfold w_X9_readNumber_72 at h
  refine f_aload_n C (j := 0) dX9_readNumber_72 rfl rfl rfl ?_
  refine f_aload_n C (j := 0) dX9_readNumber_73 rfl rfl rfl ?_
  refine f_geti C tF_X9_37 rfl o10 dX9_readNumber_74 rfl ?_
  refine f_aload_n C (j := 0) dX9_readNumber_77 rfl rfl rfl ?_
  refine f_geti C tF_X9_43 rfl o10 dX9_readNumber_78 rfl ?_
  refine f_isub C dX9_readNumber_81 rfl ?_
  refine f_iconst C (v := 4) dX9_readNumber_82 kc4 rfl ?_
  refine f_icmp_le C (t := 90) dX9_readNumber_83 (by decide) rfl (fun hq_2 => ?_) (fun hq_2 => ?_)
  · replace h := Eq.mp (if_pos hq_2) h
    refine f_iconst C (v := 5) dX9_readNumber_90 kc5 rfl ?_
    refine f_puti C tF_X9_40 fm_9_5 rfl o10 dX9_readNumber_91 rfl ?_
    refine f_aload_n C (j := 0) dX9_readNumber_94 rfl rfl rfl ?_
    refine f_iload_n C (j := 1) dX9_readNumber_95 rfl rfl rfl ?_
    refine f_puti C tF_X9_46 fm_9_7 rfl o10 dX9_readNumber_96 rfl ?_
    exact f_vret C dX9_readNumber_99 h
  · replace h := Eq.mp (if_neg hq_2) h
    refine f_iconst C (v := 1) dX9_readNumber_86 kc1 rfl ?_
    refine f_goto C (t := 91) dX9_readNumber_87 (by decide) ?_
    refine f_puti C tF_X9_40 fm_9_5 rfl o10 dX9_readNumber_91 rfl ?_
    refine f_aload_n C (j := 0) dX9_readNumber_94 rfl rfl rfl ?_
    refine f_iload_n C (j := 1) dX9_readNumber_95 rfl rfl rfl ?_
    refine f_puti C tF_X9_46 fm_9_7 rfl o10 dX9_readNumber_96 rfl ?_
    exact f_vret C dX9_readNumber_99 h
def w_X9_readNumber_2 (K2 : Int32 × Sto → Prop) (x1 : Int32) (σ : Sto) (P : Sto → Prop) : Prop :=
  (if (gi σ 10 3) ≤ (gi σ 10 4) then w_X9_readNumber_72 x1 σ P else vp_in (gi σ 10 4) 900 ∧ (if (gi σ 11 (tn (gi σ 10 4))) < 48 then w_X9_readNumber_72 x1 σ P else (if 57 < (gi σ 11 (tn (gi σ 10 4))) then w_X9_readNumber_72 x1 σ P else ∀ x1_6 : Int32, x1_6 = ((x1 * 10) + (gi σ 11 (tn (gi σ 10 4)))) - 48 → K2 (x1_6, si σ 10 4 ((gi σ 10 4) + 1)))))
theorem s_X9_readNumber_2 {B : Nat} {E : Nat → List (Nat × Value) → List Value → Sto → Prop} {P : Sto → Prop} (C : Cy B E RX9 cX9_readNumber 2 none 0 0 (Zm (QFv P))) (x1 : Int32) (K2 : Int32 × Sto → Prop) (hK2 : ∀ (x1 : Int32) (σ : Sto), K2 (x1, σ) → E 2 [(0, .ref (B + 10)), (1, .int x1)] [] σ) (σ : Sto) (h : w_X9_readNumber_2 K2 x1 σ P) : E 2 [(0, .ref (B + 10)), (1, .int x1)] [] σ := by
  unfold w_X9_readNumber_2 at h
  refine f_aload_n C (j := 0) dX9_readNumber_2 rfl rfl rfl ?_
  refine f_geti C tF_X9_37 rfl o10 dX9_readNumber_3 rfl ?_
  refine f_aload_n C (j := 0) dX9_readNumber_6 rfl rfl rfl ?_
  refine f_geti C tF_X9_35 rfl o10 dX9_readNumber_7 rfl ?_
  refine f_icmp_ge C (t := 72) dX9_readNumber_10 (by decide) rfl (fun hq_1 => ?_) (fun hq_1 => ?_)
  · replace h := Eq.mp (if_pos hq_1) h
    exact s_X9_readNumber_72 C _  _ h
  · replace h := Eq.mp (if_neg hq_1) h
    refine f_aload_n C (j := 0) dX9_readNumber_13 rfl rfl rfl ?_
    refine f_getc C tF_X9_11 rfl o10 cs10_0 (by decide) dX9_readNumber_14 rfl ?_
    refine f_aload_n C (j := 0) dX9_readNumber_17 rfl rfl rfl ?_
    refine f_geti C tF_X9_37 rfl o10 dX9_readNumber_18 rfl ?_
    obtain ⟨hi_3, h⟩ := h
    refine f_bald C (j := tn (gi σ 10 4)) a11 hi_3 rfl dX9_readNumber_21 rfl ?_
    refine f_bipush C (v := 48) dX9_readNumber_22 kb48 rfl ?_
    refine f_icmp_lt C (t := 72) dX9_readNumber_24 (by decide) rfl (fun hq_4 => ?_) (fun hq_4 => ?_)
    · replace h := Eq.mp (if_pos hq_4) h
      exact s_X9_readNumber_72 C _  _ h
    · replace h := Eq.mp (if_neg hq_4) h
      refine f_aload_n C (j := 0) dX9_readNumber_27 rfl rfl rfl ?_
      refine f_getc C tF_X9_11 rfl o10 cs10_0 (by decide) dX9_readNumber_28 rfl ?_
      refine f_aload_n C (j := 0) dX9_readNumber_31 rfl rfl rfl ?_
      refine f_geti C tF_X9_37 rfl o10 dX9_readNumber_32 rfl ?_
      refine f_bald C (j := tn (gi σ 10 4)) a11 hi_3 rfl dX9_readNumber_35 rfl ?_
      refine f_bipush C (v := 57) dX9_readNumber_36 kb57 rfl ?_
      refine f_icmp_gt C (t := 72) dX9_readNumber_38 (by decide) rfl (fun hq_5 => ?_) (fun hq_5 => ?_)
      · replace h := Eq.mp (if_pos hq_5) h
        exact s_X9_readNumber_72 C _  _ h
      · replace h := Eq.mp (if_neg hq_5) h
        refine f_iload_n C (j := 1) dX9_readNumber_41 rfl rfl rfl ?_
        refine f_bipush C (v := 10) dX9_readNumber_42 kb10 rfl ?_
        refine f_imul C dX9_readNumber_44 rfl ?_
        refine f_aload_n C (j := 0) dX9_readNumber_45 rfl rfl rfl ?_
        refine f_getc C tF_X9_11 rfl o10 cs10_0 (by decide) dX9_readNumber_46 rfl ?_
        refine f_aload_n C (j := 0) dX9_readNumber_49 rfl rfl rfl ?_
        refine f_geti C tF_X9_37 rfl o10 dX9_readNumber_50 rfl ?_
        refine f_bald C (j := tn (gi σ 10 4)) a11 hi_3 rfl dX9_readNumber_53 rfl ?_
        refine f_iadd C dX9_readNumber_54 rfl ?_
        refine f_bipush C (v := 48) dX9_readNumber_55 kb48 rfl ?_
        refine f_isub C dX9_readNumber_57 rfl ?_
        refine f_name (fun x1_6 hx_7 => ?_)
        replace h := h x1_6 hx_7
        refine f_istore_n C (lv2 := [(1, .int x1_6), (0, .ref (B + 10))]) dX9_readNumber_58 rfl (by decide) rfl rfl ?_
        refine f_aload_n C (j := 1) dX9_readNumber_59 rfl rfl rfl ?_
        refine f_dup C dX9_readNumber_60 rfl rfl ?_
        refine f_geti C tF_X9_37 rfl o10 dX9_readNumber_61 rfl ?_
        refine f_iconst C (v := 1) dX9_readNumber_64 kc1 rfl ?_
        refine f_iadd C dX9_readNumber_65 rfl ?_
        refine f_puti C tF_X9_37 fm_9_4 rfl o10 dX9_readNumber_66 rfl ?_
        refine f_goto C (t := 2) dX9_readNumber_69 (by decide) ?_
        refine f_lv C (lv2 := [(0, .ref (B + 10)), (1, .int x1_6)]) [1, 0] rfl ?_
        exact hK2 _ _ h
def w_X9_readNumber (σ : Sto) (P : Sto → Prop) : Prop :=
  Lp (fun (K : Int32 × Sto → Prop) s => w_X9_readNumber_2 K s.1 s.2 P) (0, σ)
theorem s_X9_readNumber {B : Nat} {E : Nat → List (Nat × Value) → List Value → Sto → Prop} {P : Sto → Prop} (C : Cy B E RX9 cX9_readNumber 2 none 0 0 (Zm (QFv P))) (σ : Sto) (h : w_X9_readNumber σ P) : E 0 [(0, .ref (B + 10))] [] σ := by
  unfold w_X9_readNumber at h
  refine f_iconst C (v := 0) dX9_readNumber_0 kc0 rfl ?_
  refine f_istore_n C (lv2 := [(1, .int 0), (0, .ref (B + 10))]) dX9_readNumber_1 rfl (by decide) rfl rfl ?_
  refine f_lv C (lv2 := [(0, .ref (B + 10)), (1, .int 0)]) [1, 0] rfl ?_
  exact Lp_sound (fun s : Int32 × Sto => E 2 [(0, .ref (B + 10)), (1, .int s.1)] [] s.2) h (fun K s hK h => s_X9_readNumber_2 C s.1 K (fun x1 σ hk => hK (x1, σ) hk) s.2 h)
theorem c_X9_readNumber (σ : Sto) (P : Sto → Prop) (h : w_X9_readNumber σ P) : Ct yX9_readNumber cX9_readNumber 2 none 0 0 (fun B => [.ref (B + 10)]) σ (QFv P) := Ct.of (by decide) (fun _ => Nat.le_of_ble_eq_true rfl) (fun B E C => s_X9_readNumber C σ h)
def w_X9_readSign (σ : Sto) (P : Sto → Prop) : Prop :=
  vp_in (gi σ 10 4) 900 ∧ ∀ x1_2 : Int32, x1_2 = gi σ 11 (tn (gi σ 10 4)) → (if x1_2 = 59 then P (si (si (si σ 10 4 ((gi σ 10 4) + 1)) 10 5 6) 10 7 x1_2) else (if x1_2 = 60 then P (si (si (si σ 10 4 ((gi σ 10 4) + 1)) 10 5 6) 10 7 x1_2) else (if x1_2 = 62 then P (si (si (si σ 10 4 ((gi σ 10 4) + 1)) 10 5 6) 10 7 x1_2) else (if x1_2 = 61 then P (si (si (si σ 10 4 ((gi σ 10 4) + 1)) 10 5 6) 10 7 x1_2) else P (si (si (si σ 10 4 ((gi σ 10 4) + 1)) 10 5 1) 10 7 x1_2)))))
theorem s_X9_readSign {B : Nat} {E : Nat → List (Nat × Value) → List Value → Sto → Prop} {P : Sto → Prop} (C : Cy B E RX9 cX9_readSign 2 none 0 0 (Zm (QFv P))) (σ : Sto) (h : w_X9_readSign σ P) : E 0 [(0, .ref (B + 10))] [] σ := by
  unfold w_X9_readSign at h
  refine f_aload_n C (j := 0) dX9_readSign_0 rfl rfl rfl ?_
  refine f_getc C tF_X9_11 rfl o10 cs10_0 (by decide) dX9_readSign_1 rfl ?_
  refine f_aload_n C (j := 0) dX9_readSign_4 rfl rfl rfl ?_
  refine f_geti C tF_X9_37 rfl o10 dX9_readSign_5 rfl ?_
  obtain ⟨hi_1, h⟩ := h
  refine f_bald C (j := tn (gi σ 10 4)) a11 hi_1 rfl dX9_readSign_8 rfl ?_
  refine f_name (fun x1_2 hx_3 => ?_)
  replace h := h x1_2 hx_3
  refine f_istore_n C (lv2 := [(1, .int x1_2), (0, .ref (B + 10))]) dX9_readSign_9 rfl (by decide) rfl rfl ?_
  refine f_aload_n C (j := 1) dX9_readSign_10 rfl rfl rfl ?_
  refine f_dup C dX9_readSign_11 rfl rfl ?_
  refine f_geti C tF_X9_37 rfl o10 dX9_readSign_12 rfl ?_
  refine f_iconst C (v := 1) dX9_readSign_15 kc1 rfl ?_
  refine f_iadd C dX9_readSign_16 rfl ?_
  refine f_puti C tF_X9_37 fm_9_4 rfl o10 dX9_readSign_17 rfl ?_
  refine f_aload_n C (j := 1) dX9_readSign_20 rfl rfl rfl ?_
  refine f_iload_n C (j := 0) dX9_readSign_21 rfl rfl rfl ?_
  refine f_bipush C (v := 59) dX9_readSign_22 kb59 rfl ?_
  refine f_icmp_eq C (t := 45) dX9_readSign_24 (by decide) rfl (fun hq_4 => ?_) (fun hq_4 => ?_)
  · replace h := Eq.mp (if_pos hq_4) h
    refine f_bipush C (v := 6) dX9_readSign_45 kb6 rfl ?_
    refine f_goto C (t := 51) dX9_readSign_47 (by decide) ?_
    refine f_puti C tF_X9_40 fm_9_5 rfl o10 dX9_readSign_51 rfl ?_
    refine f_aload_n C (j := 1) dX9_readSign_54 rfl rfl rfl ?_
    refine f_iload_n C (j := 0) dX9_readSign_55 rfl rfl rfl ?_
    refine f_puti C tF_X9_46 fm_9_7 rfl o10 dX9_readSign_56 rfl ?_
    exact f_vret C dX9_readSign_59 h
  · replace h := Eq.mp (if_neg hq_4) h
    refine f_iload_n C (j := 0) dX9_readSign_27 rfl rfl rfl ?_
    refine f_bipush C (v := 60) dX9_readSign_28 kb60 rfl ?_
    refine f_icmp_eq C (t := 45) dX9_readSign_30 (by decide) rfl (fun hq_5 => ?_) (fun hq_5 => ?_)
    · replace h := Eq.mp (if_pos hq_5) h
      refine f_bipush C (v := 6) dX9_readSign_45 kb6 rfl ?_
      refine f_goto C (t := 51) dX9_readSign_47 (by decide) ?_
      refine f_puti C tF_X9_40 fm_9_5 rfl o10 dX9_readSign_51 rfl ?_
      refine f_aload_n C (j := 1) dX9_readSign_54 rfl rfl rfl ?_
      refine f_iload_n C (j := 0) dX9_readSign_55 rfl rfl rfl ?_
      refine f_puti C tF_X9_46 fm_9_7 rfl o10 dX9_readSign_56 rfl ?_
      exact f_vret C dX9_readSign_59 h
    · replace h := Eq.mp (if_neg hq_5) h
      refine f_iload_n C (j := 0) dX9_readSign_33 rfl rfl rfl ?_
      refine f_bipush C (v := 62) dX9_readSign_34 kb62 rfl ?_
      refine f_icmp_eq C (t := 45) dX9_readSign_36 (by decide) rfl (fun hq_6 => ?_) (fun hq_6 => ?_)
      · replace h := Eq.mp (if_pos hq_6) h
        refine f_bipush C (v := 6) dX9_readSign_45 kb6 rfl ?_
        refine f_goto C (t := 51) dX9_readSign_47 (by decide) ?_
        refine f_puti C tF_X9_40 fm_9_5 rfl o10 dX9_readSign_51 rfl ?_
        refine f_aload_n C (j := 1) dX9_readSign_54 rfl rfl rfl ?_
        refine f_iload_n C (j := 0) dX9_readSign_55 rfl rfl rfl ?_
        refine f_puti C tF_X9_46 fm_9_7 rfl o10 dX9_readSign_56 rfl ?_
        exact f_vret C dX9_readSign_59 h
      · replace h := Eq.mp (if_neg hq_6) h
        refine f_iload_n C (j := 0) dX9_readSign_39 rfl rfl rfl ?_
        refine f_bipush C (v := 61) dX9_readSign_40 kb61 rfl ?_
        refine f_icmp_ne C (t := 50) dX9_readSign_42 (by decide) rfl (fun hq_7 => ?_) (fun hq_7 => ?_)
        · replace h := Eq.mp (if_neg hq_7) h
          refine f_iconst C (v := 1) dX9_readSign_50 kc1 rfl ?_
          refine f_puti C tF_X9_40 fm_9_5 rfl o10 dX9_readSign_51 rfl ?_
          refine f_aload_n C (j := 1) dX9_readSign_54 rfl rfl rfl ?_
          refine f_iload_n C (j := 0) dX9_readSign_55 rfl rfl rfl ?_
          refine f_puti C tF_X9_46 fm_9_7 rfl o10 dX9_readSign_56 rfl ?_
          exact f_vret C dX9_readSign_59 h
        · replace h := Eq.mp (if_pos hq_7) h
          refine f_bipush C (v := 6) dX9_readSign_45 kb6 rfl ?_
          refine f_goto C (t := 51) dX9_readSign_47 (by decide) ?_
          refine f_puti C tF_X9_40 fm_9_5 rfl o10 dX9_readSign_51 rfl ?_
          refine f_aload_n C (j := 1) dX9_readSign_54 rfl rfl rfl ?_
          refine f_iload_n C (j := 0) dX9_readSign_55 rfl rfl rfl ?_
          refine f_puti C tF_X9_46 fm_9_7 rfl o10 dX9_readSign_56 rfl ?_
          exact f_vret C dX9_readSign_59 h
theorem c_X9_readSign (σ : Sto) (P : Sto → Prop) (h : w_X9_readSign σ P) : Ct yX9_readSign cX9_readSign 2 none 0 0 (fun B => [.ref (B + 10)]) σ (QFv P) := Ct.of (by decide) (fun _ => Nat.le_of_ble_eq_true rfl) (fun B E C => s_X9_readSign C σ h)
def w_X9_advance_154 (σ : Sto) (P : Sto → Prop) : Prop :=
  w_X9_readSign σ (fun σ_9 => P σ_9)
theorem s_X9_advance_154 {B : Nat} {E : Nat → List (Nat × Value) → List Value → Sto → Prop} {P : Sto → Prop} (C : Cy B E RX9 cX9_advance 1 none 1 21 (Zm (QFv P))) (σ : Sto) (h : w_X9_advance_154 σ P) : E 154 [(0, .ref (B + 10))] [] σ := by
  unfold w_X9_advance_154 at h
  refine f_aload_n C (j := 0) dX9_advance_154 rfl rfl rfl ?_
  refine f_callVv C (a := 10) (ci := 9) (As := fun B => []) o10 rfl (c_X9_readSign   _ _ h) tM_X9_68 tI_X9_readSign tS_X9_readSign tN_X9 tC_X9_readSign 0 dd_X9_readSign rfl (by decide) (by decide) rfl (Nat.le_of_ble_eq_true rfl) dX9_advance_155 rfl (fun σ_9 h => ?_)
  exact f_vret C dX9_advance_158 h
def w_X9_advance_119 (σ : Sto) (P : Sto → Prop) : Prop :=
  vp_in (gi σ 10 4) 900 ∧ (if (gi σ 11 (tn (gi σ 10 4))) < 48 then w_X9_advance_154 σ P else (if 57 < (gi σ 11 (tn (gi σ 10 4))) then w_X9_advance_154 σ P else w_X9_readNumber σ (fun σ_12 => P σ_12)))
theorem s_X9_advance_119 {B : Nat} {E : Nat → List (Nat × Value) → List Value → Sto → Prop} {P : Sto → Prop} (C : Cy B E RX9 cX9_advance 1 none 1 21 (Zm (QFv P))) (σ : Sto) (h : w_X9_advance_119 σ P) : E 119 [(0, .ref (B + 10))] [] σ := by
  unfold w_X9_advance_119 at h
  refine f_aload_n C (j := 0) dX9_advance_119 rfl rfl rfl ?_
  refine f_getc C tF_X9_11 rfl o10 cs10_0 (by decide) dX9_advance_120 rfl ?_
  refine f_aload_n C (j := 0) dX9_advance_123 rfl rfl rfl ?_
  refine f_geti C tF_X9_37 rfl o10 dX9_advance_124 rfl ?_
  obtain ⟨hi_7, h⟩ := h
  refine f_bald C (j := tn (gi σ 10 4)) a11 hi_7 rfl dX9_advance_127 rfl ?_
  refine f_bipush C (v := 48) dX9_advance_128 kb48 rfl ?_
  refine f_icmp_lt C (t := 154) dX9_advance_130 (by decide) rfl (fun hq_8 => ?_) (fun hq_8 => ?_)
  · replace h := Eq.mp (if_pos hq_8) h
    exact s_X9_advance_154 C  _ h
  · replace h := Eq.mp (if_neg hq_8) h
    refine f_aload_n C (j := 0) dX9_advance_133 rfl rfl rfl ?_
    refine f_getc C tF_X9_11 rfl o10 cs10_0 (by decide) dX9_advance_134 rfl ?_
    refine f_aload_n C (j := 0) dX9_advance_137 rfl rfl rfl ?_
    refine f_geti C tF_X9_37 rfl o10 dX9_advance_138 rfl ?_
    refine f_bald C (j := tn (gi σ 10 4)) a11 hi_7 rfl dX9_advance_141 rfl ?_
    refine f_bipush C (v := 57) dX9_advance_142 kb57 rfl ?_
    refine f_icmp_gt C (t := 154) dX9_advance_144 (by decide) rfl (fun hq_11 => ?_) (fun hq_11 => ?_)
    · replace h := Eq.mp (if_pos hq_11) h
      exact s_X9_advance_154 C  _ h
    · replace h := Eq.mp (if_neg hq_11) h
      refine f_aload_n C (j := 0) dX9_advance_147 rfl rfl rfl ?_
      refine f_callVv C (a := 10) (ci := 9) (As := fun B => []) o10 rfl (c_X9_readNumber   _ _ h) tM_X9_65 tI_X9_readNumber tS_X9_readNumber tN_X9 tC_X9_readNumber 0 dd_X9_readNumber rfl (by decide) (by decide) rfl (Nat.le_of_ble_eq_true rfl) dX9_advance_148 rfl (fun σ_12 h => ?_)
      refine f_goto C (t := 158) dX9_advance_151 (by decide) ?_
      exact f_vret C dX9_advance_158 h
def w_X9_advance_52 (σ : Sto) (P : Sto → Prop) : Prop :=
  ∀ σ_2 : Sto, σ_2 = si (si σ 10 6 (gi σ 10 4)) 10 7 (-1) → (if (gi σ_2 10 4) < (gi σ_2 10 3) then vp_in (gi σ_2 10 4) 900 ∧ (if (gi σ_2 11 (tn (gi σ_2 10 4))) < 97 then w_X9_advance_119 σ_2 P else (if 122 < (gi σ_2 11 (tn (gi σ_2 10 4))) then w_X9_advance_119 σ_2 P else w_X9_readWord σ_2 (fun σ_15 => P σ_15))) else P (si σ_2 10 5 0))
theorem s_X9_advance_52 {B : Nat} {E : Nat → List (Nat × Value) → List Value → Sto → Prop} {P : Sto → Prop} (C : Cy B E RX9 cX9_advance 1 none 1 21 (Zm (QFv P))) (σ : Sto) (h : w_X9_advance_52 σ P) : E 52 [(0, .ref (B + 10))] [] σ := by
  unfold w_X9_advance_52 at h
  refine f_aload_n C (j := 0) dX9_advance_52 rfl rfl rfl ?_
  refine f_aload_n C (j := 0) dX9_advance_53 rfl rfl rfl ?_
  refine f_geti C tF_X9_37 rfl o10 dX9_advance_54 rfl ?_
  refine f_puti C tF_X9_43 fm_9_6 rfl o10 dX9_advance_57 rfl ?_
  refine f_aload_n C (j := 0) dX9_advance_60 rfl rfl rfl ?_
  refine f_iconst C (v := (-1)) dX9_advance_61 kcm1 rfl ?_
  refine f_puti C tF_X9_46 fm_9_7 rfl o10 dX9_advance_62 rfl ?_
  refine f_aload_n C (j := 0) dX9_advance_65 rfl rfl rfl ?_
  refine f_names (fun σ_2 hσ_3 => ?_)
  replace h := h σ_2 hσ_3
  refine f_geti C tF_X9_37 rfl o10 dX9_advance_66 rfl ?_
  refine f_aload_n C (j := 0) dX9_advance_69 rfl rfl rfl ?_
  refine f_geti C tF_X9_35 rfl o10 dX9_advance_70 rfl ?_
  refine f_icmp_lt C (t := 84) dX9_advance_73 (by decide) rfl (fun hq_4 => ?_) (fun hq_4 => ?_)
  · replace h := Eq.mp (if_pos hq_4) h
    refine f_aload_n C (j := 0) dX9_advance_84 rfl rfl rfl ?_
    refine f_getc C tF_X9_11 rfl o10 cs10_0 (by decide) dX9_advance_85 rfl ?_
    refine f_aload_n C (j := 0) dX9_advance_88 rfl rfl rfl ?_
    refine f_geti C tF_X9_37 rfl o10 dX9_advance_89 rfl ?_
    obtain ⟨hi_5, h⟩ := h
    refine f_bald C (j := tn (gi σ_2 10 4)) a11 hi_5 rfl dX9_advance_92 rfl ?_
    refine f_bipush C (v := 97) dX9_advance_93 kb97 rfl ?_
    refine f_icmp_lt C (t := 119) dX9_advance_95 (by decide) rfl (fun hq_6 => ?_) (fun hq_6 => ?_)
    · replace h := Eq.mp (if_pos hq_6) h
      exact s_X9_advance_119 C  _ h
    · replace h := Eq.mp (if_neg hq_6) h
      refine f_aload_n C (j := 0) dX9_advance_98 rfl rfl rfl ?_
      refine f_getc C tF_X9_11 rfl o10 cs10_0 (by decide) dX9_advance_99 rfl ?_
      refine f_aload_n C (j := 0) dX9_advance_102 rfl rfl rfl ?_
      refine f_geti C tF_X9_37 rfl o10 dX9_advance_103 rfl ?_
      refine f_bald C (j := tn (gi σ_2 10 4)) a11 hi_5 rfl dX9_advance_106 rfl ?_
      refine f_bipush C (v := 122) dX9_advance_107 kb122 rfl ?_
      refine f_icmp_gt C (t := 119) dX9_advance_109 (by decide) rfl (fun hq_14 => ?_) (fun hq_14 => ?_)
      · replace h := Eq.mp (if_pos hq_14) h
        exact s_X9_advance_119 C  _ h
      · replace h := Eq.mp (if_neg hq_14) h
        refine f_aload_n C (j := 0) dX9_advance_112 rfl rfl rfl ?_
        refine f_callVv C (a := 10) (ci := 9) (As := fun B => []) o10 rfl (c_X9_readWord   _ _ h) tM_X9_62 tI_X9_readWord tS_X9_readWord tN_X9 tC_X9_readWord 0 dd_X9_readWord rfl (by decide) (by decide) rfl (Nat.le_of_ble_eq_true rfl) dX9_advance_113 rfl (fun σ_15 h => ?_)
        refine f_goto C (t := 158) dX9_advance_116 (by decide) ?_
        exact f_vret C dX9_advance_158 h
  · replace h := Eq.mp (if_neg hq_4) h
    refine f_aload_n C (j := 0) dX9_advance_76 rfl rfl rfl ?_
    refine f_iconst C (v := 0) dX9_advance_77 kc0 rfl ?_
    refine f_puti C tF_X9_40 fm_9_5 rfl o10 dX9_advance_78 rfl ?_
    refine f_goto C (t := 158) dX9_advance_81 (by decide) ?_
    exact f_vret C dX9_advance_158 h
def w_X9_advance_0 (K0 : Sto → Prop) (σ : Sto) (P : Sto → Prop) : Prop :=
  (if (gi σ 10 3) ≤ (gi σ 10 4) then w_X9_advance_52 σ P else vp_in (gi σ 10 4) 900 ∧ (if (gi σ 11 (tn (gi σ 10 4))) = 32 then K0 (si σ 10 4 ((gi σ 10 4) + 1)) else (if (gi σ 11 (tn (gi σ 10 4))) = 10 then K0 (si σ 10 4 ((gi σ 10 4) + 1)) else w_X9_advance_52 σ P)))
theorem s_X9_advance_0 {B : Nat} {E : Nat → List (Nat × Value) → List Value → Sto → Prop} {P : Sto → Prop} (C : Cy B E RX9 cX9_advance 1 none 1 21 (Zm (QFv P))) (K0 : Sto → Prop) (hK0 : ∀ (σ : Sto), K0 (σ) → E 0 [(0, .ref (B + 10))] [] σ) (σ : Sto) (h : w_X9_advance_0 K0 σ P) : E 0 [(0, .ref (B + 10))] [] σ := by
  unfold w_X9_advance_0 at h
  refine f_aload_n C (j := 0) dX9_advance_0 rfl rfl rfl ?_
  refine f_geti C tF_X9_37 rfl o10 dX9_advance_1 rfl ?_
  refine f_aload_n C (j := 0) dX9_advance_4 rfl rfl rfl ?_
  refine f_geti C tF_X9_35 rfl o10 dX9_advance_5 rfl ?_
  refine f_icmp_ge C (t := 52) dX9_advance_8 (by decide) rfl (fun hq_1 => ?_) (fun hq_1 => ?_)
  · replace h := Eq.mp (if_pos hq_1) h
    exact s_X9_advance_52 C  _ h
  · replace h := Eq.mp (if_neg hq_1) h
    refine f_aload_n C (j := 0) dX9_advance_11 rfl rfl rfl ?_
    refine f_getc C tF_X9_11 rfl o10 cs10_0 (by decide) dX9_advance_12 rfl ?_
    refine f_aload_n C (j := 0) dX9_advance_15 rfl rfl rfl ?_
    refine f_geti C tF_X9_37 rfl o10 dX9_advance_16 rfl ?_
    obtain ⟨hi_17, h⟩ := h
    refine f_bald C (j := tn (gi σ 10 4)) a11 hi_17 rfl dX9_advance_19 rfl ?_
    refine f_bipush C (v := 32) dX9_advance_20 kb32 rfl ?_
    refine f_icmp_eq C (t := 39) dX9_advance_22 (by decide) rfl (fun hq_18 => ?_) (fun hq_18 => ?_)
    · replace h := Eq.mp (if_pos hq_18) h
      refine f_aload_n C (j := 0) dX9_advance_39 rfl rfl rfl ?_
      refine f_dup C dX9_advance_40 rfl rfl ?_
      refine f_geti C tF_X9_37 rfl o10 dX9_advance_41 rfl ?_
      refine f_iconst C (v := 1) dX9_advance_44 kc1 rfl ?_
      refine f_iadd C dX9_advance_45 rfl ?_
      refine f_puti C tF_X9_37 fm_9_4 rfl o10 dX9_advance_46 rfl ?_
      refine f_goto C (t := 0) dX9_advance_49 (by decide) ?_
      exact hK0  _ h
    · replace h := Eq.mp (if_neg hq_18) h
      refine f_aload_n C (j := 0) dX9_advance_25 rfl rfl rfl ?_
      refine f_getc C tF_X9_11 rfl o10 cs10_0 (by decide) dX9_advance_26 rfl ?_
      refine f_aload_n C (j := 0) dX9_advance_29 rfl rfl rfl ?_
      refine f_geti C tF_X9_37 rfl o10 dX9_advance_30 rfl ?_
      refine f_bald C (j := tn (gi σ 10 4)) a11 hi_17 rfl dX9_advance_33 rfl ?_
      refine f_bipush C (v := 10) dX9_advance_34 kb10 rfl ?_
      refine f_icmp_ne C (t := 52) dX9_advance_36 (by decide) rfl (fun hq_19 => ?_) (fun hq_19 => ?_)
      · replace h := Eq.mp (if_neg hq_19) h
        exact s_X9_advance_52 C  _ h
      · replace h := Eq.mp (if_pos hq_19) h
        refine f_aload_n C (j := 0) dX9_advance_39 rfl rfl rfl ?_
        refine f_dup C dX9_advance_40 rfl rfl ?_
        refine f_geti C tF_X9_37 rfl o10 dX9_advance_41 rfl ?_
        refine f_iconst C (v := 1) dX9_advance_44 kc1 rfl ?_
        refine f_iadd C dX9_advance_45 rfl ?_
        refine f_puti C tF_X9_37 fm_9_4 rfl o10 dX9_advance_46 rfl ?_
        refine f_goto C (t := 0) dX9_advance_49 (by decide) ?_
        exact hK0  _ h
def w_X9_advance (σ : Sto) (P : Sto → Prop) : Prop :=
  Lp (fun (K : Sto → Prop) s => w_X9_advance_0 K  s P) σ
theorem s_X9_advance {B : Nat} {E : Nat → List (Nat × Value) → List Value → Sto → Prop} {P : Sto → Prop} (C : Cy B E RX9 cX9_advance 1 none 1 21 (Zm (QFv P))) (σ : Sto) (h : w_X9_advance σ P) : E 0 [(0, .ref (B + 10))] [] σ := by
  unfold w_X9_advance at h
  exact Lp_sound (fun s : Sto => E 0 [(0, .ref (B + 10))] [] s) h (fun K s hK h => s_X9_advance_0 C  K (fun σ hk => hK σ hk) s h)
theorem c_X9_advance (σ : Sto) (P : Sto → Prop) (h : w_X9_advance σ P) : Ct yX9_advance cX9_advance 1 none 1 21 (fun B => [.ref (B + 10)]) σ (QFv P) := Ct.of (by decide) (fun _ => Nat.le_of_ble_eq_true rfl) (fun B E C => s_X9_advance C σ h)
def w_X9_start (x1 : Int32) (σ : Sto) (P : Sto → Prop) : Prop :=
  w_X9_advance (si (si (si (si σ 10 3 x1) 10 4 0) 10 9 0) 10 10 (-1)) (fun σ_1 => P σ_1)
theorem s_X9_start {B : Nat} {E : Nat → List (Nat × Value) → List Value → Sto → Prop} {P : Sto → Prop} (C : Cy B E RX9 cX9_start 2 none 2 41 (Zm (QFv P))) (x1 : Int32) (σ : Sto) (h : w_X9_start x1 σ P) : E 0 [(0, .ref (B + 10)), (1, .int x1)] [] σ := by
  unfold w_X9_start at h
  refine f_aload_n C (j := 0) dX9_start_0 rfl rfl rfl ?_
  refine f_iload_n C (j := 1) dX9_start_1 rfl rfl rfl ?_
  refine f_puti C tF_X9_35 fm_9_3 rfl o10 dX9_start_2 rfl ?_
  refine f_aload_n C (j := 0) dX9_start_5 rfl rfl rfl ?_
  refine f_iconst C (v := 0) dX9_start_6 kc0 rfl ?_
  refine f_puti C tF_X9_37 fm_9_4 rfl o10 dX9_start_7 rfl ?_
  refine f_aload_n C (j := 0) dX9_start_10 rfl rfl rfl ?_
  refine f_iconst C (v := 0) dX9_start_11 kc0 rfl ?_
  refine f_puti C tF_X9_53 fm_9_9 rfl o10 dX9_start_12 rfl ?_
  refine f_aload_n C (j := 0) dX9_start_15 rfl rfl rfl ?_
  refine f_iconst C (v := (-1)) dX9_start_16 kcm1 rfl ?_
  refine f_puti C tF_X9_56 fm_9_10 rfl o10 dX9_start_17 rfl ?_
  refine f_aload_n C (j := 0) dX9_start_20 rfl rfl rfl ?_
  refine f_callVv C (a := 10) (ci := 9) (As := fun B => []) o10 rfl (c_X9_advance   _ _ h) tM_X9_59 tI_X9_advance tS_X9_advance tN_X9 tC_X9_advance 0 dd_X9_advance rfl (by decide) (by decide) rfl (Nat.le_of_ble_eq_true rfl) dX9_start_21 rfl (fun σ_1 h => ?_)
  exact f_vret C dX9_start_24 h
theorem c_X9_start (x1 : Int32) (σ : Sto) (P : Sto → Prop) (h : w_X9_start x1 σ P) : Ct yX9_start cX9_start 2 none 2 41 (fun B => [.ref (B + 10), .int x1]) σ (QFv P) := Ct.of (by decide) (fun _ => Nat.le_of_ble_eq_true rfl) (fun B E C => s_X9_start C x1 σ h)
def w_X9_fail (x1 : Int32) (σ : Sto) (P : Int32 → Sto → Prop) : Prop :=
  (if (gi σ 10 5) = 1 then ∀ σ_4 : Sto, σ_4 = si σ 10 9 1 → P 0 (si σ_4 10 10 (gi σ_4 10 6)) else ∀ σ_2 : Sto, σ_2 = si σ 10 9 x1 → P 0 (si σ_2 10 10 (gi σ_2 10 6)))
theorem s_X9_fail {B : Nat} {E : Nat → List (Nat × Value) → List Value → Sto → Prop} {P : Int32 → Sto → Prop} (C : Cy B E RX9 cX9_fail 2 (some .boolean) 0 0 (Zm (QFi P))) (x1 : Int32) (σ : Sto) (h : w_X9_fail x1 σ P) : E 0 [(0, .ref (B + 10)), (1, .int x1)] [] σ := by
  unfold w_X9_fail at h
  refine f_aload_n C (j := 0) dX9_fail_0 rfl rfl rfl ?_
  refine f_aload_n C (j := 0) dX9_fail_1 rfl rfl rfl ?_
  refine f_geti C tF_X9_40 rfl o10 dX9_fail_2 rfl ?_
  refine f_iconst C (v := 1) dX9_fail_5 kc1 rfl ?_
  refine f_icmp_ne C (t := 13) dX9_fail_6 (by decide) rfl (fun hq_1 => ?_) (fun hq_1 => ?_)
  · replace h := Eq.mp (if_neg hq_1) h
    refine f_iload_n C (j := 1) dX9_fail_13 rfl rfl rfl ?_
    refine f_puti C tF_X9_53 fm_9_9 rfl o10 dX9_fail_14 rfl ?_
    refine f_aload_n C (j := 0) dX9_fail_17 rfl rfl rfl ?_
    refine f_aload_n C (j := 0) dX9_fail_18 rfl rfl rfl ?_
    refine f_names (fun σ_2 hσ_3 => ?_)
    replace h := h σ_2 hσ_3
    refine f_geti C tF_X9_43 rfl o10 dX9_fail_19 rfl ?_
    refine f_puti C tF_X9_56 fm_9_10 rfl o10 dX9_fail_22 rfl ?_
    refine f_iconst C (v := 0) dX9_fail_25 kc0 rfl ?_
    exact f_zret C (Or.inl rfl) dX9_fail_26 h
  · replace h := Eq.mp (if_pos hq_1) h
    refine f_iconst C (v := 1) dX9_fail_9 kc1 rfl ?_
    refine f_goto C (t := 14) dX9_fail_10 (by decide) ?_
    refine f_puti C tF_X9_53 fm_9_9 rfl o10 dX9_fail_14 rfl ?_
    refine f_aload_n C (j := 0) dX9_fail_17 rfl rfl rfl ?_
    refine f_aload_n C (j := 0) dX9_fail_18 rfl rfl rfl ?_
    refine f_names (fun σ_4 hσ_5 => ?_)
    replace h := h σ_4 hσ_5
    refine f_geti C tF_X9_43 rfl o10 dX9_fail_19 rfl ?_
    refine f_puti C tF_X9_56 fm_9_10 rfl o10 dX9_fail_22 rfl ?_
    refine f_iconst C (v := 0) dX9_fail_25 kc0 rfl ?_
    exact f_zret C (Or.inl rfl) dX9_fail_26 h
theorem c_X9_fail (x1 : Int32) (σ : Sto) (P : Int32 → Sto → Prop) (h : w_X9_fail x1 σ P) : Ct yX9_fail cX9_fail 2 (some .boolean) 0 0 (fun B => [.ref (B + 10), .int x1]) σ (QFi P) := Ct.of (by decide) (fun _ => Nat.le_of_ble_eq_true rfl) (fun B E C => s_X9_fail C x1 σ h)
def w_X2_begin (x1 : Int32) (x2 : Int32) (σ : Sto) (P : Int32 → Sto → Prop) : Prop :=
  (if x1 < x2 then w_X9_advance σ (fun σ_2 => P 1 σ_2) else w_X9_fail 6 σ (fun r_5 σ_4 => (r_5 = 0 ∨ r_5 = 1) ∧ P r_5 σ_4))
theorem s_X2_begin {B : Nat} {E : Nat → List (Nat × Value) → List Value → Sto → Prop} {P : Int32 → Sto → Prop} (C : Cy B E RX2 cX2_begin 3 (some .boolean) 2 41 (Zm (QFi P))) (x1 : Int32) (x2 : Int32) (σ : Sto) (h : w_X2_begin x1 x2 σ P) : E 0 [(0, .ref (B + 41)), (1, .int x1), (2, .int x2)] [] σ := by
  unfold w_X2_begin at h
  refine f_iload_n C (j := 1) dX2_begin_0 rfl rfl rfl ?_
  refine f_iload_n C (j := 2) dX2_begin_1 rfl rfl rfl ?_
  refine f_icmp_lt C (t := 15) dX2_begin_2 (by decide) rfl (fun hq_1 => ?_) (fun hq_1 => ?_)
  · replace h := Eq.mp (if_pos hq_1) h
    refine f_aload_n C (j := 0) dX2_begin_15 rfl rfl rfl ?_
    refine f_getc C tF_X2_9 rfl o41 cs41_0 (by decide) dX2_begin_16 rfl ?_
    refine f_callVv C (a := 10) (ci := 9) (As := fun B => []) o10 rfl (c_X9_advance   _ _ h) tM_X2_74 tI_X9_advance tS_X9_advance tN_X9 tC_X9_advance 0 dd_X9_advance rfl (by decide) (by decide) rfl (Nat.le_of_ble_eq_true rfl) dX2_begin_19 rfl (fun σ_2 h => ?_)
    refine f_iconst C (v := 1) dX2_begin_22 kc1 rfl ?_
    exact f_zret C (Or.inr rfl) dX2_begin_23 h
  · replace h := Eq.mp (if_neg hq_1) h
    refine f_aload_n C (j := 0) dX2_begin_5 rfl rfl rfl ?_
    refine f_getc C tF_X2_9 rfl o41 cs41_0 (by decide) dX2_begin_6 rfl ?_
    refine f_bipush C (v := 6) dX2_begin_9 kb6 rfl ?_
    refine f_callVi C (a := 10) (ci := 9) (As := fun B => [.int 6]) o10 rfl (c_X9_fail  _ _ _ h) tM_X2_46 tI_X9_fail tS_X9_fail tN_X9 tC_X9_fail 1 dd_X9_fail rfl (by decide) (by decide) rfl (Nat.le_of_ble_eq_true rfl) dX2_begin_11 rfl (fun r_5 σ_4 h => ?_)
    obtain ⟨hb_6, h⟩ := h
    exact f_zret C hb_6 dX2_begin_14 h
theorem c_X2_begin (x1 : Int32) (x2 : Int32) (σ : Sto) (P : Int32 → Sto → Prop) (h : w_X2_begin x1 x2 σ P) : Ct yX2_begin cX2_begin 3 (some .boolean) 2 41 (fun B => [.ref (B + 41), .int x1, .int x2]) σ (QFi P) := Ct.of (by decide) (fun _ => Nat.le_of_ble_eq_true rfl) (fun B E C => s_X2_begin C x1 x2 σ h)
def w_X2_readNewName (x1 : Int32) (σ : Sto) (P : Int32 → Sto → Prop) : Prop :=
  (if (gi σ 10 5) = 2 then isCity (gr σ 41 1) ∧ w_X1_isTaken (gr σ 41 1) (gl σ 10 8) σ (fun r_4 σ_3 => (if r_4 = 0 then isCity (gr σ_3 41 1) ∧ vp_in x1 24 ∧ w_X9_advance (sl σ_3 ((gr σ_3 41 1) + 1) (tn x1) (gl σ_3 10 8)) (fun σ_8 => P 1 σ_8) else w_X9_fail 3 σ_3 (fun r_11 σ_10 => (r_11 = 0 ∨ r_11 = 1) ∧ P r_11 σ_10))) else w_X9_fail 2 σ (fun r_14 σ_13 => (r_14 = 0 ∨ r_14 = 1) ∧ P r_14 σ_13))
theorem s_X2_readNewName {B : Nat} {E : Nat → List (Nat × Value) → List Value → Sto → Prop} {P : Int32 → Sto → Prop} (C : Cy B E RX2 cX2_readNewName 2 (some .boolean) 2 41 (Zm (QFi P))) (x1 : Int32) (σ : Sto) (h : w_X2_readNewName x1 σ P) : E 0 [(0, .ref (B + 41)), (1, .int x1)] [] σ := by
  unfold w_X2_readNewName at h
  refine f_aload_n C (j := 0) dX2_readNewName_0 rfl rfl rfl ?_
  refine f_getc C tF_X2_9 rfl o41 cs41_0 (by decide) dX2_readNewName_1 rfl ?_
  refine f_geti C tF_X2_34 rfl o10 dX2_readNewName_4 rfl ?_
  refine f_iconst C (v := 2) dX2_readNewName_7 kc2 rfl ?_
  refine f_icmp_eq C (t := 20) dX2_readNewName_8 (by decide) rfl (fun hq_1 => ?_) (fun hq_1 => ?_)
  · replace h := Eq.mp (if_pos hq_1) h
    refine f_aload_n C (j := 0) dX2_readNewName_20 rfl rfl rfl ?_
    obtain ⟨hc_2, h⟩ := h
    refine f_getm C tF_X2_15 rfl o41 cn41_1 hc_2.z dX2_readNewName_21 rfl ?_
    refine f_aload_n C (j := 0) dX2_readNewName_24 rfl rfl rfl ?_
    refine f_getc C tF_X2_9 rfl o41 cs41_0 (by decide) dX2_readNewName_25 rfl ?_
    refine f_getl C tF_X2_77 rfl o10 dX2_readNewName_28 rfl ?_
    refine f_callVi C (a := gr σ 41 1) (ci := 1) (As := fun B => [.long (gl σ 10 8)]) hc_2.o rfl (c_X1_isTaken  _ _ _ _ h) tM_X2_81 tI_X1_isTaken tS_X1_isTaken tN_X1 tC_X1_isTaken 1 dd_X1_isTaken rfl (by decide) (by decide) rfl (Nat.le_of_ble_eq_true rfl) dX2_readNewName_31 rfl (fun r_4 σ_3 h => ?_)
    refine f_if_eq C (t := 46) dX2_readNewName_34 (by decide) rfl (fun hq_5 => ?_) (fun hq_5 => ?_)
    · replace h := Eq.mp (if_pos hq_5) h
      refine f_aload_n C (j := 0) dX2_readNewName_46 rfl rfl rfl ?_
      obtain ⟨hc_6, h⟩ := h
      refine f_getm C tF_X2_15 rfl o41 cn41_1 hc_6.z dX2_readNewName_47 rfl ?_
      refine f_getc C tF_X2_85 rfl hc_6.o hc_6.c0 (Nat.succ_ne_zero _) dX2_readNewName_50 rfl ?_
      refine f_iload_n C (j := 1) dX2_readNewName_53 rfl rfl rfl ?_
      refine f_aload_n C (j := 0) dX2_readNewName_54 rfl rfl rfl ?_
      refine f_getc C tF_X2_9 rfl o41 cs41_0 (by decide) dX2_readNewName_55 rfl ?_
      refine f_getl C tF_X2_77 rfl o10 dX2_readNewName_58 rfl ?_
      obtain ⟨hi_7, h⟩ := h
      refine f_last C (j := tn x1) hc_6.a0 hi_7 rfl dX2_readNewName_61 rfl ?_
      refine f_aload_n C (j := 0) dX2_readNewName_62 rfl rfl rfl ?_
      refine f_getc C tF_X2_9 rfl o41 cs41_0 (by decide) dX2_readNewName_63 rfl ?_
      refine f_callVv C (a := 10) (ci := 9) (As := fun B => []) o10 rfl (c_X9_advance   _ _ h) tM_X2_74 tI_X9_advance tS_X9_advance tN_X9 tC_X9_advance 0 dd_X9_advance rfl (by decide) (by decide) rfl (Nat.le_of_ble_eq_true rfl) dX2_readNewName_66 rfl (fun σ_8 h => ?_)
      refine f_iconst C (v := 1) dX2_readNewName_69 kc1 rfl ?_
      exact f_zret C (Or.inr rfl) dX2_readNewName_70 h
    · replace h := Eq.mp (if_neg hq_5) h
      refine f_aload_n C (j := 0) dX2_readNewName_37 rfl rfl rfl ?_
      refine f_getc C tF_X2_9 rfl o41 cs41_0 (by decide) dX2_readNewName_38 rfl ?_
      refine f_iconst C (v := 3) dX2_readNewName_41 kc3 rfl ?_
      refine f_callVi C (a := 10) (ci := 9) (As := fun B => [.int 3]) o10 rfl (c_X9_fail  _ _ _ h) tM_X2_46 tI_X9_fail tS_X9_fail tN_X9 tC_X9_fail 1 dd_X9_fail rfl (by decide) (by decide) rfl (Nat.le_of_ble_eq_true rfl) dX2_readNewName_42 rfl (fun r_11 σ_10 h => ?_)
      obtain ⟨hb_12, h⟩ := h
      exact f_zret C hb_12 dX2_readNewName_45 h
  · replace h := Eq.mp (if_neg hq_1) h
    refine f_aload_n C (j := 0) dX2_readNewName_11 rfl rfl rfl ?_
    refine f_getc C tF_X2_9 rfl o41 cs41_0 (by decide) dX2_readNewName_12 rfl ?_
    refine f_iconst C (v := 2) dX2_readNewName_15 kc2 rfl ?_
    refine f_callVi C (a := 10) (ci := 9) (As := fun B => [.int 2]) o10 rfl (c_X9_fail  _ _ _ h) tM_X2_46 tI_X9_fail tS_X9_fail tN_X9 tC_X9_fail 1 dd_X9_fail rfl (by decide) (by decide) rfl (Nat.le_of_ble_eq_true rfl) dX2_readNewName_16 rfl (fun r_14 σ_13 h => ?_)
    obtain ⟨hb_15, h⟩ := h
    exact f_zret C hb_15 dX2_readNewName_19 h
theorem c_X2_readNewName (x1 : Int32) (σ : Sto) (P : Int32 → Sto → Prop) (h : w_X2_readNewName x1 σ P) : Ct yX2_readNewName cX2_readNewName 2 (some .boolean) 2 41 (fun B => [.ref (B + 41), .int x1]) σ (QFi P) := Ct.of (by decide) (fun _ => Nat.le_of_ble_eq_true rfl) (fun B E C => s_X2_readNewName C x1 σ h)
def w_X9_isKeyword (x1 : Int32) (σ : Sto) (P : Int32 → Sto → Prop) : Prop :=
  (if (gi σ 10 5) = 3 then (if (gi σ 10 7) = x1 then P 1 σ else P 0 σ) else P 0 σ)
theorem s_X9_isKeyword {B : Nat} {E : Nat → List (Nat × Value) → List Value → Sto → Prop} {P : Int32 → Sto → Prop} (C : Cy B E RX9 cX9_isKeyword 2 (some .boolean) 0 0 (Zm (QFi P))) (x1 : Int32) (σ : Sto) (h : w_X9_isKeyword x1 σ P) : E 0 [(0, .ref (B + 10)), (1, .int x1)] [] σ := by
  unfold w_X9_isKeyword at h
  refine f_aload_n C (j := 0) dX9_isKeyword_0 rfl rfl rfl ?_
  refine f_geti C tF_X9_40 rfl o10 dX9_isKeyword_1 rfl ?_
  refine f_iconst C (v := 3) dX9_isKeyword_4 kc3 rfl ?_
  refine f_icmp_ne C (t := 20) dX9_isKeyword_5 (by decide) rfl (fun hq_1 => ?_) (fun hq_1 => ?_)
  · replace h := Eq.mp (if_neg hq_1) h
    refine f_iconst C (v := 0) dX9_isKeyword_20 kc0 rfl ?_
    exact f_zret C (Or.inl rfl) dX9_isKeyword_21 h
  · replace h := Eq.mp (if_pos hq_1) h
    refine f_aload_n C (j := 0) dX9_isKeyword_8 rfl rfl rfl ?_
    refine f_geti C tF_X9_46 rfl o10 dX9_isKeyword_9 rfl ?_
    refine f_iload_n C (j := 1) dX9_isKeyword_12 rfl rfl rfl ?_
    refine f_icmp_ne C (t := 20) dX9_isKeyword_13 (by decide) rfl (fun hq_2 => ?_) (fun hq_2 => ?_)
    · replace h := Eq.mp (if_neg hq_2) h
      refine f_iconst C (v := 0) dX9_isKeyword_20 kc0 rfl ?_
      exact f_zret C (Or.inl rfl) dX9_isKeyword_21 h
    · replace h := Eq.mp (if_pos hq_2) h
      refine f_iconst C (v := 1) dX9_isKeyword_16 kc1 rfl ?_
      refine f_goto C (t := 21) dX9_isKeyword_17 (by decide) ?_
      exact f_zret C (Or.inr rfl) dX9_isKeyword_21 h
theorem c_X9_isKeyword (x1 : Int32) (σ : Sto) (P : Int32 → Sto → Prop) (h : w_X9_isKeyword x1 σ P) : Ct yX9_isKeyword cX9_isKeyword 2 (some .boolean) 0 0 (fun B => [.ref (B + 10), .int x1]) σ (QFi P) := Ct.of (by decide) (fun _ => Nat.le_of_ble_eq_true rfl) (fun B E C => s_X9_isKeyword C x1 σ h)
def w_X9_passNumber_32 (σ : Sto) (P : Int32 → Sto → Prop) : Prop :=
  w_X9_fail 4 σ (fun r_4 σ_3 => P (-1) σ_3)
theorem s_X9_passNumber_32 {B : Nat} {E : Nat → List (Nat × Value) → List Value → Sto → Prop} {P : Int32 → Sto → Prop} (C : Cy B E RX9 cX9_passNumber 4 (some .int) 2 41 (Zm (QFi P))) (σ : Sto) (h : w_X9_passNumber_32 σ P) : E 32 [(0, .ref (B + 10))] [] σ := by
  unfold w_X9_passNumber_32 at h
  refine f_aload_n C (j := 0) dX9_passNumber_32 rfl rfl rfl ?_
  refine f_iconst C (v := 4) dX9_passNumber_33 kc4 rfl ?_
  refine f_callVi C (a := 10) (ci := 9) (As := fun B => [.int 4]) o10 rfl (c_X9_fail  _ _ _ h) tM_X9_75 tI_X9_fail tS_X9_fail tN_X9 tC_X9_fail 1 dd_X9_fail rfl (by decide) (by decide) rfl (Nat.le_of_ble_eq_true rfl) dX9_passNumber_34 rfl (fun r_4 σ_3 h => ?_)
  refine f_pop C dX9_passNumber_37 rfl rfl ?_
  refine f_iconst C (v := (-1)) dX9_passNumber_38 kcm1 rfl ?_
  exact f_iret C dX9_passNumber_39 h
def w_X9_passNumber (x1 : Int32) (x2 : Int32) (σ : Sto) (P : Int32 → Sto → Prop) : Prop :=
  (if (gi σ 10 5) = 5 then (if (gi σ 10 7) < x1 then w_X9_passNumber_32 σ P else (if (gi σ 10 7) ≤ x2 then ∀ x3_6 : Int32, x3_6 = gi σ 10 7 → w_X9_advance σ (fun σ_8 => P x3_6 σ_8) else w_X9_passNumber_32 σ P)) else w_X9_fail 2 σ (fun r_11 σ_10 => P (-1) σ_10))
theorem s_X9_passNumber {B : Nat} {E : Nat → List (Nat × Value) → List Value → Sto → Prop} {P : Int32 → Sto → Prop} (C : Cy B E RX9 cX9_passNumber 4 (some .int) 2 41 (Zm (QFi P))) (x1 : Int32) (x2 : Int32) (σ : Sto) (h : w_X9_passNumber x1 x2 σ P) : E 0 [(0, .ref (B + 10)), (1, .int x1), (2, .int x2)] [] σ := by
  unfold w_X9_passNumber at h
  refine f_aload_n C (j := 0) dX9_passNumber_0 rfl rfl rfl ?_
  refine f_geti C tF_X9_40 rfl o10 dX9_passNumber_1 rfl ?_
  refine f_iconst C (v := 5) dX9_passNumber_4 kc5 rfl ?_
  refine f_icmp_eq C (t := 16) dX9_passNumber_5 (by decide) rfl (fun hq_1 => ?_) (fun hq_1 => ?_)
  · replace h := Eq.mp (if_pos hq_1) h
    refine f_aload_n C (j := 0) dX9_passNumber_16 rfl rfl rfl ?_
    refine f_geti C tF_X9_46 rfl o10 dX9_passNumber_17 rfl ?_
    refine f_iload_n C (j := 1) dX9_passNumber_20 rfl rfl rfl ?_
    refine f_icmp_lt C (t := 32) dX9_passNumber_21 (by decide) rfl (fun hq_2 => ?_) (fun hq_2 => ?_)
    · replace h := Eq.mp (if_pos hq_2) h
      refine f_lv C (lv2 := [(0, .ref (B + 10))]) [0] rfl ?_
      exact s_X9_passNumber_32 C  _ h
    · replace h := Eq.mp (if_neg hq_2) h
      refine f_aload_n C (j := 0) dX9_passNumber_24 rfl rfl rfl ?_
      refine f_geti C tF_X9_46 rfl o10 dX9_passNumber_25 rfl ?_
      refine f_iload_n C (j := 2) dX9_passNumber_28 rfl rfl rfl ?_
      refine f_icmp_le C (t := 40) dX9_passNumber_29 (by decide) rfl (fun hq_5 => ?_) (fun hq_5 => ?_)
      · replace h := Eq.mp (if_pos hq_5) h
        refine f_aload_n C (j := 0) dX9_passNumber_40 rfl rfl rfl ?_
        refine f_geti C tF_X9_46 rfl o10 dX9_passNumber_41 rfl ?_
        refine f_name (fun x3_6 hx_7 => ?_)
        replace h := h x3_6 hx_7
        refine f_istore_n C (lv2 := [(3, .int x3_6), (0, .ref (B + 10)), (1, .int x1), (2, .int x2)]) dX9_passNumber_44 rfl (by decide) rfl rfl ?_
        refine f_aload_n C (j := 1) dX9_passNumber_45 rfl rfl rfl ?_
        refine f_callVv C (a := 10) (ci := 9) (As := fun B => []) o10 rfl (c_X9_advance   _ _ h) tM_X9_59 tI_X9_advance tS_X9_advance tN_X9 tC_X9_advance 0 dd_X9_advance rfl (by decide) (by decide) rfl (Nat.le_of_ble_eq_true rfl) dX9_passNumber_46 rfl (fun σ_8 h => ?_)
        refine f_iload_n C (j := 0) dX9_passNumber_49 rfl rfl rfl ?_
        exact f_iret C dX9_passNumber_50 h
      · replace h := Eq.mp (if_neg hq_5) h
        refine f_lv C (lv2 := [(0, .ref (B + 10))]) [0] rfl ?_
        exact s_X9_passNumber_32 C  _ h
  · replace h := Eq.mp (if_neg hq_1) h
    refine f_aload_n C (j := 0) dX9_passNumber_8 rfl rfl rfl ?_
    refine f_iconst C (v := 2) dX9_passNumber_9 kc2 rfl ?_
    refine f_callVi C (a := 10) (ci := 9) (As := fun B => [.int 2]) o10 rfl (c_X9_fail  _ _ _ h) tM_X9_75 tI_X9_fail tS_X9_fail tN_X9 tC_X9_fail 1 dd_X9_fail rfl (by decide) (by decide) rfl (Nat.le_of_ble_eq_true rfl) dX9_passNumber_10 rfl (fun r_11 σ_10 h => ?_)
    refine f_pop C dX9_passNumber_13 rfl rfl ?_
    refine f_iconst C (v := (-1)) dX9_passNumber_14 kcm1 rfl ?_
    exact f_iret C dX9_passNumber_15 h
theorem c_X9_passNumber (x1 : Int32) (x2 : Int32) (σ : Sto) (P : Int32 → Sto → Prop) (h : w_X9_passNumber x1 x2 σ P) : Ct yX9_passNumber cX9_passNumber 4 (some .int) 2 41 (fun B => [.ref (B + 10), .int x1, .int x2]) σ (QFi P) := Ct.of (by decide) (fun _ => Nat.le_of_ble_eq_true rfl) (fun B E C => s_X9_passNumber C x1 x2 σ h)
def w_X2_readThing_87 (x1 : Int32) (σ : Sto) (P : Int32 → Sto → Prop) : Prop :=
  w_X9_isKeyword 2 σ (fun r_15 σ_14 => (if r_15 = 0 then P 1 σ_14 else w_X9_advance σ_14 (fun σ_17 => isCity (gr σ_17 41 1) ∧ P 1 (si σ_17 (gr σ_17 41 1) 15 ((gi σ_17 (gr σ_17 41 1) 15) ||| (1 <<< (x1 &&& 31)))))))
theorem s_X2_readThing_87 {B : Nat} {E : Nat → List (Nat × Value) → List Value → Sto → Prop} {P : Int32 → Sto → Prop} (C : Cy B E RX2 cX2_readThing 3 (some .boolean) 3 64 (Zm (QFi P))) (x1 : Int32) (σ : Sto) (h : w_X2_readThing_87 x1 σ P) : E 87 [(0, .ref (B + 41)), (1, .int x1)] [] σ := by
  unfold w_X2_readThing_87 at h
  refine f_aload_n C (j := 0) dX2_readThing_87 rfl rfl rfl ?_
  refine f_getc C tF_X2_9 rfl o41 cs41_0 (by decide) dX2_readThing_88 rfl ?_
  refine f_iconst C (v := 2) dX2_readThing_91 kc2 rfl ?_
  refine f_callVi C (a := 10) (ci := 9) (As := fun B => [.int 2]) o10 rfl (c_X9_isKeyword  _ _ _ h) tM_X2_99 tI_X9_isKeyword tS_X9_isKeyword tN_X9 tC_X9_isKeyword 1 dd_X9_isKeyword rfl (by decide) (by decide) rfl (Nat.le_of_ble_eq_true rfl) dX2_readThing_92 rfl (fun r_15 σ_14 h => ?_)
  refine f_if_eq C (t := 120) dX2_readThing_95 (by decide) rfl (fun hq_16 => ?_) (fun hq_16 => ?_)
  · replace h := Eq.mp (if_pos hq_16) h
    refine f_iconst C (v := 1) dX2_readThing_120 kc1 rfl ?_
    exact f_zret C (Or.inr rfl) dX2_readThing_121 h
  · replace h := Eq.mp (if_neg hq_16) h
    refine f_aload_n C (j := 0) dX2_readThing_98 rfl rfl rfl ?_
    refine f_getc C tF_X2_9 rfl o41 cs41_0 (by decide) dX2_readThing_99 rfl ?_
    refine f_callVv C (a := 10) (ci := 9) (As := fun B => []) o10 rfl (c_X9_advance   _ _ h) tM_X2_74 tI_X9_advance tS_X9_advance tN_X9 tC_X9_advance 0 dd_X9_advance rfl (by decide) (by decide) rfl (Nat.le_of_ble_eq_true rfl) dX2_readThing_102 rfl (fun σ_17 h => ?_)
    refine f_aload_n C (j := 0) dX2_readThing_105 rfl rfl rfl ?_
    obtain ⟨hc_19, h⟩ := h
    refine f_getm C tF_X2_15 rfl o41 cn41_1 hc_19.z dX2_readThing_106 rfl ?_
    refine f_dup C dX2_readThing_109 rfl rfl ?_
    refine f_geti C tF_X2_110 rfl hc_19.o dX2_readThing_110 rfl ?_
    refine f_iconst C (v := 1) dX2_readThing_113 kc1 rfl ?_
    refine f_iload_n C (j := 1) dX2_readThing_114 rfl rfl rfl ?_
    refine f_ishl C dX2_readThing_115 rfl ?_
    refine f_ior C dX2_readThing_116 rfl ?_
    refine f_puti C tF_X2_110 fm_1_15 rfl hc_19.o dX2_readThing_117 rfl ?_
    refine f_iconst C (v := 1) dX2_readThing_120 kc1 rfl ?_
    exact f_zret C (Or.inr rfl) dX2_readThing_121 h
def w_X2_readThing (σ : Sto) (P : Int32 → Sto → Prop) : Prop :=
  isCity (gr σ 41 1) ∧ ∀ x1_2 : Int32, x1_2 = gi σ (gr σ 41 1) 8 → w_X2_begin x1_2 12 σ (fun r_5 σ_4 => (if r_5 = 0 then P 0 σ_4 else w_X2_readNewName x1_2 σ_4 (fun r_8 σ_7 => (if r_8 = 0 then P 0 σ_7 else isCity (gr σ_7 41 1) ∧ w_X9_isKeyword 1 (si σ_7 (gr σ_7 41 1) 8 ((gi σ_7 (gr σ_7 41 1) 8) + 1)) (fun r_12 σ_11 => (if r_12 = 0 then w_X2_readThing_87 x1_2 σ_11 P else w_X9_advance σ_11 (fun σ_20 => w_X9_passNumber 0 99 σ_20 (fun r_23 σ_22 => (if r_23 = (-1) then P 0 σ_22 else isCity (gr σ_22 41 1) ∧ vp_in x1_2 12 ∧ w_X2_readThing_87 x1_2 (si σ_22 ((gr σ_22 41 1) + 2) (tn x1_2) r_23) P)))))))))
theorem s_X2_readThing {B : Nat} {E : Nat → List (Nat × Value) → List Value → Sto → Prop} {P : Int32 → Sto → Prop} (C : Cy B E RX2 cX2_readThing 3 (some .boolean) 3 64 (Zm (QFi P))) (σ : Sto) (h : w_X2_readThing σ P) : E 0 [(0, .ref (B + 41))] [] σ := by
  unfold w_X2_readThing at h
  refine f_aload_n C (j := 0) dX2_readThing_0 rfl rfl rfl ?_
  obtain ⟨hc_1, h⟩ := h
  refine f_getm C tF_X2_15 rfl o41 cn41_1 hc_1.z dX2_readThing_1 rfl ?_
  refine f_geti C tF_X2_89 rfl hc_1.o dX2_readThing_4 rfl ?_
  refine f_name (fun x1_2 hx_3 => ?_)
  replace h := h x1_2 hx_3
  refine f_istore_n C (lv2 := [(1, .int x1_2), (0, .ref (B + 41))]) dX2_readThing_7 rfl (by decide) rfl rfl ?_
  refine f_aload_n C (j := 1) dX2_readThing_8 rfl rfl rfl ?_
  refine f_iload_n C (j := 0) dX2_readThing_9 rfl rfl rfl ?_
  refine f_bipush C (v := 12) dX2_readThing_10 kb12 rfl ?_
  refine f_callVi C (a := 41) (ci := 2) (As := fun B => [.int x1_2, .int 12]) o41 rfl (c_X2_begin  _ _ _ _ h) tM_X2_92 tI_X2_begin tS_X2_begin tN_X2 tC_X2_begin 2 dd_X2_begin rfl (by decide) (by decide) rfl (Nat.le_of_ble_eq_true rfl) dX2_readThing_12 rfl (fun r_5 σ_4 h => ?_)
  refine f_if_eq C (t := 26) dX2_readThing_15 (by decide) rfl (fun hq_6 => ?_) (fun hq_6 => ?_)
  · replace h := Eq.mp (if_pos hq_6) h
    refine f_iconst C (v := 0) dX2_readThing_26 kc0 rfl ?_
    exact f_zret C (Or.inl rfl) dX2_readThing_27 h
  · replace h := Eq.mp (if_neg hq_6) h
    refine f_aload_n C (j := 1) dX2_readThing_18 rfl rfl rfl ?_
    refine f_iload_n C (j := 0) dX2_readThing_19 rfl rfl rfl ?_
    refine f_callVi C (a := 41) (ci := 2) (As := fun B => [.int x1_2]) o41 rfl (c_X2_readNewName  _ _ _ h) tM_X2_96 tI_X2_readNewName tS_X2_readNewName tN_X2 tC_X2_readNewName 1 dd_X2_readNewName rfl (by decide) (by decide) rfl (Nat.le_of_ble_eq_true rfl) dX2_readThing_20 rfl (fun r_8 σ_7 h => ?_)
    refine f_if_ne C (t := 28) dX2_readThing_23 (by decide) rfl (fun hq_9 => ?_) (fun hq_9 => ?_)
    · replace h := Eq.mp (if_neg hq_9) h
      refine f_aload_n C (j := 1) dX2_readThing_28 rfl rfl rfl ?_
      obtain ⟨hc_10, h⟩ := h
      refine f_getm C tF_X2_15 rfl o41 cn41_1 hc_10.z dX2_readThing_29 rfl ?_
      refine f_dup C dX2_readThing_32 rfl rfl ?_
      refine f_geti C tF_X2_89 rfl hc_10.o dX2_readThing_33 rfl ?_
      refine f_iconst C (v := 1) dX2_readThing_36 kc1 rfl ?_
      refine f_iadd C dX2_readThing_37 rfl ?_
      refine f_puti C tF_X2_89 fm_1_8 rfl hc_10.o dX2_readThing_38 rfl ?_
      refine f_aload_n C (j := 1) dX2_readThing_41 rfl rfl rfl ?_
      refine f_getc C tF_X2_9 rfl o41 cs41_0 (by decide) dX2_readThing_42 rfl ?_
      refine f_iconst C (v := 1) dX2_readThing_45 kc1 rfl ?_
      refine f_callVi C (a := 10) (ci := 9) (As := fun B => [.int 1]) o10 rfl (c_X9_isKeyword  _ _ _ h) tM_X2_99 tI_X9_isKeyword tS_X9_isKeyword tN_X9 tC_X9_isKeyword 1 dd_X9_isKeyword rfl (by decide) (by decide) rfl (Nat.le_of_ble_eq_true rfl) dX2_readThing_46 rfl (fun r_12 σ_11 h => ?_)
      refine f_if_eq C (t := 87) dX2_readThing_49 (by decide) rfl (fun hq_13 => ?_) (fun hq_13 => ?_)
      · replace h := Eq.mp (if_pos hq_13) h
        refine f_lv C (lv2 := [(0, .ref (B + 41)), (1, .int x1_2)]) [1, 0] rfl ?_
        exact s_X2_readThing_87 C _  _ h
      · replace h := Eq.mp (if_neg hq_13) h
        refine f_aload_n C (j := 1) dX2_readThing_52 rfl rfl rfl ?_
        refine f_getc C tF_X2_9 rfl o41 cs41_0 (by decide) dX2_readThing_53 rfl ?_
        refine f_callVv C (a := 10) (ci := 9) (As := fun B => []) o10 rfl (c_X9_advance   _ _ h) tM_X2_74 tI_X9_advance tS_X9_advance tN_X9 tC_X9_advance 0 dd_X9_advance rfl (by decide) (by decide) rfl (Nat.le_of_ble_eq_true rfl) dX2_readThing_56 rfl (fun σ_20 h => ?_)
        refine f_aload_n C (j := 1) dX2_readThing_59 rfl rfl rfl ?_
        refine f_getc C tF_X2_9 rfl o41 cs41_0 (by decide) dX2_readThing_60 rfl ?_
        refine f_iconst C (v := 0) dX2_readThing_63 kc0 rfl ?_
        refine f_bipush C (v := 99) dX2_readThing_64 kb99 rfl ?_
        refine f_callVi C (a := 10) (ci := 9) (As := fun B => [.int 0, .int 99]) o10 rfl (c_X9_passNumber  _ _ _ _ h) tM_X2_102 tI_X9_passNumber tS_X9_passNumber tN_X9 tC_X9_passNumber 2 dd_X9_passNumber rfl (by decide) (by decide) rfl (Nat.le_of_ble_eq_true rfl) dX2_readThing_66 rfl (fun r_23 σ_22 h => ?_)
        refine f_istore_n C (lv2 := [(2, .int r_23), (1, .int x1_2), (0, .ref (B + 41))]) dX2_readThing_69 rfl (by decide) rfl rfl ?_
        refine f_iload_n C (j := 0) dX2_readThing_70 rfl rfl rfl ?_
        refine f_iconst C (v := (-1)) dX2_readThing_71 kcm1 rfl ?_
        refine f_icmp_ne C (t := 77) dX2_readThing_72 (by decide) rfl (fun hq_24 => ?_) (fun hq_24 => ?_)
        · replace h := Eq.mp (if_neg hq_24) h
          refine f_aload_n C (j := 2) dX2_readThing_77 rfl rfl rfl ?_
          obtain ⟨hc_25, h⟩ := h
          refine f_getm C tF_X2_15 rfl o41 cn41_1 hc_25.z dX2_readThing_78 rfl ?_
          refine f_getc C tF_X2_106 rfl hc_25.o hc_25.c1 (Nat.succ_ne_zero _) dX2_readThing_81 rfl ?_
          refine f_iload_n C (j := 1) dX2_readThing_84 rfl rfl rfl ?_
          refine f_iload_n C (j := 0) dX2_readThing_85 rfl rfl rfl ?_
          obtain ⟨hi_26, h⟩ := h
          refine f_iast C (j := tn x1_2) hc_25.a1 hi_26 rfl dX2_readThing_86 rfl ?_
          refine f_lv C (lv2 := [(0, .ref (B + 41)), (1, .int x1_2)]) [2, 1] rfl ?_
          exact s_X2_readThing_87 C _  _ h
        · replace h := Eq.mp (if_pos hq_24) h
          refine f_iconst C (v := 0) dX2_readThing_75 kc0 rfl ?_
          exact f_zret C (Or.inl rfl) dX2_readThing_76 h
    · replace h := Eq.mp (if_pos hq_9) h
      refine f_iconst C (v := 0) dX2_readThing_26 kc0 rfl ?_
      exact f_zret C (Or.inl rfl) dX2_readThing_27 h
theorem c_X2_readThing (σ : Sto) (P : Int32 → Sto → Prop) (h : w_X2_readThing σ P) : Ct yX2_readThing cX2_readThing 3 (some .boolean) 3 64 (fun B => [.ref (B + 41)]) σ (QFi P) := Ct.of (by decide) (fun _ => Nat.le_of_ble_eq_true rfl) (fun B E C => s_X2_readThing C σ h)
def w_X9_seeKnown (a1 : Nat) (x2 : Int32) (σ : Sto) (P : Int32 → Sto → Prop) : Prop :=
  (if (gi σ 10 5) = 2 then isCity a1 ∧ w_X1_find a1 (gl σ 10 8) x2 σ (fun r_4 σ_3 => (if r_4 = (-1) then w_X9_fail 3 σ_3 (fun r_7 σ_6 => P r_4 σ_6) else P r_4 σ_3)) else w_X9_fail 2 σ (fun r_9 σ_8 => P (-1) σ_8))
theorem s_X9_seeKnown {B : Nat} {E : Nat → List (Nat × Value) → List Value → Sto → Prop} {P : Int32 → Sto → Prop} (C : Cy B E RX9 cX9_seeKnown 4 (some .int) 1 25 (Zm (QFi P))) (a1 : Nat) (x2 : Int32) (σ : Sto) (h : w_X9_seeKnown a1 x2 σ P) : E 0 [(0, .ref (B + 10)), (1, .ref (B + a1)), (2, .int x2)] [] σ := by
  unfold w_X9_seeKnown at h
  refine f_aload_n C (j := 0) dX9_seeKnown_0 rfl rfl rfl ?_
  refine f_geti C tF_X9_40 rfl o10 dX9_seeKnown_1 rfl ?_
  refine f_iconst C (v := 2) dX9_seeKnown_4 kc2 rfl ?_
  refine f_icmp_eq C (t := 16) dX9_seeKnown_5 (by decide) rfl (fun hq_1 => ?_) (fun hq_1 => ?_)
  · replace h := Eq.mp (if_pos hq_1) h
    refine f_aload_n C (j := 1) dX9_seeKnown_16 rfl rfl rfl ?_
    refine f_aload_n C (j := 0) dX9_seeKnown_17 rfl rfl rfl ?_
    refine f_getl C tF_X9_49 rfl o10 dX9_seeKnown_18 rfl ?_
    refine f_iload_n C (j := 2) dX9_seeKnown_21 rfl rfl rfl ?_
    obtain ⟨hc_2, h⟩ := h
    refine f_callVi C (a := a1) (ci := 1) (As := fun B => [.long (gl σ 10 8), .int x2]) hc_2.o rfl (c_X1_find  _ _ _ _ _ h) tM_X9_82 tI_X1_find tS_X1_find tN_X1 tC_X1_find 2 dd_X1_find rfl (by decide) (by decide) rfl (Nat.le_of_ble_eq_true rfl) dX9_seeKnown_22 rfl (fun r_4 σ_3 h => ?_)
    refine f_istore_n C (lv2 := [(3, .int r_4), (0, .ref (B + 10)), (1, .ref (B + a1)), (2, .int x2)]) dX9_seeKnown_25 rfl (by decide) rfl rfl ?_
    refine f_iload_n C (j := 0) dX9_seeKnown_26 rfl rfl rfl ?_
    refine f_iconst C (v := (-1)) dX9_seeKnown_27 kcm1 rfl ?_
    refine f_icmp_ne C (t := 37) dX9_seeKnown_28 (by decide) rfl (fun hq_5 => ?_) (fun hq_5 => ?_)
    · replace h := Eq.mp (if_neg hq_5) h
      refine f_iload_n C (j := 0) dX9_seeKnown_37 rfl rfl rfl ?_
      exact f_iret C dX9_seeKnown_38 h
    · replace h := Eq.mp (if_pos hq_5) h
      refine f_aload_n C (j := 1) dX9_seeKnown_31 rfl rfl rfl ?_
      refine f_iconst C (v := 3) dX9_seeKnown_32 kc3 rfl ?_
      refine f_callVi C (a := 10) (ci := 9) (As := fun B => [.int 3]) o10 rfl (c_X9_fail  _ _ _ h) tM_X9_75 tI_X9_fail tS_X9_fail tN_X9 tC_X9_fail 1 dd_X9_fail rfl (by decide) (by decide) rfl (Nat.le_of_ble_eq_true rfl) dX9_seeKnown_33 rfl (fun r_7 σ_6 h => ?_)
      refine f_pop C dX9_seeKnown_36 rfl rfl ?_
      refine f_iload_n C (j := 0) dX9_seeKnown_37 rfl rfl rfl ?_
      exact f_iret C dX9_seeKnown_38 h
  · replace h := Eq.mp (if_neg hq_1) h
    refine f_aload_n C (j := 0) dX9_seeKnown_8 rfl rfl rfl ?_
    refine f_iconst C (v := 2) dX9_seeKnown_9 kc2 rfl ?_
    refine f_callVi C (a := 10) (ci := 9) (As := fun B => [.int 2]) o10 rfl (c_X9_fail  _ _ _ h) tM_X9_75 tI_X9_fail tS_X9_fail tN_X9 tC_X9_fail 1 dd_X9_fail rfl (by decide) (by decide) rfl (Nat.le_of_ble_eq_true rfl) dX9_seeKnown_10 rfl (fun r_9 σ_8 h => ?_)
    refine f_pop C dX9_seeKnown_13 rfl rfl ?_
    refine f_iconst C (v := (-1)) dX9_seeKnown_14 kcm1 rfl ?_
    exact f_iret C dX9_seeKnown_15 h
theorem c_X9_seeKnown (a1 : Nat) (x2 : Int32) (σ : Sto) (P : Int32 → Sto → Prop) (h : w_X9_seeKnown a1 x2 σ P) : Ct yX9_seeKnown cX9_seeKnown 4 (some .int) 1 25 (fun B => [.ref (B + 10), .ref (B + a1), .int x2]) σ (QFi P) := Ct.of (by decide) (fun _ => Nat.le_of_ble_eq_true rfl) (fun B E C => s_X9_seeKnown C a1 x2 σ h)
def w_X9_passKnown (a1 : Nat) (x2 : Int32) (σ : Sto) (P : Int32 → Sto → Prop) : Prop :=
  w_X9_seeKnown a1 x2 σ (fun r_2 σ_1 => (if r_2 = (-1) then P r_2 σ_1 else w_X9_advance σ_1 (fun σ_4 => P r_2 σ_4)))
theorem s_X9_passKnown {B : Nat} {E : Nat → List (Nat × Value) → List Value → Sto → Prop} {P : Int32 → Sto → Prop} (C : Cy B E RX9 cX9_passKnown 4 (some .int) 2 48 (Zm (QFi P))) (a1 : Nat) (x2 : Int32) (σ : Sto) (h : w_X9_passKnown a1 x2 σ P) : E 0 [(0, .ref (B + 10)), (1, .ref (B + a1)), (2, .int x2)] [] σ := by
  unfold w_X9_passKnown at h
  refine f_aload_n C (j := 0) dX9_passKnown_0 rfl rfl rfl ?_
  refine f_aload_n C (j := 1) dX9_passKnown_1 rfl rfl rfl ?_
  refine f_iload_n C (j := 2) dX9_passKnown_2 rfl rfl rfl ?_
  refine f_callVi C (a := 10) (ci := 9) (As := fun B => [.ref (B + a1), .int x2]) o10 rfl (c_X9_seeKnown  _ _ _ _ h) tM_X9_88 tI_X9_seeKnown tS_X9_seeKnown tN_X9 tC_X9_seeKnown 2 dd_X9_seeKnown rfl (by decide) (by decide) rfl (Nat.le_of_ble_eq_true rfl) dX9_passKnown_3 rfl (fun r_2 σ_1 h => ?_)
  refine f_istore_n C (lv2 := [(3, .int r_2), (0, .ref (B + 10)), (1, .ref (B + a1)), (2, .int x2)]) dX9_passKnown_6 rfl (by decide) rfl rfl ?_
  refine f_iload_n C (j := 0) dX9_passKnown_7 rfl rfl rfl ?_
  refine f_iconst C (v := (-1)) dX9_passKnown_8 kcm1 rfl ?_
  refine f_icmp_eq C (t := 16) dX9_passKnown_9 (by decide) rfl (fun hq_3 => ?_) (fun hq_3 => ?_)
  · replace h := Eq.mp (if_pos hq_3) h
    refine f_iload_n C (j := 0) dX9_passKnown_16 rfl rfl rfl ?_
    exact f_iret C dX9_passKnown_17 h
  · replace h := Eq.mp (if_neg hq_3) h
    refine f_aload_n C (j := 1) dX9_passKnown_12 rfl rfl rfl ?_
    refine f_callVv C (a := 10) (ci := 9) (As := fun B => []) o10 rfl (c_X9_advance   _ _ h) tM_X9_59 tI_X9_advance tS_X9_advance tN_X9 tC_X9_advance 0 dd_X9_advance rfl (by decide) (by decide) rfl (Nat.le_of_ble_eq_true rfl) dX9_passKnown_13 rfl (fun σ_4 h => ?_)
    refine f_iload_n C (j := 0) dX9_passKnown_16 rfl rfl rfl ?_
    exact f_iret C dX9_passKnown_17 h
theorem c_X9_passKnown (a1 : Nat) (x2 : Int32) (σ : Sto) (P : Int32 → Sto → Prop) (h : w_X9_passKnown a1 x2 σ P) : Ct yX9_passKnown cX9_passKnown 4 (some .int) 2 48 (fun B => [.ref (B + 10), .ref (B + a1), .int x2]) σ (QFi P) := Ct.of (by decide) (fun _ => Nat.le_of_ble_eq_true rfl) (fun B E C => s_X9_passKnown C a1 x2 σ h)
def w_X9_passKeyword (x1 : Int32) (σ : Sto) (P : Int32 → Sto → Prop) : Prop :=
  w_X9_isKeyword x1 σ (fun r_2 σ_1 => (if r_2 = 0 then w_X9_fail 2 σ_1 (fun r_7 σ_6 => (r_7 = 0 ∨ r_7 = 1) ∧ P r_7 σ_6) else w_X9_advance σ_1 (fun σ_4 => P 1 σ_4)))
theorem s_X9_passKeyword {B : Nat} {E : Nat → List (Nat × Value) → List Value → Sto → Prop} {P : Int32 → Sto → Prop} (C : Cy B E RX9 cX9_passKeyword 2 (some .boolean) 2 41 (Zm (QFi P))) (x1 : Int32) (σ : Sto) (h : w_X9_passKeyword x1 σ P) : E 0 [(0, .ref (B + 10)), (1, .int x1)] [] σ := by
  unfold w_X9_passKeyword at h
  refine f_aload_n C (j := 0) dX9_passKeyword_0 rfl rfl rfl ?_
  refine f_iload_n C (j := 1) dX9_passKeyword_1 rfl rfl rfl ?_
  refine f_callVi C (a := 10) (ci := 9) (As := fun B => [.int x1]) o10 rfl (c_X9_isKeyword  _ _ _ h) tM_X9_71 tI_X9_isKeyword tS_X9_isKeyword tN_X9 tC_X9_isKeyword 1 dd_X9_isKeyword rfl (by decide) (by decide) rfl (Nat.le_of_ble_eq_true rfl) dX9_passKeyword_2 rfl (fun r_2 σ_1 h => ?_)
  refine f_if_ne C (t := 14) dX9_passKeyword_5 (by decide) rfl (fun hq_3 => ?_) (fun hq_3 => ?_)
  · replace h := Eq.mp (if_neg hq_3) h
    refine f_aload_n C (j := 0) dX9_passKeyword_14 rfl rfl rfl ?_
    refine f_callVv C (a := 10) (ci := 9) (As := fun B => []) o10 rfl (c_X9_advance   _ _ h) tM_X9_59 tI_X9_advance tS_X9_advance tN_X9 tC_X9_advance 0 dd_X9_advance rfl (by decide) (by decide) rfl (Nat.le_of_ble_eq_true rfl) dX9_passKeyword_15 rfl (fun σ_4 h => ?_)
    refine f_iconst C (v := 1) dX9_passKeyword_18 kc1 rfl ?_
    exact f_zret C (Or.inr rfl) dX9_passKeyword_19 h
  · replace h := Eq.mp (if_pos hq_3) h
    refine f_aload_n C (j := 0) dX9_passKeyword_8 rfl rfl rfl ?_
    refine f_iconst C (v := 2) dX9_passKeyword_9 kc2 rfl ?_
    refine f_callVi C (a := 10) (ci := 9) (As := fun B => [.int 2]) o10 rfl (c_X9_fail  _ _ _ h) tM_X9_75 tI_X9_fail tS_X9_fail tN_X9 tC_X9_fail 1 dd_X9_fail rfl (by decide) (by decide) rfl (Nat.le_of_ble_eq_true rfl) dX9_passKeyword_10 rfl (fun r_7 σ_6 h => ?_)
    obtain ⟨hb_8, h⟩ := h
    exact f_zret C hb_8 dX9_passKeyword_13 h
theorem c_X9_passKeyword (x1 : Int32) (σ : Sto) (P : Int32 → Sto → Prop) (h : w_X9_passKeyword x1 σ P) : Ct yX9_passKeyword cX9_passKeyword 2 (some .boolean) 2 41 (fun B => [.ref (B + 10), .int x1]) σ (QFi P) := Ct.of (by decide) (fun _ => Nat.le_of_ble_eq_true rfl) (fun B E C => s_X9_passKeyword C x1 σ h)
def w_X9_isSign (x1 : Int32) (σ : Sto) (P : Int32 → Sto → Prop) : Prop :=
  (if (gi σ 10 5) = 6 then (if (gi σ 10 7) = x1 then P 1 σ else P 0 σ) else P 0 σ)
theorem s_X9_isSign {B : Nat} {E : Nat → List (Nat × Value) → List Value → Sto → Prop} {P : Int32 → Sto → Prop} (C : Cy B E RX9 cX9_isSign 2 (some .boolean) 0 0 (Zm (QFi P))) (x1 : Int32) (σ : Sto) (h : w_X9_isSign x1 σ P) : E 0 [(0, .ref (B + 10)), (1, .int x1)] [] σ := by
  unfold w_X9_isSign at h
  refine f_aload_n C (j := 0) dX9_isSign_0 rfl rfl rfl ?_
  refine f_geti C tF_X9_40 rfl o10 dX9_isSign_1 rfl ?_
  refine f_bipush C (v := 6) dX9_isSign_4 kb6 rfl ?_
  refine f_icmp_ne C (t := 21) dX9_isSign_6 (by decide) rfl (fun hq_1 => ?_) (fun hq_1 => ?_)
  · replace h := Eq.mp (if_neg hq_1) h
    refine f_iconst C (v := 0) dX9_isSign_21 kc0 rfl ?_
    exact f_zret C (Or.inl rfl) dX9_isSign_22 h
  · replace h := Eq.mp (if_pos hq_1) h
    refine f_aload_n C (j := 0) dX9_isSign_9 rfl rfl rfl ?_
    refine f_geti C tF_X9_46 rfl o10 dX9_isSign_10 rfl ?_
    refine f_iload_n C (j := 1) dX9_isSign_13 rfl rfl rfl ?_
    refine f_icmp_ne C (t := 21) dX9_isSign_14 (by decide) rfl (fun hq_2 => ?_) (fun hq_2 => ?_)
    · replace h := Eq.mp (if_neg hq_2) h
      refine f_iconst C (v := 0) dX9_isSign_21 kc0 rfl ?_
      exact f_zret C (Or.inl rfl) dX9_isSign_22 h
    · replace h := Eq.mp (if_pos hq_2) h
      refine f_iconst C (v := 1) dX9_isSign_17 kc1 rfl ?_
      refine f_goto C (t := 22) dX9_isSign_18 (by decide) ?_
      exact f_zret C (Or.inr rfl) dX9_isSign_22 h
theorem c_X9_isSign (x1 : Int32) (σ : Sto) (P : Int32 → Sto → Prop) (h : w_X9_isSign x1 σ P) : Ct yX9_isSign cX9_isSign 2 (some .boolean) 0 0 (fun B => [.ref (B + 10), .int x1]) σ (QFi P) := Ct.of (by decide) (fun _ => Nat.le_of_ble_eq_true rfl) (fun B E C => s_X9_isSign C x1 σ h)
def w_X2_readThings_27 (K4 : Int32 × Int32 × Sto → Prop) (x1 : Int32) (x2 : Int32) (x3 : Int32) (σ : Sto) (P : Int32 → Sto → Prop) : Prop :=
  isCity (gr σ 41 1) ∧ w_X9_seeKnown (gr σ 41 1) 0 σ (fun r_5 σ_4 => (if r_5 = (-1) then P (-1) σ_4 else (if r_5 = x1 then w_X9_fail 5 σ_4 (fun r_15 σ_14 => P (-1) σ_14) else ∀ x2_8 : Int32, x2_8 = x2 ||| (1 <<< (r_5 &&& 31)) → w_X9_advance σ_4 (fun σ_10 => ∀ x3_12 : Int32, x3_12 = x3 + 1 → K4 (x2_8, x3_12, σ_10)))))
theorem s_X2_readThings_27 {B : Nat} {E : Nat → List (Nat × Value) → List Value → Sto → Prop} {P : Int32 → Sto → Prop} (C : Cy B E RX2 cX2_readThings 5 (some .int) 2 48 (Zm (QFi P))) (x1 : Int32) (x2 : Int32) (x3 : Int32) (K4 : Int32 × Int32 × Sto → Prop) (hK4 : ∀ (x2 : Int32) (x3 : Int32) (σ : Sto), K4 (x2, x3, σ) → E 4 [(0, .ref (B + 41)), (1, .int x1), (2, .int x2), (3, .int x3)] [] σ) (σ : Sto) (h : w_X2_readThings_27 K4 x1 x2 x3 σ P) : E 27 [(0, .ref (B + 41)), (1, .int x1), (2, .int x2), (3, .int x3)] [] σ := by
  unfold w_X2_readThings_27 at h
  refine f_aload_n C (j := 0) dX2_readThings_27 rfl rfl rfl ?_
  refine f_getc C tF_X2_9 rfl o41 cs41_0 (by decide) dX2_readThings_28 rfl ?_
  refine f_aload_n C (j := 0) dX2_readThings_31 rfl rfl rfl ?_
  obtain ⟨hc_3, h⟩ := h
  refine f_getm C tF_X2_15 rfl o41 cn41_1 hc_3.z dX2_readThings_32 rfl ?_
  refine f_iconst C (v := 0) dX2_readThings_35 kc0 rfl ?_
  refine f_callVi C (a := 10) (ci := 9) (As := fun B => [.ref (B + (gr σ 41 1)), .int 0]) o10 rfl (c_X9_seeKnown  _ _ _ _ h) tM_X2_116 tI_X9_seeKnown tS_X9_seeKnown tN_X9 tC_X9_seeKnown 2 dd_X9_seeKnown rfl (by decide) (by decide) rfl (Nat.le_of_ble_eq_true rfl) dX2_readThings_36 rfl (fun r_5 σ_4 h => ?_)
  refine f_istore C (lv2 := [(4, .int r_5), (0, .ref (B + 41)), (1, .int x1), (2, .int x2), (3, .int x3)]) dX2_readThings_39 (by decide) rfl rfl ?_
  refine f_iload C (j := 0) dX2_readThings_41 rfl rfl ?_
  refine f_iconst C (v := (-1)) dX2_readThings_43 kcm1 rfl ?_
  refine f_icmp_ne C (t := 49) dX2_readThings_44 (by decide) rfl (fun hq_6 => ?_) (fun hq_6 => ?_)
  · replace h := Eq.mp (if_neg hq_6) h
    refine f_iload C (j := 0) dX2_readThings_49 rfl rfl ?_
    refine f_iload_n C (j := 2) dX2_readThings_51 rfl rfl rfl ?_
    refine f_icmp_ne C (t := 66) dX2_readThings_52 (by decide) rfl (fun hq_7 => ?_) (fun hq_7 => ?_)
    · replace h := Eq.mp (if_neg hq_7) h
      refine f_iload_n C (j := 3) dX2_readThings_66 rfl rfl rfl ?_
      refine f_iconst C (v := 1) dX2_readThings_67 kc1 rfl ?_
      refine f_iload C (j := 0) dX2_readThings_68 rfl rfl ?_
      refine f_ishl C dX2_readThings_70 rfl ?_
      refine f_ior C dX2_readThings_71 rfl ?_
      refine f_name (fun x2_8 hx_9 => ?_)
      replace h := h x2_8 hx_9
      refine f_istore_n C (lv2 := [(2, .int x2_8), (4, .int r_5), (0, .ref (B + 41)), (1, .int x1), (3, .int x3)]) dX2_readThings_72 rfl (by decide) rfl rfl ?_
      refine f_aload_n C (j := 2) dX2_readThings_73 rfl rfl rfl ?_
      refine f_getc C tF_X2_9 rfl o41 cs41_0 (by decide) dX2_readThings_74 rfl ?_
      refine f_callVv C (a := 10) (ci := 9) (As := fun B => []) o10 rfl (c_X9_advance   _ _ h) tM_X2_74 tI_X9_advance tS_X9_advance tN_X9 tC_X9_advance 0 dd_X9_advance rfl (by decide) (by decide) rfl (Nat.le_of_ble_eq_true rfl) dX2_readThings_77 rfl (fun σ_10 h => ?_)
      obtain ⟨x3_12, hx_13⟩ : ∃ y : Int32, y = x3 + 1 := ⟨_, rfl⟩
      replace h := h x3_12 hx_13
      refine f_iinc C (j := 4) (v := x3_12) (lv2 := [(3, .int x3_12), (2, .int x2_8), (4, .int r_5), (0, .ref (B + 41)), (1, .int x1)]) dX2_readThings_80 rfl hx_13.symm (by decide) rfl rfl ?_
      refine f_goto C (t := 4) dX2_readThings_83 (by decide) ?_
      refine f_lv C (lv2 := [(0, .ref (B + 41)), (1, .int x1), (2, .int x2_8), (3, .int x3_12)]) [3, 4, 1, 0] rfl ?_
      exact hK4 _ _ _ h
    · replace h := Eq.mp (if_pos hq_7) h
      refine f_aload_n C (j := 1) dX2_readThings_55 rfl rfl rfl ?_
      refine f_getc C tF_X2_9 rfl o41 cs41_0 (by decide) dX2_readThings_56 rfl ?_
      refine f_iconst C (v := 5) dX2_readThings_59 kc5 rfl ?_
      refine f_callVi C (a := 10) (ci := 9) (As := fun B => [.int 5]) o10 rfl (c_X9_fail  _ _ _ h) tM_X2_46 tI_X9_fail tS_X9_fail tN_X9 tC_X9_fail 1 dd_X9_fail rfl (by decide) (by decide) rfl (Nat.le_of_ble_eq_true rfl) dX2_readThings_60 rfl (fun r_15 σ_14 h => ?_)
      refine f_pop C dX2_readThings_63 rfl rfl ?_
      refine f_iconst C (v := (-1)) dX2_readThings_64 kcm1 rfl ?_
      exact f_iret C dX2_readThings_65 h
  · replace h := Eq.mp (if_pos hq_6) h
    refine f_iconst C (v := (-1)) dX2_readThings_47 kcm1 rfl ?_
    exact f_iret C dX2_readThings_48 h
def w_X2_readThings_4 (K4 : Int32 × Int32 × Sto → Prop) (x1 : Int32) (x2 : Int32) (x3 : Int32) (σ : Sto) (P : Int32 → Sto → Prop) : Prop :=
  (if 900 ≤ x3 then P x2 σ else (if x2 = 0 then w_X2_readThings_27 K4 x1 x2 x3 σ P else w_X9_isSign 59 σ (fun r_17 σ_16 => (if r_17 = 0 then w_X2_readThings_27 K4 x1 x2 x3 σ_16 P else P x2 σ_16))))
theorem s_X2_readThings_4 {B : Nat} {E : Nat → List (Nat × Value) → List Value → Sto → Prop} {P : Int32 → Sto → Prop} (C : Cy B E RX2 cX2_readThings 5 (some .int) 2 48 (Zm (QFi P))) (x1 : Int32) (x2 : Int32) (x3 : Int32) (K4 : Int32 × Int32 × Sto → Prop) (hK4 : ∀ (x2 : Int32) (x3 : Int32) (σ : Sto), K4 (x2, x3, σ) → E 4 [(0, .ref (B + 41)), (1, .int x1), (2, .int x2), (3, .int x3)] [] σ) (σ : Sto) (h : w_X2_readThings_4 K4 x1 x2 x3 σ P) : E 4 [(0, .ref (B + 41)), (1, .int x1), (2, .int x2), (3, .int x3)] [] σ := by
  unfold w_X2_readThings_4 at h
  refine f_iload_n C (j := 3) dX2_readThings_4 rfl rfl rfl ?_
  refine f_sipush C (v := 900) dX2_readThings_5 ks900 rfl ?_
  refine f_icmp_ge C (t := 86) dX2_readThings_8 (by decide) rfl (fun hq_1 => ?_) (fun hq_1 => ?_)
  · replace h := Eq.mp (if_pos hq_1) h
    refine f_iload_n C (j := 2) dX2_readThings_86 rfl rfl rfl ?_
    exact f_iret C dX2_readThings_87 h
  · replace h := Eq.mp (if_neg hq_1) h
    refine f_iload_n C (j := 2) dX2_readThings_11 rfl rfl rfl ?_
    refine f_if_eq C (t := 27) dX2_readThings_12 (by decide) rfl (fun hq_2 => ?_) (fun hq_2 => ?_)
    · replace h := Eq.mp (if_pos hq_2) h
      exact s_X2_readThings_27 C _ _ _  K4 hK4 _ h
    · replace h := Eq.mp (if_neg hq_2) h
      refine f_aload_n C (j := 0) dX2_readThings_15 rfl rfl rfl ?_
      refine f_getc C tF_X2_9 rfl o41 cs41_0 (by decide) dX2_readThings_16 rfl ?_
      refine f_bipush C (v := 59) dX2_readThings_19 kb59 rfl ?_
      refine f_callVi C (a := 10) (ci := 9) (As := fun B => [.int 59]) o10 rfl (c_X9_isSign  _ _ _ h) tM_X2_113 tI_X9_isSign tS_X9_isSign tN_X9 tC_X9_isSign 1 dd_X9_isSign rfl (by decide) (by decide) rfl (Nat.le_of_ble_eq_true rfl) dX2_readThings_21 rfl (fun r_17 σ_16 h => ?_)
      refine f_if_ne C (t := 86) dX2_readThings_24 (by decide) rfl (fun hq_18 => ?_) (fun hq_18 => ?_)
      · replace h := Eq.mp (if_neg hq_18) h
        refine f_iload_n C (j := 2) dX2_readThings_86 rfl rfl rfl ?_
        exact f_iret C dX2_readThings_87 h
      · replace h := Eq.mp (if_pos hq_18) h
        exact s_X2_readThings_27 C _ _ _  K4 hK4 _ h
def w_X2_readThings (x1 : Int32) (σ : Sto) (P : Int32 → Sto → Prop) : Prop :=
  Lp (fun (K : Int32 × Int32 × Sto → Prop) s => w_X2_readThings_4 K x1 s.1 s.2.1 s.2.2 P) (0, 0, σ)
theorem s_X2_readThings {B : Nat} {E : Nat → List (Nat × Value) → List Value → Sto → Prop} {P : Int32 → Sto → Prop} (C : Cy B E RX2 cX2_readThings 5 (some .int) 2 48 (Zm (QFi P))) (x1 : Int32) (σ : Sto) (h : w_X2_readThings x1 σ P) : E 0 [(0, .ref (B + 41)), (1, .int x1)] [] σ := by
  unfold w_X2_readThings at h
  refine f_iconst C (v := 0) dX2_readThings_0 kc0 rfl ?_
  refine f_istore_n C (lv2 := [(2, .int 0), (0, .ref (B + 41)), (1, .int x1)]) dX2_readThings_1 rfl (by decide) rfl rfl ?_
  refine f_iconst C (v := 0) dX2_readThings_2 kc0 rfl ?_
  refine f_istore_n C (lv2 := [(3, .int 0), (2, .int 0), (0, .ref (B + 41)), (1, .int x1)]) dX2_readThings_3 rfl (by decide) rfl rfl ?_
  refine f_lv C (lv2 := [(0, .ref (B + 41)), (1, .int x1), (2, .int 0), (3, .int 0)]) [2, 3, 1, 0] rfl ?_
  exact Lp_sound (fun s : Int32 × Int32 × Sto => E 4 [(0, .ref (B + 41)), (1, .int x1), (2, .int s.1), (3, .int s.2.1)] [] s.2.2) h (fun K s hK h => s_X2_readThings_4 C x1 s.1 s.2.1 K (fun x2 x3 σ hk => hK (x2, x3, σ) hk) s.2.2 h)
theorem c_X2_readThings (x1 : Int32) (σ : Sto) (P : Int32 → Sto → Prop) (h : w_X2_readThings x1 σ P) : Ct yX2_readThings cX2_readThings 5 (some .int) 2 48 (fun B => [.ref (B + 41), .int x1]) σ (QFi P) := Ct.of (by decide) (fun _ => Nat.le_of_ble_eq_true rfl) (fun B E C => s_X2_readThings C x1 σ h)
def w_X2_readMakes (σ : Sto) (P : Int32 → Sto → Prop) : Prop :=
  isCity (gr σ 41 1) ∧ ∀ x1_2 : Int32, x1_2 = gi σ (gr σ 41 1) 9 → w_X2_begin x1_2 16 σ (fun r_5 σ_4 => (if r_5 = 0 then P 0 σ_4 else isCity (gr σ_4 41 1) ∧ w_X9_passKnown (gr σ_4 41 1) 0 σ_4 (fun r_9 σ_8 => (if r_9 = (-1) then P 0 σ_8 else w_X9_passKeyword 4 σ_8 (fun r_12 σ_11 => (if r_12 = 0 then P 0 σ_11 else w_X2_readThings r_9 σ_11 (fun r_15 σ_14 => (if r_15 = (-1) then P 0 σ_14 else isCity (gr σ_14 41 1) ∧ vp_in x1_2 16 ∧ ∀ σ_19 : Sto, σ_19 = si σ_14 ((gr σ_14 41 1) + 3) (tn x1_2) r_9 → isCity (gr σ_19 41 1) ∧ ∀ σ_22 : Sto, σ_22 = si σ_19 ((gr σ_19 41 1) + 4) (tn x1_2) r_15 → isCity (gr σ_22 41 1) ∧ P 1 (si σ_22 (gr σ_22 41 1) 9 ((gi σ_22 (gr σ_22 41 1) 9) + 1))))))))))
theorem s_X2_readMakes {B : Nat} {E : Nat → List (Nat × Value) → List Value → Sto → Prop} {P : Int32 → Sto → Prop} (C : Cy B E RX2 cX2_readMakes 4 (some .boolean) 3 72 (Zm (QFi P))) (σ : Sto) (h : w_X2_readMakes σ P) : E 0 [(0, .ref (B + 41))] [] σ := by
  unfold w_X2_readMakes at h
  refine f_aload_n C (j := 0) dX2_readMakes_0 rfl rfl rfl ?_
  obtain ⟨hc_1, h⟩ := h
  refine f_getm C tF_X2_15 rfl o41 cn41_1 hc_1.z dX2_readMakes_1 rfl ?_
  refine f_geti C tF_X2_120 rfl hc_1.o dX2_readMakes_4 rfl ?_
  refine f_name (fun x1_2 hx_3 => ?_)
  replace h := h x1_2 hx_3
  refine f_istore_n C (lv2 := [(1, .int x1_2), (0, .ref (B + 41))]) dX2_readMakes_7 rfl (by decide) rfl rfl ?_
  refine f_aload_n C (j := 1) dX2_readMakes_8 rfl rfl rfl ?_
  refine f_iload_n C (j := 0) dX2_readMakes_9 rfl rfl rfl ?_
  refine f_bipush C (v := 16) dX2_readMakes_10 kb16 rfl ?_
  refine f_callVi C (a := 41) (ci := 2) (As := fun B => [.int x1_2, .int 16]) o41 rfl (c_X2_begin  _ _ _ _ h) tM_X2_92 tI_X2_begin tS_X2_begin tN_X2 tC_X2_begin 2 dd_X2_begin rfl (by decide) (by decide) rfl (Nat.le_of_ble_eq_true rfl) dX2_readMakes_12 rfl (fun r_5 σ_4 h => ?_)
  refine f_if_ne C (t := 20) dX2_readMakes_15 (by decide) rfl (fun hq_6 => ?_) (fun hq_6 => ?_)
  · replace h := Eq.mp (if_neg hq_6) h
    refine f_aload_n C (j := 1) dX2_readMakes_20 rfl rfl rfl ?_
    refine f_getc C tF_X2_9 rfl o41 cs41_0 (by decide) dX2_readMakes_21 rfl ?_
    refine f_aload_n C (j := 1) dX2_readMakes_24 rfl rfl rfl ?_
    obtain ⟨hc_7, h⟩ := h
    refine f_getm C tF_X2_15 rfl o41 cn41_1 hc_7.z dX2_readMakes_25 rfl ?_
    refine f_iconst C (v := 0) dX2_readMakes_28 kc0 rfl ?_
    refine f_callVi C (a := 10) (ci := 9) (As := fun B => [.ref (B + (gr σ_4 41 1)), .int 0]) o10 rfl (c_X9_passKnown  _ _ _ _ h) tM_X2_123 tI_X9_passKnown tS_X9_passKnown tN_X9 tC_X9_passKnown 2 dd_X9_passKnown rfl (by decide) (by decide) rfl (Nat.le_of_ble_eq_true rfl) dX2_readMakes_29 rfl (fun r_9 σ_8 h => ?_)
    refine f_istore_n C (lv2 := [(2, .int r_9), (1, .int x1_2), (0, .ref (B + 41))]) dX2_readMakes_32 rfl (by decide) rfl rfl ?_
    refine f_iload_n C (j := 0) dX2_readMakes_33 rfl rfl rfl ?_
    refine f_iconst C (v := (-1)) dX2_readMakes_34 kcm1 rfl ?_
    refine f_icmp_eq C (t := 49) dX2_readMakes_35 (by decide) rfl (fun hq_10 => ?_) (fun hq_10 => ?_)
    · replace h := Eq.mp (if_pos hq_10) h
      refine f_iconst C (v := 0) dX2_readMakes_49 kc0 rfl ?_
      exact f_zret C (Or.inl rfl) dX2_readMakes_50 h
    · replace h := Eq.mp (if_neg hq_10) h
      refine f_aload_n C (j := 2) dX2_readMakes_38 rfl rfl rfl ?_
      refine f_getc C tF_X2_9 rfl o41 cs41_0 (by decide) dX2_readMakes_39 rfl ?_
      refine f_iconst C (v := 4) dX2_readMakes_42 kc4 rfl ?_
      refine f_callVi C (a := 10) (ci := 9) (As := fun B => [.int 4]) o10 rfl (c_X9_passKeyword  _ _ _ h) tM_X2_126 tI_X9_passKeyword tS_X9_passKeyword tN_X9 tC_X9_passKeyword 1 dd_X9_passKeyword rfl (by decide) (by decide) rfl (Nat.le_of_ble_eq_true rfl) dX2_readMakes_43 rfl (fun r_12 σ_11 h => ?_)
      refine f_if_ne C (t := 51) dX2_readMakes_46 (by decide) rfl (fun hq_13 => ?_) (fun hq_13 => ?_)
      · replace h := Eq.mp (if_neg hq_13) h
        refine f_aload_n C (j := 2) dX2_readMakes_51 rfl rfl rfl ?_
        refine f_iload_n C (j := 0) dX2_readMakes_52 rfl rfl rfl ?_
        refine f_callVi C (a := 41) (ci := 2) (As := fun B => [.int r_9]) o41 rfl (c_X2_readThings  _ _ _ h) tM_X2_129 tI_X2_readThings tS_X2_readThings tN_X2 tC_X2_readThings 1 dd_X2_readThings rfl (by decide) (by decide) rfl (Nat.le_of_ble_eq_true rfl) dX2_readMakes_53 rfl (fun r_15 σ_14 h => ?_)
        refine f_istore_n C (lv2 := [(3, .int r_15), (2, .int r_9), (1, .int x1_2), (0, .ref (B + 41))]) dX2_readMakes_56 rfl (by decide) rfl rfl ?_
        refine f_iload_n C (j := 0) dX2_readMakes_57 rfl rfl rfl ?_
        refine f_iconst C (v := (-1)) dX2_readMakes_58 kcm1 rfl ?_
        refine f_icmp_ne C (t := 64) dX2_readMakes_59 (by decide) rfl (fun hq_16 => ?_) (fun hq_16 => ?_)
        · replace h := Eq.mp (if_neg hq_16) h
          refine f_aload_n C (j := 3) dX2_readMakes_64 rfl rfl rfl ?_
          obtain ⟨hc_17, h⟩ := h
          refine f_getm C tF_X2_15 rfl o41 cn41_1 hc_17.z dX2_readMakes_65 rfl ?_
          refine f_getc C tF_X2_133 rfl hc_17.o hc_17.c2 (Nat.succ_ne_zero _) dX2_readMakes_68 rfl ?_
          refine f_iload_n C (j := 2) dX2_readMakes_71 rfl rfl rfl ?_
          refine f_iload_n C (j := 1) dX2_readMakes_72 rfl rfl rfl ?_
          obtain ⟨hi_18, h⟩ := h
          refine f_iast C (j := tn x1_2) hc_17.a2 hi_18 rfl dX2_readMakes_73 rfl ?_
          refine f_aload_n C (j := 3) dX2_readMakes_74 rfl rfl rfl ?_
          refine f_names (fun σ_19 hσ_20 => ?_)
          replace h := h σ_19 hσ_20
          obtain ⟨hc_21, h⟩ := h
          refine f_getm C tF_X2_15 rfl o41 cn41_1 hc_21.z dX2_readMakes_75 rfl ?_
          refine f_getc C tF_X2_136 rfl hc_21.o hc_21.c3 (Nat.succ_ne_zero _) dX2_readMakes_78 rfl ?_
          refine f_iload_n C (j := 2) dX2_readMakes_81 rfl rfl rfl ?_
          refine f_iload_n C (j := 0) dX2_readMakes_82 rfl rfl rfl ?_
          refine f_iast C (j := tn x1_2) hc_21.a3 hi_18 rfl dX2_readMakes_83 rfl ?_
          refine f_aload_n C (j := 3) dX2_readMakes_84 rfl rfl rfl ?_
          refine f_names (fun σ_22 hσ_23 => ?_)
          replace h := h σ_22 hσ_23
          obtain ⟨hc_24, h⟩ := h
          refine f_getm C tF_X2_15 rfl o41 cn41_1 hc_24.z dX2_readMakes_85 rfl ?_
          refine f_dup C dX2_readMakes_88 rfl rfl ?_
          refine f_geti C tF_X2_120 rfl hc_24.o dX2_readMakes_89 rfl ?_
          refine f_iconst C (v := 1) dX2_readMakes_92 kc1 rfl ?_
          refine f_iadd C dX2_readMakes_93 rfl ?_
          refine f_puti C tF_X2_120 fm_1_9 rfl hc_24.o dX2_readMakes_94 rfl ?_
          refine f_iconst C (v := 1) dX2_readMakes_97 kc1 rfl ?_
          exact f_zret C (Or.inr rfl) dX2_readMakes_98 h
        · replace h := Eq.mp (if_pos hq_16) h
          refine f_iconst C (v := 0) dX2_readMakes_62 kc0 rfl ?_
          exact f_zret C (Or.inl rfl) dX2_readMakes_63 h
      · replace h := Eq.mp (if_pos hq_13) h
        refine f_iconst C (v := 0) dX2_readMakes_49 kc0 rfl ?_
        exact f_zret C (Or.inl rfl) dX2_readMakes_50 h
  · replace h := Eq.mp (if_pos hq_6) h
    refine f_iconst C (v := 0) dX2_readMakes_18 kc0 rfl ?_
    exact f_zret C (Or.inl rfl) dX2_readMakes_19 h
theorem c_X2_readMakes (σ : Sto) (P : Int32 → Sto → Prop) (h : w_X2_readMakes σ P) : Ct yX2_readMakes cX2_readMakes 4 (some .boolean) 3 72 (fun B => [.ref (B + 41)]) σ (QFi P) := Ct.of (by decide) (fun _ => Nat.le_of_ble_eq_true rfl) (fun B E C => s_X2_readMakes C σ h)
def w_X2_readWork (σ : Sto) (P : Int32 → Sto → Prop) : Prop :=
  isCity (gr σ 41 1) ∧ ∀ x1_2 : Int32, x1_2 = gi σ (gr σ 41 1) 10 → w_X2_begin x1_2 6 σ (fun r_5 σ_4 => (if r_5 = 0 then P 0 σ_4 else w_X2_readNewName (12 + x1_2) σ_4 (fun r_8 σ_7 => (if r_8 = 0 then P 0 σ_7 else w_X9_passKeyword 6 σ_7 (fun r_11 σ_10 => (if r_11 = 0 then P 0 σ_10 else w_X2_readThings (-1) σ_10 (fun r_14 σ_13 => (if r_14 = (-1) then P 0 σ_13 else isCity (gr σ_13 41 1) ∧ vp_in x1_2 6 ∧ ∀ σ_18 : Sto, σ_18 = si σ_13 ((gr σ_13 41 1) + 5) (tn x1_2) r_14 → isCity (gr σ_18 41 1) ∧ P 1 (si σ_18 (gr σ_18 41 1) 10 ((gi σ_18 (gr σ_18 41 1) 10) + 1))))))))))
theorem s_X2_readWork {B : Nat} {E : Nat → List (Nat × Value) → List Value → Sto → Prop} {P : Int32 → Sto → Prop} (C : Cy B E RX2 cX2_readWork 3 (some .boolean) 3 72 (Zm (QFi P))) (σ : Sto) (h : w_X2_readWork σ P) : E 0 [(0, .ref (B + 41))] [] σ := by
  unfold w_X2_readWork at h
  refine f_aload_n C (j := 0) dX2_readWork_0 rfl rfl rfl ?_
  obtain ⟨hc_1, h⟩ := h
  refine f_getm C tF_X2_15 rfl o41 cn41_1 hc_1.z dX2_readWork_1 rfl ?_
  refine f_geti C tF_X2_139 rfl hc_1.o dX2_readWork_4 rfl ?_
  refine f_name (fun x1_2 hx_3 => ?_)
  replace h := h x1_2 hx_3
  refine f_istore_n C (lv2 := [(1, .int x1_2), (0, .ref (B + 41))]) dX2_readWork_7 rfl (by decide) rfl rfl ?_
  refine f_aload_n C (j := 1) dX2_readWork_8 rfl rfl rfl ?_
  refine f_iload_n C (j := 0) dX2_readWork_9 rfl rfl rfl ?_
  refine f_bipush C (v := 6) dX2_readWork_10 kb6 rfl ?_
  refine f_callVi C (a := 41) (ci := 2) (As := fun B => [.int x1_2, .int 6]) o41 rfl (c_X2_begin  _ _ _ _ h) tM_X2_92 tI_X2_begin tS_X2_begin tN_X2 tC_X2_begin 2 dd_X2_begin rfl (by decide) (by decide) rfl (Nat.le_of_ble_eq_true rfl) dX2_readWork_12 rfl (fun r_5 σ_4 h => ?_)
  refine f_if_eq C (t := 41) dX2_readWork_15 (by decide) rfl (fun hq_6 => ?_) (fun hq_6 => ?_)
  · replace h := Eq.mp (if_pos hq_6) h
    refine f_iconst C (v := 0) dX2_readWork_41 kc0 rfl ?_
    exact f_zret C (Or.inl rfl) dX2_readWork_42 h
  · replace h := Eq.mp (if_neg hq_6) h
    refine f_aload_n C (j := 1) dX2_readWork_18 rfl rfl rfl ?_
    refine f_bipush C (v := 12) dX2_readWork_19 kb12 rfl ?_
    refine f_iload_n C (j := 0) dX2_readWork_21 rfl rfl rfl ?_
    refine f_iadd C dX2_readWork_22 rfl ?_
    refine f_callVi C (a := 41) (ci := 2) (As := fun B => [.int (12 + x1_2)]) o41 rfl (c_X2_readNewName  _ _ _ h) tM_X2_96 tI_X2_readNewName tS_X2_readNewName tN_X2 tC_X2_readNewName 1 dd_X2_readNewName rfl (by decide) (by decide) rfl (Nat.le_of_ble_eq_true rfl) dX2_readWork_23 rfl (fun r_8 σ_7 h => ?_)
    refine f_if_eq C (t := 41) dX2_readWork_26 (by decide) rfl (fun hq_9 => ?_) (fun hq_9 => ?_)
    · replace h := Eq.mp (if_pos hq_9) h
      refine f_iconst C (v := 0) dX2_readWork_41 kc0 rfl ?_
      exact f_zret C (Or.inl rfl) dX2_readWork_42 h
    · replace h := Eq.mp (if_neg hq_9) h
      refine f_aload_n C (j := 1) dX2_readWork_29 rfl rfl rfl ?_
      refine f_getc C tF_X2_9 rfl o41 cs41_0 (by decide) dX2_readWork_30 rfl ?_
      refine f_bipush C (v := 6) dX2_readWork_33 kb6 rfl ?_
      refine f_callVi C (a := 10) (ci := 9) (As := fun B => [.int 6]) o10 rfl (c_X9_passKeyword  _ _ _ h) tM_X2_126 tI_X9_passKeyword tS_X9_passKeyword tN_X9 tC_X9_passKeyword 1 dd_X9_passKeyword rfl (by decide) (by decide) rfl (Nat.le_of_ble_eq_true rfl) dX2_readWork_35 rfl (fun r_11 σ_10 h => ?_)
      refine f_if_ne C (t := 43) dX2_readWork_38 (by decide) rfl (fun hq_12 => ?_) (fun hq_12 => ?_)
      · replace h := Eq.mp (if_neg hq_12) h
        refine f_aload_n C (j := 1) dX2_readWork_43 rfl rfl rfl ?_
        refine f_iconst C (v := (-1)) dX2_readWork_44 kcm1 rfl ?_
        refine f_callVi C (a := 41) (ci := 2) (As := fun B => [.int (-1)]) o41 rfl (c_X2_readThings  _ _ _ h) tM_X2_129 tI_X2_readThings tS_X2_readThings tN_X2 tC_X2_readThings 1 dd_X2_readThings rfl (by decide) (by decide) rfl (Nat.le_of_ble_eq_true rfl) dX2_readWork_45 rfl (fun r_14 σ_13 h => ?_)
        refine f_istore_n C (lv2 := [(2, .int r_14), (1, .int x1_2), (0, .ref (B + 41))]) dX2_readWork_48 rfl (by decide) rfl rfl ?_
        refine f_iload_n C (j := 0) dX2_readWork_49 rfl rfl rfl ?_
        refine f_iconst C (v := (-1)) dX2_readWork_50 kcm1 rfl ?_
        refine f_icmp_ne C (t := 56) dX2_readWork_51 (by decide) rfl (fun hq_15 => ?_) (fun hq_15 => ?_)
        · replace h := Eq.mp (if_neg hq_15) h
          refine f_aload_n C (j := 2) dX2_readWork_56 rfl rfl rfl ?_
          obtain ⟨hc_16, h⟩ := h
          refine f_getm C tF_X2_15 rfl o41 cn41_1 hc_16.z dX2_readWork_57 rfl ?_
          refine f_getc C tF_X2_142 rfl hc_16.o hc_16.c4 (Nat.succ_ne_zero _) dX2_readWork_60 rfl ?_
          refine f_iload_n C (j := 1) dX2_readWork_63 rfl rfl rfl ?_
          refine f_iload_n C (j := 0) dX2_readWork_64 rfl rfl rfl ?_
          obtain ⟨hi_17, h⟩ := h
          refine f_iast C (j := tn x1_2) hc_16.a4 hi_17 rfl dX2_readWork_65 rfl ?_
          refine f_aload_n C (j := 2) dX2_readWork_66 rfl rfl rfl ?_
          refine f_names (fun σ_18 hσ_19 => ?_)
          replace h := h σ_18 hσ_19
          obtain ⟨hc_20, h⟩ := h
          refine f_getm C tF_X2_15 rfl o41 cn41_1 hc_20.z dX2_readWork_67 rfl ?_
          refine f_dup C dX2_readWork_70 rfl rfl ?_
          refine f_geti C tF_X2_139 rfl hc_20.o dX2_readWork_71 rfl ?_
          refine f_iconst C (v := 1) dX2_readWork_74 kc1 rfl ?_
          refine f_iadd C dX2_readWork_75 rfl ?_
          refine f_puti C tF_X2_139 fm_1_10 rfl hc_20.o dX2_readWork_76 rfl ?_
          refine f_iconst C (v := 1) dX2_readWork_79 kc1 rfl ?_
          exact f_zret C (Or.inr rfl) dX2_readWork_80 h
        · replace h := Eq.mp (if_pos hq_15) h
          refine f_iconst C (v := 0) dX2_readWork_54 kc0 rfl ?_
          exact f_zret C (Or.inl rfl) dX2_readWork_55 h
      · replace h := Eq.mp (if_pos hq_12) h
        refine f_iconst C (v := 0) dX2_readWork_41 kc0 rfl ?_
        exact f_zret C (Or.inl rfl) dX2_readWork_42 h
theorem c_X2_readWork (σ : Sto) (P : Int32 → Sto → Prop) (h : w_X2_readWork σ P) : Ct yX2_readWork cX2_readWork 3 (some .boolean) 3 72 (fun B => [.ref (B + 41)]) σ (QFi P) := Ct.of (by decide) (fun _ => Nat.le_of_ble_eq_true rfl) (fun B E C => s_X2_readWork C σ h)
def w_X2_readVoter (σ : Sto) (P : Int32 → Sto → Prop) : Prop :=
  isCity (gr σ 41 1) ∧ ∀ x1_2 : Int32, x1_2 = gi σ (gr σ 41 1) 11 → w_X2_begin x1_2 6 σ (fun r_5 σ_4 => (if r_5 = 0 then P 0 σ_4 else w_X2_readNewName (18 + x1_2) σ_4 (fun r_8 σ_7 => (if r_8 = 0 then P 0 σ_7 else isCity (gr σ_7 41 1) ∧ P 1 (si σ_7 (gr σ_7 41 1) 11 ((gi σ_7 (gr σ_7 41 1) 11) + 1))))))
theorem s_X2_readVoter {B : Nat} {E : Nat → List (Nat × Value) → List Value → Sto → Prop} {P : Int32 → Sto → Prop} (C : Cy B E RX2 cX2_readVoter 2 (some .boolean) 3 63 (Zm (QFi P))) (σ : Sto) (h : w_X2_readVoter σ P) : E 0 [(0, .ref (B + 41))] [] σ := by
  unfold w_X2_readVoter at h
  refine f_aload_n C (j := 0) dX2_readVoter_0 rfl rfl rfl ?_
  obtain ⟨hc_1, h⟩ := h
  refine f_getm C tF_X2_15 rfl o41 cn41_1 hc_1.z dX2_readVoter_1 rfl ?_
  refine f_geti C tF_X2_145 rfl hc_1.o dX2_readVoter_4 rfl ?_
  refine f_name (fun x1_2 hx_3 => ?_)
  replace h := h x1_2 hx_3
  refine f_istore_n C (lv2 := [(1, .int x1_2), (0, .ref (B + 41))]) dX2_readVoter_7 rfl (by decide) rfl rfl ?_
  refine f_aload_n C (j := 1) dX2_readVoter_8 rfl rfl rfl ?_
  refine f_iload_n C (j := 0) dX2_readVoter_9 rfl rfl rfl ?_
  refine f_bipush C (v := 6) dX2_readVoter_10 kb6 rfl ?_
  refine f_callVi C (a := 41) (ci := 2) (As := fun B => [.int x1_2, .int 6]) o41 rfl (c_X2_begin  _ _ _ _ h) tM_X2_92 tI_X2_begin tS_X2_begin tN_X2 tC_X2_begin 2 dd_X2_begin rfl (by decide) (by decide) rfl (Nat.le_of_ble_eq_true rfl) dX2_readVoter_12 rfl (fun r_5 σ_4 h => ?_)
  refine f_if_eq C (t := 29) dX2_readVoter_15 (by decide) rfl (fun hq_6 => ?_) (fun hq_6 => ?_)
  · replace h := Eq.mp (if_pos hq_6) h
    refine f_iconst C (v := 0) dX2_readVoter_29 kc0 rfl ?_
    exact f_zret C (Or.inl rfl) dX2_readVoter_30 h
  · replace h := Eq.mp (if_neg hq_6) h
    refine f_aload_n C (j := 1) dX2_readVoter_18 rfl rfl rfl ?_
    refine f_bipush C (v := 18) dX2_readVoter_19 kb18 rfl ?_
    refine f_iload_n C (j := 0) dX2_readVoter_21 rfl rfl rfl ?_
    refine f_iadd C dX2_readVoter_22 rfl ?_
    refine f_callVi C (a := 41) (ci := 2) (As := fun B => [.int (18 + x1_2)]) o41 rfl (c_X2_readNewName  _ _ _ h) tM_X2_96 tI_X2_readNewName tS_X2_readNewName tN_X2 tC_X2_readNewName 1 dd_X2_readNewName rfl (by decide) (by decide) rfl (Nat.le_of_ble_eq_true rfl) dX2_readVoter_23 rfl (fun r_8 σ_7 h => ?_)
    refine f_if_ne C (t := 31) dX2_readVoter_26 (by decide) rfl (fun hq_9 => ?_) (fun hq_9 => ?_)
    · replace h := Eq.mp (if_neg hq_9) h
      refine f_aload_n C (j := 1) dX2_readVoter_31 rfl rfl rfl ?_
      obtain ⟨hc_10, h⟩ := h
      refine f_getm C tF_X2_15 rfl o41 cn41_1 hc_10.z dX2_readVoter_32 rfl ?_
      refine f_dup C dX2_readVoter_35 rfl rfl ?_
      refine f_geti C tF_X2_145 rfl hc_10.o dX2_readVoter_36 rfl ?_
      refine f_iconst C (v := 1) dX2_readVoter_39 kc1 rfl ?_
      refine f_iadd C dX2_readVoter_40 rfl ?_
      refine f_puti C tF_X2_145 fm_1_11 rfl hc_10.o dX2_readVoter_41 rfl ?_
      refine f_iconst C (v := 1) dX2_readVoter_44 kc1 rfl ?_
      exact f_zret C (Or.inr rfl) dX2_readVoter_45 h
    · replace h := Eq.mp (if_pos hq_9) h
      refine f_iconst C (v := 0) dX2_readVoter_29 kc0 rfl ?_
      exact f_zret C (Or.inl rfl) dX2_readVoter_30 h
theorem c_X2_readVoter (σ : Sto) (P : Int32 → Sto → Prop) (h : w_X2_readVoter σ P) : Ct yX2_readVoter cX2_readVoter 2 (some .boolean) 3 63 (fun B => [.ref (B + 41)]) σ (QFi P) := Ct.of (by decide) (fun _ => Nat.le_of_ble_eq_true rfl) (fun B E C => s_X2_readVoter C σ h)
def w_X2_readHates_62 (x1 : Int32) (x2 : Int32) (z0 : Int32) (σ : Sto) (P : Int32 → Sto → Prop) : Prop :=
  (if z0 = (-1) then P 0 σ else isCity (gr σ 41 1) ∧ vp_in ((x1 * 12) + x2) 72 ∧ P 1 (si σ ((gr σ 41 1) + 6) (tn ((x1 * 12) + x2)) z0))
theorem s_X2_readHates_62 {B : Nat} {E : Nat → List (Nat × Value) → List Value → Sto → Prop} {P : Int32 → Sto → Prop} (C : Cy B E RX2 cX2_readHates 4 (some .boolean) 3 71 (Zm (QFi P))) (x1 : Int32) (x2 : Int32) (z0 : Int32) (σ : Sto) (h : w_X2_readHates_62 x1 x2 z0 σ P) : E 62 [(0, .ref (B + 41)), (1, .int x1), (2, .int x2)] [.int z0] σ := by
  unfold w_X2_readHates_62 at h
  refine f_istore_n C (lv2 := [(3, .int z0), (0, .ref (B + 41)), (1, .int x1), (2, .int x2)]) dX2_readHates_62 rfl (by decide) rfl rfl ?_
  refine f_iload_n C (j := 0) dX2_readHates_63 rfl rfl rfl ?_
  refine f_iconst C (v := (-1)) dX2_readHates_64 kcm1 rfl ?_
  refine f_icmp_ne C (t := 70) dX2_readHates_65 (by decide) rfl (fun hq_13 => ?_) (fun hq_13 => ?_)
  · replace h := Eq.mp (if_neg hq_13) h
    refine f_aload_n C (j := 1) dX2_readHates_70 rfl rfl rfl ?_
    obtain ⟨hc_14, h⟩ := h
    refine f_getm C tF_X2_15 rfl o41 cn41_1 hc_14.z dX2_readHates_71 rfl ?_
    refine f_getc C tF_X2_148 rfl hc_14.o hc_14.c5 (Nat.succ_ne_zero _) dX2_readHates_74 rfl ?_
    refine f_iload_n C (j := 2) dX2_readHates_77 rfl rfl rfl ?_
    refine f_bipush C (v := 12) dX2_readHates_78 kb12 rfl ?_
    refine f_imul C dX2_readHates_80 rfl ?_
    refine f_iload_n C (j := 3) dX2_readHates_81 rfl rfl rfl ?_
    refine f_iadd C dX2_readHates_82 rfl ?_
    refine f_iload_n C (j := 0) dX2_readHates_83 rfl rfl rfl ?_
    obtain ⟨hi_15, h⟩ := h
    refine f_iast C (j := tn ((x1 * 12) + x2)) hc_14.a5 hi_15 rfl dX2_readHates_84 rfl ?_
    refine f_iconst C (v := 1) dX2_readHates_85 kc1 rfl ?_
    exact f_zret C (Or.inr rfl) dX2_readHates_86 h
  · replace h := Eq.mp (if_pos hq_13) h
    refine f_iconst C (v := 0) dX2_readHates_68 kc0 rfl ?_
    exact f_zret C (Or.inl rfl) dX2_readHates_69 h
def w_X2_readHates_42 (x1 : Int32) (z0 : Int32) (σ : Sto) (P : Int32 → Sto → Prop) : Prop :=
  (if z0 = (-1) then w_X2_readHates_62 x1 z0 (-1) σ P else w_X9_passNumber 0 9 σ (fun r_12 σ_11 => w_X2_readHates_62 x1 z0 r_12 σ_11 P))
theorem s_X2_readHates_42 {B : Nat} {E : Nat → List (Nat × Value) → List Value → Sto → Prop} {P : Int32 → Sto → Prop} (C : Cy B E RX2 cX2_readHates 4 (some .boolean) 3 71 (Zm (QFi P))) (x1 : Int32) (z0 : Int32) (σ : Sto) (h : w_X2_readHates_42 x1 z0 σ P) : E 42 [(0, .ref (B + 41)), (1, .int x1)] [.int z0] σ := by
  unfold w_X2_readHates_42 at h
  refine f_istore_n C (lv2 := [(2, .int z0), (0, .ref (B + 41)), (1, .int x1)]) dX2_readHates_42 rfl (by decide) rfl rfl ?_
  refine f_iload_n C (j := 0) dX2_readHates_43 rfl rfl rfl ?_
  refine f_iconst C (v := (-1)) dX2_readHates_44 kcm1 rfl ?_
  refine f_icmp_ne C (t := 52) dX2_readHates_45 (by decide) rfl (fun hq_10 => ?_) (fun hq_10 => ?_)
  · replace h := Eq.mp (if_neg hq_10) h
    refine f_aload_n C (j := 1) dX2_readHates_52 rfl rfl rfl ?_
    refine f_getc C tF_X2_9 rfl o41 cs41_0 (by decide) dX2_readHates_53 rfl ?_
    refine f_iconst C (v := 0) dX2_readHates_56 kc0 rfl ?_
    refine f_bipush C (v := 9) dX2_readHates_57 kb9 rfl ?_
    refine f_callVi C (a := 10) (ci := 9) (As := fun B => [.int 0, .int 9]) o10 rfl (c_X9_passNumber  _ _ _ _ h) tM_X2_102 tI_X9_passNumber tS_X9_passNumber tN_X9 tC_X9_passNumber 2 dd_X9_passNumber rfl (by decide) (by decide) rfl (Nat.le_of_ble_eq_true rfl) dX2_readHates_59 rfl (fun r_12 σ_11 h => ?_)
    refine f_lv C (lv2 := [(0, .ref (B + 41)), (1, .int x1), (2, .int z0)]) [1, 2, 0] rfl ?_
    exact s_X2_readHates_62 C _ _ _  _ h
  · replace h := Eq.mp (if_pos hq_10) h
    refine f_iconst C (v := (-1)) dX2_readHates_48 kcm1 rfl ?_
    refine f_goto C (t := 62) dX2_readHates_49 (by decide) ?_
    refine f_lv C (lv2 := [(0, .ref (B + 41)), (1, .int x1), (2, .int z0)]) [1, 2, 0] rfl ?_
    exact s_X2_readHates_62 C _ _ _  _ h
def w_X2_readHates (σ : Sto) (P : Int32 → Sto → Prop) : Prop :=
  w_X9_advance σ (fun σ_1 => isCity (gr σ_1 41 1) ∧ w_X9_passKnown (gr σ_1 41 1) 18 σ_1 (fun r_5 σ_4 => (if r_5 = (-1) then w_X2_readHates_42 r_5 (-1) σ_4 P else isCity (gr σ_4 41 1) ∧ w_X9_passKnown (gr σ_4 41 1) 0 σ_4 (fun r_9 σ_8 => w_X2_readHates_42 r_5 r_9 σ_8 P))))
theorem s_X2_readHates {B : Nat} {E : Nat → List (Nat × Value) → List Value → Sto → Prop} {P : Int32 → Sto → Prop} (C : Cy B E RX2 cX2_readHates 4 (some .boolean) 3 71 (Zm (QFi P))) (σ : Sto) (h : w_X2_readHates σ P) : E 0 [(0, .ref (B + 41))] [] σ := by
  unfold w_X2_readHates at h
  refine f_aload_n C (j := 0) dX2_readHates_0 rfl rfl rfl ?_
  refine f_getc C tF_X2_9 rfl o41 cs41_0 (by decide) dX2_readHates_1 rfl ?_
  refine f_callVv C (a := 10) (ci := 9) (As := fun B => []) o10 rfl (c_X9_advance   _ _ h) tM_X2_74 tI_X9_advance tS_X9_advance tN_X9 tC_X9_advance 0 dd_X9_advance rfl (by decide) (by decide) rfl (Nat.le_of_ble_eq_true rfl) dX2_readHates_4 rfl (fun σ_1 h => ?_)
  refine f_aload_n C (j := 0) dX2_readHates_7 rfl rfl rfl ?_
  refine f_getc C tF_X2_9 rfl o41 cs41_0 (by decide) dX2_readHates_8 rfl ?_
  refine f_aload_n C (j := 0) dX2_readHates_11 rfl rfl rfl ?_
  obtain ⟨hc_3, h⟩ := h
  refine f_getm C tF_X2_15 rfl o41 cn41_1 hc_3.z dX2_readHates_12 rfl ?_
  refine f_bipush C (v := 18) dX2_readHates_15 kb18 rfl ?_
  refine f_callVi C (a := 10) (ci := 9) (As := fun B => [.ref (B + (gr σ_1 41 1)), .int 18]) o10 rfl (c_X9_passKnown  _ _ _ _ h) tM_X2_123 tI_X9_passKnown tS_X9_passKnown tN_X9 tC_X9_passKnown 2 dd_X9_passKnown rfl (by decide) (by decide) rfl (Nat.le_of_ble_eq_true rfl) dX2_readHates_17 rfl (fun r_5 σ_4 h => ?_)
  refine f_istore_n C (lv2 := [(1, .int r_5), (0, .ref (B + 41))]) dX2_readHates_20 rfl (by decide) rfl rfl ?_
  refine f_iload_n C (j := 0) dX2_readHates_21 rfl rfl rfl ?_
  refine f_iconst C (v := (-1)) dX2_readHates_22 kcm1 rfl ?_
  refine f_icmp_ne C (t := 30) dX2_readHates_23 (by decide) rfl (fun hq_6 => ?_) (fun hq_6 => ?_)
  · replace h := Eq.mp (if_neg hq_6) h
    refine f_aload_n C (j := 1) dX2_readHates_30 rfl rfl rfl ?_
    refine f_getc C tF_X2_9 rfl o41 cs41_0 (by decide) dX2_readHates_31 rfl ?_
    refine f_aload_n C (j := 1) dX2_readHates_34 rfl rfl rfl ?_
    obtain ⟨hc_7, h⟩ := h
    refine f_getm C tF_X2_15 rfl o41 cn41_1 hc_7.z dX2_readHates_35 rfl ?_
    refine f_iconst C (v := 0) dX2_readHates_38 kc0 rfl ?_
    refine f_callVi C (a := 10) (ci := 9) (As := fun B => [.ref (B + (gr σ_4 41 1)), .int 0]) o10 rfl (c_X9_passKnown  _ _ _ _ h) tM_X2_123 tI_X9_passKnown tS_X9_passKnown tN_X9 tC_X9_passKnown 2 dd_X9_passKnown rfl (by decide) (by decide) rfl (Nat.le_of_ble_eq_true rfl) dX2_readHates_39 rfl (fun r_9 σ_8 h => ?_)
    refine f_lv C (lv2 := [(0, .ref (B + 41)), (1, .int r_5)]) [1, 0] rfl ?_
    exact s_X2_readHates_42 C _ _  _ h
  · replace h := Eq.mp (if_pos hq_6) h
    refine f_iconst C (v := (-1)) dX2_readHates_26 kcm1 rfl ?_
    refine f_goto C (t := 42) dX2_readHates_27 (by decide) ?_
    refine f_lv C (lv2 := [(0, .ref (B + 41)), (1, .int r_5)]) [1, 0] rfl ?_
    exact s_X2_readHates_42 C _ _  _ h
theorem c_X2_readHates (σ : Sto) (P : Int32 → Sto → Prop) (h : w_X2_readHates σ P) : Ct yX2_readHates cX2_readHates 4 (some .boolean) 3 71 (fun B => [.ref (B + 41)]) σ (QFi P) := Ct.of (by decide) (fun _ => Nat.le_of_ble_eq_true rfl) (fun B E C => s_X2_readHates C σ h)
def w_X2_readAhead_41 (x1 : Int32) (z0 : Int32) (σ : Sto) (P : Int32 → Sto → Prop) : Prop :=
  (if z0 = (-1) then P 0 σ else (if z0 = x1 then w_X9_fail 5 σ (fun r_17 σ_16 => (r_17 = 0 ∨ r_17 = 1) ∧ P r_17 σ_16) else w_X9_advance σ (fun σ_12 => isCity (gr σ_12 41 1) ∧ vp_in z0 12 ∧ P 1 (si σ_12 ((gr σ_12 41 1) + 7) (tn z0) ((gi σ_12 ((gr σ_12 41 1) + 7) (tn z0)) ||| (1 <<< (x1 &&& 31)))))))
theorem s_X2_readAhead_41 {B : Nat} {E : Nat → List (Nat × Value) → List Value → Sto → Prop} {P : Int32 → Sto → Prop} (C : Cy B E RX2 cX2_readAhead 3 (some .boolean) 3 71 (Zm (QFi P))) (x1 : Int32) (z0 : Int32) (σ : Sto) (h : w_X2_readAhead_41 x1 z0 σ P) : E 41 [(0, .ref (B + 41)), (1, .int x1)] [.int z0] σ := by
  unfold w_X2_readAhead_41 at h
  refine f_istore_n C (lv2 := [(2, .int z0), (0, .ref (B + 41)), (1, .int x1)]) dX2_readAhead_41 rfl (by decide) rfl rfl ?_
  refine f_iload_n C (j := 0) dX2_readAhead_42 rfl rfl rfl ?_
  refine f_iconst C (v := (-1)) dX2_readAhead_43 kcm1 rfl ?_
  refine f_icmp_ne C (t := 49) dX2_readAhead_44 (by decide) rfl (fun hq_10 => ?_) (fun hq_10 => ?_)
  · replace h := Eq.mp (if_neg hq_10) h
    refine f_iload_n C (j := 0) dX2_readAhead_49 rfl rfl rfl ?_
    refine f_iload_n C (j := 2) dX2_readAhead_50 rfl rfl rfl ?_
    refine f_icmp_ne C (t := 63) dX2_readAhead_51 (by decide) rfl (fun hq_11 => ?_) (fun hq_11 => ?_)
    · replace h := Eq.mp (if_neg hq_11) h
      refine f_aload_n C (j := 1) dX2_readAhead_63 rfl rfl rfl ?_
      refine f_getc C tF_X2_9 rfl o41 cs41_0 (by decide) dX2_readAhead_64 rfl ?_
      refine f_callVv C (a := 10) (ci := 9) (As := fun B => []) o10 rfl (c_X9_advance   _ _ h) tM_X2_74 tI_X9_advance tS_X9_advance tN_X9 tC_X9_advance 0 dd_X9_advance rfl (by decide) (by decide) rfl (Nat.le_of_ble_eq_true rfl) dX2_readAhead_67 rfl (fun σ_12 h => ?_)
      refine f_aload_n C (j := 1) dX2_readAhead_70 rfl rfl rfl ?_
      obtain ⟨hc_14, h⟩ := h
      refine f_getm C tF_X2_15 rfl o41 cn41_1 hc_14.z dX2_readAhead_71 rfl ?_
      refine f_getc C tF_X2_151 rfl hc_14.o hc_14.c6 (Nat.succ_ne_zero _) dX2_readAhead_74 rfl ?_
      refine f_iload_n C (j := 0) dX2_readAhead_77 rfl rfl rfl ?_
      refine f_dup2 C dX2_readAhead_78 rfl rfl rfl ?_
      obtain ⟨hi_15, h⟩ := h
      refine f_iald C (j := tn z0) hc_14.a6 hi_15 rfl dX2_readAhead_79 rfl ?_
      refine f_iconst C (v := 1) dX2_readAhead_80 kc1 rfl ?_
      refine f_iload_n C (j := 2) dX2_readAhead_81 rfl rfl rfl ?_
      refine f_ishl C dX2_readAhead_82 rfl ?_
      refine f_ior C dX2_readAhead_83 rfl ?_
      refine f_iast C (j := tn z0) hc_14.a6 hi_15 rfl dX2_readAhead_84 rfl ?_
      refine f_iconst C (v := 1) dX2_readAhead_85 kc1 rfl ?_
      exact f_zret C (Or.inr rfl) dX2_readAhead_86 h
    · replace h := Eq.mp (if_pos hq_11) h
      refine f_aload_n C (j := 1) dX2_readAhead_54 rfl rfl rfl ?_
      refine f_getc C tF_X2_9 rfl o41 cs41_0 (by decide) dX2_readAhead_55 rfl ?_
      refine f_iconst C (v := 5) dX2_readAhead_58 kc5 rfl ?_
      refine f_callVi C (a := 10) (ci := 9) (As := fun B => [.int 5]) o10 rfl (c_X9_fail  _ _ _ h) tM_X2_46 tI_X9_fail tS_X9_fail tN_X9 tC_X9_fail 1 dd_X9_fail rfl (by decide) (by decide) rfl (Nat.le_of_ble_eq_true rfl) dX2_readAhead_59 rfl (fun r_17 σ_16 h => ?_)
      obtain ⟨hb_18, h⟩ := h
      exact f_zret C hb_18 dX2_readAhead_62 h
  · replace h := Eq.mp (if_pos hq_10) h
    refine f_iconst C (v := 0) dX2_readAhead_47 kc0 rfl ?_
    exact f_zret C (Or.inl rfl) dX2_readAhead_48 h
def w_X2_readAhead (σ : Sto) (P : Int32 → Sto → Prop) : Prop :=
  w_X9_advance σ (fun σ_1 => isCity (gr σ_1 41 1) ∧ w_X9_passKnown (gr σ_1 41 1) 0 σ_1 (fun r_5 σ_4 => (if r_5 = (-1) then w_X2_readAhead_41 r_5 (-1) σ_4 P else isCity (gr σ_4 41 1) ∧ w_X9_seeKnown (gr σ_4 41 1) 0 σ_4 (fun r_9 σ_8 => w_X2_readAhead_41 r_5 r_9 σ_8 P))))
theorem s_X2_readAhead {B : Nat} {E : Nat → List (Nat × Value) → List Value → Sto → Prop} {P : Int32 → Sto → Prop} (C : Cy B E RX2 cX2_readAhead 3 (some .boolean) 3 71 (Zm (QFi P))) (σ : Sto) (h : w_X2_readAhead σ P) : E 0 [(0, .ref (B + 41))] [] σ := by
  unfold w_X2_readAhead at h
  refine f_aload_n C (j := 0) dX2_readAhead_0 rfl rfl rfl ?_
  refine f_getc C tF_X2_9 rfl o41 cs41_0 (by decide) dX2_readAhead_1 rfl ?_
  refine f_callVv C (a := 10) (ci := 9) (As := fun B => []) o10 rfl (c_X9_advance   _ _ h) tM_X2_74 tI_X9_advance tS_X9_advance tN_X9 tC_X9_advance 0 dd_X9_advance rfl (by decide) (by decide) rfl (Nat.le_of_ble_eq_true rfl) dX2_readAhead_4 rfl (fun σ_1 h => ?_)
  refine f_aload_n C (j := 0) dX2_readAhead_7 rfl rfl rfl ?_
  refine f_getc C tF_X2_9 rfl o41 cs41_0 (by decide) dX2_readAhead_8 rfl ?_
  refine f_aload_n C (j := 0) dX2_readAhead_11 rfl rfl rfl ?_
  obtain ⟨hc_3, h⟩ := h
  refine f_getm C tF_X2_15 rfl o41 cn41_1 hc_3.z dX2_readAhead_12 rfl ?_
  refine f_iconst C (v := 0) dX2_readAhead_15 kc0 rfl ?_
  refine f_callVi C (a := 10) (ci := 9) (As := fun B => [.ref (B + (gr σ_1 41 1)), .int 0]) o10 rfl (c_X9_passKnown  _ _ _ _ h) tM_X2_123 tI_X9_passKnown tS_X9_passKnown tN_X9 tC_X9_passKnown 2 dd_X9_passKnown rfl (by decide) (by decide) rfl (Nat.le_of_ble_eq_true rfl) dX2_readAhead_16 rfl (fun r_5 σ_4 h => ?_)
  refine f_istore_n C (lv2 := [(1, .int r_5), (0, .ref (B + 41))]) dX2_readAhead_19 rfl (by decide) rfl rfl ?_
  refine f_iload_n C (j := 0) dX2_readAhead_20 rfl rfl rfl ?_
  refine f_iconst C (v := (-1)) dX2_readAhead_21 kcm1 rfl ?_
  refine f_icmp_ne C (t := 29) dX2_readAhead_22 (by decide) rfl (fun hq_6 => ?_) (fun hq_6 => ?_)
  · replace h := Eq.mp (if_neg hq_6) h
    refine f_aload_n C (j := 1) dX2_readAhead_29 rfl rfl rfl ?_
    refine f_getc C tF_X2_9 rfl o41 cs41_0 (by decide) dX2_readAhead_30 rfl ?_
    refine f_aload_n C (j := 1) dX2_readAhead_33 rfl rfl rfl ?_
    obtain ⟨hc_7, h⟩ := h
    refine f_getm C tF_X2_15 rfl o41 cn41_1 hc_7.z dX2_readAhead_34 rfl ?_
    refine f_iconst C (v := 0) dX2_readAhead_37 kc0 rfl ?_
    refine f_callVi C (a := 10) (ci := 9) (As := fun B => [.ref (B + (gr σ_4 41 1)), .int 0]) o10 rfl (c_X9_seeKnown  _ _ _ _ h) tM_X2_116 tI_X9_seeKnown tS_X9_seeKnown tN_X9 tC_X9_seeKnown 2 dd_X9_seeKnown rfl (by decide) (by decide) rfl (Nat.le_of_ble_eq_true rfl) dX2_readAhead_38 rfl (fun r_9 σ_8 h => ?_)
    refine f_lv C (lv2 := [(0, .ref (B + 41)), (1, .int r_5)]) [1, 0] rfl ?_
    exact s_X2_readAhead_41 C _ _  _ h
  · replace h := Eq.mp (if_pos hq_6) h
    refine f_iconst C (v := (-1)) dX2_readAhead_25 kcm1 rfl ?_
    refine f_goto C (t := 41) dX2_readAhead_26 (by decide) ?_
    refine f_lv C (lv2 := [(0, .ref (B + 41)), (1, .int r_5)]) [1, 0] rfl ?_
    exact s_X2_readAhead_41 C _ _  _ h
theorem c_X2_readAhead (σ : Sto) (P : Int32 → Sto → Prop) (h : w_X2_readAhead σ P) : Ct yX2_readAhead cX2_readAhead 3 (some .boolean) 3 71 (fun B => [.ref (B + 41)]) σ (QFi P) := Ct.of (by decide) (fun _ => Nat.le_of_ble_eq_true rfl) (fun B E C => s_X2_readAhead C σ h)
def w_X2_readLaw (σ : Sto) (P : Int32 → Sto → Prop) : Prop :=
  (if (gi σ 41 2) = 0 then w_X9_advance (si σ 41 2 1) (fun σ_2 => w_X9_passNumber 0 2 σ_2 (fun r_5 σ_4 => (if r_5 = (-1) then P 0 σ_4 else isCity (gr σ_4 41 1) ∧ P 1 (si σ_4 (gr σ_4 41 1) 12 r_5)))) else w_X9_fail 5 σ (fun r_9 σ_8 => (r_9 = 0 ∨ r_9 = 1) ∧ P r_9 σ_8))
theorem s_X2_readLaw {B : Nat} {E : Nat → List (Nat × Value) → List Value → Sto → Prop} {P : Int32 → Sto → Prop} (C : Cy B E RX2 cX2_readLaw 2 (some .boolean) 3 64 (Zm (QFi P))) (σ : Sto) (h : w_X2_readLaw σ P) : E 0 [(0, .ref (B + 41))] [] σ := by
  unfold w_X2_readLaw at h
  refine f_aload_n C (j := 0) dX2_readLaw_0 rfl rfl rfl ?_
  refine f_geti C tF_X2_19 rfl o41 dX2_readLaw_1 rfl ?_
  refine f_if_eq C (t := 16) dX2_readLaw_4 (by decide) rfl (fun hq_1 => ?_) (fun hq_1 => ?_)
  · replace h := Eq.mp (if_pos hq_1) h
    refine f_aload_n C (j := 0) dX2_readLaw_16 rfl rfl rfl ?_
    refine f_iconst C (v := 1) dX2_readLaw_17 kc1 rfl ?_
    refine f_putz C tF_X2_19 fm_2_2 rfl (Or.inr rfl) o41 dX2_readLaw_18 rfl ?_
    refine f_aload_n C (j := 0) dX2_readLaw_21 rfl rfl rfl ?_
    refine f_getc C tF_X2_9 rfl o41 cs41_0 (by decide) dX2_readLaw_22 rfl ?_
    refine f_callVv C (a := 10) (ci := 9) (As := fun B => []) o10 rfl (c_X9_advance   _ _ h) tM_X2_74 tI_X9_advance tS_X9_advance tN_X9 tC_X9_advance 0 dd_X9_advance rfl (by decide) (by decide) rfl (Nat.le_of_ble_eq_true rfl) dX2_readLaw_25 rfl (fun σ_2 h => ?_)
    refine f_aload_n C (j := 0) dX2_readLaw_28 rfl rfl rfl ?_
    refine f_getc C tF_X2_9 rfl o41 cs41_0 (by decide) dX2_readLaw_29 rfl ?_
    refine f_iconst C (v := 0) dX2_readLaw_32 kc0 rfl ?_
    refine f_iconst C (v := 2) dX2_readLaw_33 kc2 rfl ?_
    refine f_callVi C (a := 10) (ci := 9) (As := fun B => [.int 0, .int 2]) o10 rfl (c_X9_passNumber  _ _ _ _ h) tM_X2_102 tI_X9_passNumber tS_X9_passNumber tN_X9 tC_X9_passNumber 2 dd_X9_passNumber rfl (by decide) (by decide) rfl (Nat.le_of_ble_eq_true rfl) dX2_readLaw_34 rfl (fun r_5 σ_4 h => ?_)
    refine f_istore_n C (lv2 := [(1, .int r_5), (0, .ref (B + 41))]) dX2_readLaw_37 rfl (by decide) rfl rfl ?_
    refine f_iload_n C (j := 0) dX2_readLaw_38 rfl rfl rfl ?_
    refine f_iconst C (v := (-1)) dX2_readLaw_39 kcm1 rfl ?_
    refine f_icmp_ne C (t := 45) dX2_readLaw_40 (by decide) rfl (fun hq_6 => ?_) (fun hq_6 => ?_)
    · replace h := Eq.mp (if_neg hq_6) h
      refine f_aload_n C (j := 1) dX2_readLaw_45 rfl rfl rfl ?_
      obtain ⟨hc_7, h⟩ := h
      refine f_getm C tF_X2_15 rfl o41 cn41_1 hc_7.z dX2_readLaw_46 rfl ?_
      refine f_iload_n C (j := 0) dX2_readLaw_49 rfl rfl rfl ?_
      refine f_puti C tF_X2_154 fm_1_12 rfl hc_7.o dX2_readLaw_50 rfl ?_
      refine f_iconst C (v := 1) dX2_readLaw_53 kc1 rfl ?_
      exact f_zret C (Or.inr rfl) dX2_readLaw_54 h
    · replace h := Eq.mp (if_pos hq_6) h
      refine f_iconst C (v := 0) dX2_readLaw_43 kc0 rfl ?_
      exact f_zret C (Or.inl rfl) dX2_readLaw_44 h
  · replace h := Eq.mp (if_neg hq_1) h
    refine f_aload_n C (j := 0) dX2_readLaw_7 rfl rfl rfl ?_
    refine f_getc C tF_X2_9 rfl o41 cs41_0 (by decide) dX2_readLaw_8 rfl ?_
    refine f_iconst C (v := 5) dX2_readLaw_11 kc5 rfl ?_
    refine f_callVi C (a := 10) (ci := 9) (As := fun B => [.int 5]) o10 rfl (c_X9_fail  _ _ _ h) tM_X2_46 tI_X9_fail tS_X9_fail tN_X9 tC_X9_fail 1 dd_X9_fail rfl (by decide) (by decide) rfl (Nat.le_of_ble_eq_true rfl) dX2_readLaw_12 rfl (fun r_9 σ_8 h => ?_)
    obtain ⟨hb_10, h⟩ := h
    exact f_zret C hb_10 dX2_readLaw_15 h
theorem c_X2_readLaw (σ : Sto) (P : Int32 → Sto → Prop) (h : w_X2_readLaw σ P) : Ct yX2_readLaw cX2_readLaw 2 (some .boolean) 3 64 (fun B => [.ref (B + 41)]) σ (QFi P) := Ct.of (by decide) (fun _ => Nat.le_of_ble_eq_true rfl) (fun B E C => s_X2_readLaw C σ h)
def w_X2_readPart (σ : Sto) (P : Int32 → Sto → Prop) : Prop :=
  (if (gi σ 10 5) = 3 then ∀ sw_2 : Int32, sw_2 = gi σ 10 7 → (if sw_2 = 0 then w_X2_readThing σ (fun r_4 σ_3 => (r_4 = 0 ∨ r_4 = 1) ∧ P r_4 σ_3) else (if sw_2 = 1 then w_X9_fail 2 σ (fun r_8 σ_7 => (r_8 = 0 ∨ r_8 = 1) ∧ P r_8 σ_7) else (if sw_2 = 2 then w_X9_fail 2 σ (fun r_12 σ_11 => (r_12 = 0 ∨ r_12 = 1) ∧ P r_12 σ_11) else (if sw_2 = 3 then w_X2_readMakes σ (fun r_16 σ_15 => (r_16 = 0 ∨ r_16 = 1) ∧ P r_16 σ_15) else (if sw_2 = 4 then w_X9_fail 2 σ (fun r_20 σ_19 => (r_20 = 0 ∨ r_20 = 1) ∧ P r_20 σ_19) else (if sw_2 = 5 then w_X2_readWork σ (fun r_24 σ_23 => (r_24 = 0 ∨ r_24 = 1) ∧ P r_24 σ_23) else (if sw_2 = 6 then w_X9_fail 2 σ (fun r_28 σ_27 => (r_28 = 0 ∨ r_28 = 1) ∧ P r_28 σ_27) else (if sw_2 = 7 then w_X2_readVoter σ (fun r_32 σ_31 => (r_32 = 0 ∨ r_32 = 1) ∧ P r_32 σ_31) else (if sw_2 = 8 then w_X2_readHates σ (fun r_36 σ_35 => (r_36 = 0 ∨ r_36 = 1) ∧ P r_36 σ_35) else (if sw_2 = 9 then w_X2_readAhead σ (fun r_40 σ_39 => (r_40 = 0 ∨ r_40 = 1) ∧ P r_40 σ_39) else (if sw_2 = 10 then w_X2_readLaw σ (fun r_44 σ_43 => (r_44 = 0 ∨ r_44 = 1) ∧ P r_44 σ_43) else w_X9_fail 2 σ (fun r_48 σ_47 => (r_48 = 0 ∨ r_48 = 1) ∧ P r_48 σ_47)))))))))))) else w_X9_fail 2 σ (fun r_51 σ_50 => (r_51 = 0 ∨ r_51 = 1) ∧ P r_51 σ_50))
theorem s_X2_readPart {B : Nat} {E : Nat → List (Nat × Value) → List Value → Sto → Prop} {P : Int32 → Sto → Prop} (C : Cy B E RX2 cX2_readPart 1 (some .boolean) 4 95 (Zm (QFi P))) (σ : Sto) (h : w_X2_readPart σ P) : E 0 [(0, .ref (B + 41))] [] σ := by
  unfold w_X2_readPart at h
  refine f_aload_n C (j := 0) dX2_readPart_0 rfl rfl rfl ?_
  refine f_getc C tF_X2_9 rfl o41 cs41_0 (by decide) dX2_readPart_1 rfl ?_
  refine f_geti C tF_X2_34 rfl o10 dX2_readPart_4 rfl ?_
  refine f_iconst C (v := 3) dX2_readPart_7 kc3 rfl ?_
  refine f_icmp_eq C (t := 20) dX2_readPart_8 (by decide) rfl (fun hq_1 => ?_) (fun hq_1 => ?_)
  · replace h := Eq.mp (if_pos hq_1) h
    refine f_aload_n C (j := 0) dX2_readPart_20 rfl rfl rfl ?_
    refine f_getc C tF_X2_9 rfl o41 cs41_0 (by decide) dX2_readPart_21 rfl ?_
    refine f_geti C tF_X2_50 rfl o10 dX2_readPart_24 rfl ?_
    refine f_name (fun sw_2 hsw_2 => ?_)
    replace h := h sw_2 hsw_2
    by_cases hq_6 : sw_2 = 0
    · replace h := Eq.mp (if_pos hq_6) h
      refine f_tableIn C (off := 57) (t := 84) dX2_readPart_27 (by rw [hq_6]; decide) (by rw [hq_6]; decide) (by rw [hq_6]; rfl) (by decide) ?_
      refine f_aload_n C (j := 0) dX2_readPart_84 rfl rfl rfl ?_
      refine f_callVi C (a := 41) (ci := 2) (As := fun B => []) o41 rfl (c_X2_readThing   _ _ h) tM_X2_53 tI_X2_readThing tS_X2_readThing tN_X2 tC_X2_readThing 0 dd_X2_readThing rfl (by decide) (by decide) rfl (Nat.le_of_ble_eq_true rfl) dX2_readPart_85 rfl (fun r_4 σ_3 h => ?_)
      obtain ⟨hb_5, h⟩ := h
      exact f_zret C hb_5 dX2_readPart_88 h
    replace h := Eq.mp (if_neg hq_6) h
    by_cases hq_10 : sw_2 = 1
    · replace h := Eq.mp (if_pos hq_10) h
      refine f_tableIn C (off := 92) (t := 119) dX2_readPart_27 (by rw [hq_10]; decide) (by rw [hq_10]; decide) (by rw [hq_10]; rfl) (by decide) ?_
      refine f_aload_n C (j := 0) dX2_readPart_119 rfl rfl rfl ?_
      refine f_getc C tF_X2_9 rfl o41 cs41_0 (by decide) dX2_readPart_120 rfl ?_
      refine f_iconst C (v := 2) dX2_readPart_123 kc2 rfl ?_
      refine f_callVi C (a := 10) (ci := 9) (As := fun B => [.int 2]) o10 rfl (c_X9_fail  _ _ _ h) tM_X2_46 tI_X9_fail tS_X9_fail tN_X9 tC_X9_fail 1 dd_X9_fail rfl (by decide) (by decide) rfl (Nat.le_of_ble_eq_true rfl) dX2_readPart_124 rfl (fun r_8 σ_7 h => ?_)
      obtain ⟨hb_9, h⟩ := h
      exact f_zret C hb_9 dX2_readPart_127 h
    replace h := Eq.mp (if_neg hq_10) h
    by_cases hq_14 : sw_2 = 2
    · replace h := Eq.mp (if_pos hq_14) h
      refine f_tableIn C (off := 92) (t := 119) dX2_readPart_27 (by rw [hq_14]; decide) (by rw [hq_14]; decide) (by rw [hq_14]; rfl) (by decide) ?_
      refine f_aload_n C (j := 0) dX2_readPart_119 rfl rfl rfl ?_
      refine f_getc C tF_X2_9 rfl o41 cs41_0 (by decide) dX2_readPart_120 rfl ?_
      refine f_iconst C (v := 2) dX2_readPart_123 kc2 rfl ?_
      refine f_callVi C (a := 10) (ci := 9) (As := fun B => [.int 2]) o10 rfl (c_X9_fail  _ _ _ h) tM_X2_46 tI_X9_fail tS_X9_fail tN_X9 tC_X9_fail 1 dd_X9_fail rfl (by decide) (by decide) rfl (Nat.le_of_ble_eq_true rfl) dX2_readPart_124 rfl (fun r_12 σ_11 h => ?_)
      obtain ⟨hb_13, h⟩ := h
      exact f_zret C hb_13 dX2_readPart_127 h
    replace h := Eq.mp (if_neg hq_14) h
    by_cases hq_18 : sw_2 = 3
    · replace h := Eq.mp (if_pos hq_18) h
      refine f_tableIn C (off := 62) (t := 89) dX2_readPart_27 (by rw [hq_18]; decide) (by rw [hq_18]; decide) (by rw [hq_18]; rfl) (by decide) ?_
      refine f_aload_n C (j := 0) dX2_readPart_89 rfl rfl rfl ?_
      refine f_callVi C (a := 41) (ci := 2) (As := fun B => []) o41 rfl (c_X2_readMakes   _ _ h) tM_X2_56 tI_X2_readMakes tS_X2_readMakes tN_X2 tC_X2_readMakes 0 dd_X2_readMakes rfl (by decide) (by decide) rfl (Nat.le_of_ble_eq_true rfl) dX2_readPart_90 rfl (fun r_16 σ_15 h => ?_)
      obtain ⟨hb_17, h⟩ := h
      exact f_zret C hb_17 dX2_readPart_93 h
    replace h := Eq.mp (if_neg hq_18) h
    by_cases hq_22 : sw_2 = 4
    · replace h := Eq.mp (if_pos hq_22) h
      refine f_tableIn C (off := 92) (t := 119) dX2_readPart_27 (by rw [hq_22]; decide) (by rw [hq_22]; decide) (by rw [hq_22]; rfl) (by decide) ?_
      refine f_aload_n C (j := 0) dX2_readPart_119 rfl rfl rfl ?_
      refine f_getc C tF_X2_9 rfl o41 cs41_0 (by decide) dX2_readPart_120 rfl ?_
      refine f_iconst C (v := 2) dX2_readPart_123 kc2 rfl ?_
      refine f_callVi C (a := 10) (ci := 9) (As := fun B => [.int 2]) o10 rfl (c_X9_fail  _ _ _ h) tM_X2_46 tI_X9_fail tS_X9_fail tN_X9 tC_X9_fail 1 dd_X9_fail rfl (by decide) (by decide) rfl (Nat.le_of_ble_eq_true rfl) dX2_readPart_124 rfl (fun r_20 σ_19 h => ?_)
      obtain ⟨hb_21, h⟩ := h
      exact f_zret C hb_21 dX2_readPart_127 h
    replace h := Eq.mp (if_neg hq_22) h
    by_cases hq_26 : sw_2 = 5
    · replace h := Eq.mp (if_pos hq_26) h
      refine f_tableIn C (off := 67) (t := 94) dX2_readPart_27 (by rw [hq_26]; decide) (by rw [hq_26]; decide) (by rw [hq_26]; rfl) (by decide) ?_
      refine f_aload_n C (j := 0) dX2_readPart_94 rfl rfl rfl ?_
      refine f_callVi C (a := 41) (ci := 2) (As := fun B => []) o41 rfl (c_X2_readWork   _ _ h) tM_X2_59 tI_X2_readWork tS_X2_readWork tN_X2 tC_X2_readWork 0 dd_X2_readWork rfl (by decide) (by decide) rfl (Nat.le_of_ble_eq_true rfl) dX2_readPart_95 rfl (fun r_24 σ_23 h => ?_)
      obtain ⟨hb_25, h⟩ := h
      exact f_zret C hb_25 dX2_readPart_98 h
    replace h := Eq.mp (if_neg hq_26) h
    by_cases hq_30 : sw_2 = 6
    · replace h := Eq.mp (if_pos hq_30) h
      refine f_tableIn C (off := 92) (t := 119) dX2_readPart_27 (by rw [hq_30]; decide) (by rw [hq_30]; decide) (by rw [hq_30]; rfl) (by decide) ?_
      refine f_aload_n C (j := 0) dX2_readPart_119 rfl rfl rfl ?_
      refine f_getc C tF_X2_9 rfl o41 cs41_0 (by decide) dX2_readPart_120 rfl ?_
      refine f_iconst C (v := 2) dX2_readPart_123 kc2 rfl ?_
      refine f_callVi C (a := 10) (ci := 9) (As := fun B => [.int 2]) o10 rfl (c_X9_fail  _ _ _ h) tM_X2_46 tI_X9_fail tS_X9_fail tN_X9 tC_X9_fail 1 dd_X9_fail rfl (by decide) (by decide) rfl (Nat.le_of_ble_eq_true rfl) dX2_readPart_124 rfl (fun r_28 σ_27 h => ?_)
      obtain ⟨hb_29, h⟩ := h
      exact f_zret C hb_29 dX2_readPart_127 h
    replace h := Eq.mp (if_neg hq_30) h
    by_cases hq_34 : sw_2 = 7
    · replace h := Eq.mp (if_pos hq_34) h
      refine f_tableIn C (off := 72) (t := 99) dX2_readPart_27 (by rw [hq_34]; decide) (by rw [hq_34]; decide) (by rw [hq_34]; rfl) (by decide) ?_
      refine f_aload_n C (j := 0) dX2_readPart_99 rfl rfl rfl ?_
      refine f_callVi C (a := 41) (ci := 2) (As := fun B => []) o41 rfl (c_X2_readVoter   _ _ h) tM_X2_62 tI_X2_readVoter tS_X2_readVoter tN_X2 tC_X2_readVoter 0 dd_X2_readVoter rfl (by decide) (by decide) rfl (Nat.le_of_ble_eq_true rfl) dX2_readPart_100 rfl (fun r_32 σ_31 h => ?_)
      obtain ⟨hb_33, h⟩ := h
      exact f_zret C hb_33 dX2_readPart_103 h
    replace h := Eq.mp (if_neg hq_34) h
    by_cases hq_38 : sw_2 = 8
    · replace h := Eq.mp (if_pos hq_38) h
      refine f_tableIn C (off := 77) (t := 104) dX2_readPart_27 (by rw [hq_38]; decide) (by rw [hq_38]; decide) (by rw [hq_38]; rfl) (by decide) ?_
      refine f_aload_n C (j := 0) dX2_readPart_104 rfl rfl rfl ?_
      refine f_callVi C (a := 41) (ci := 2) (As := fun B => []) o41 rfl (c_X2_readHates   _ _ h) tM_X2_65 tI_X2_readHates tS_X2_readHates tN_X2 tC_X2_readHates 0 dd_X2_readHates rfl (by decide) (by decide) rfl (Nat.le_of_ble_eq_true rfl) dX2_readPart_105 rfl (fun r_36 σ_35 h => ?_)
      obtain ⟨hb_37, h⟩ := h
      exact f_zret C hb_37 dX2_readPart_108 h
    replace h := Eq.mp (if_neg hq_38) h
    by_cases hq_42 : sw_2 = 9
    · replace h := Eq.mp (if_pos hq_42) h
      refine f_tableIn C (off := 82) (t := 109) dX2_readPart_27 (by rw [hq_42]; decide) (by rw [hq_42]; decide) (by rw [hq_42]; rfl) (by decide) ?_
      refine f_aload_n C (j := 0) dX2_readPart_109 rfl rfl rfl ?_
      refine f_callVi C (a := 41) (ci := 2) (As := fun B => []) o41 rfl (c_X2_readAhead   _ _ h) tM_X2_68 tI_X2_readAhead tS_X2_readAhead tN_X2 tC_X2_readAhead 0 dd_X2_readAhead rfl (by decide) (by decide) rfl (Nat.le_of_ble_eq_true rfl) dX2_readPart_110 rfl (fun r_40 σ_39 h => ?_)
      obtain ⟨hb_41, h⟩ := h
      exact f_zret C hb_41 dX2_readPart_113 h
    replace h := Eq.mp (if_neg hq_42) h
    by_cases hq_46 : sw_2 = 10
    · replace h := Eq.mp (if_pos hq_46) h
      refine f_tableIn C (off := 87) (t := 114) dX2_readPart_27 (by rw [hq_46]; decide) (by rw [hq_46]; decide) (by rw [hq_46]; rfl) (by decide) ?_
      refine f_aload_n C (j := 0) dX2_readPart_114 rfl rfl rfl ?_
      refine f_callVi C (a := 41) (ci := 2) (As := fun B => []) o41 rfl (c_X2_readLaw   _ _ h) tM_X2_71 tI_X2_readLaw tS_X2_readLaw tN_X2 tC_X2_readLaw 0 dd_X2_readLaw rfl (by decide) (by decide) rfl (Nat.le_of_ble_eq_true rfl) dX2_readPart_115 rfl (fun r_44 σ_43 h => ?_)
      obtain ⟨hb_45, h⟩ := h
      exact f_zret C hb_45 dX2_readPart_118 h
    replace h := Eq.mp (if_neg hq_46) h
    refine f_tableOut C (t := 119) dX2_readPart_27 (tsw_out (lo := 0) (hi := 10) 11 (by decide) (fun k hk => ?_)) (by decide) ?_
    · match k, hk with
      | 0, _ => exact toInt_ne (by decide) hq_6
      | 1, _ => exact toInt_ne (by decide) hq_10
      | 2, _ => exact toInt_ne (by decide) hq_14
      | 3, _ => exact toInt_ne (by decide) hq_18
      | 4, _ => exact toInt_ne (by decide) hq_22
      | 5, _ => exact toInt_ne (by decide) hq_26
      | 6, _ => exact toInt_ne (by decide) hq_30
      | 7, _ => exact toInt_ne (by decide) hq_34
      | 8, _ => exact toInt_ne (by decide) hq_38
      | 9, _ => exact toInt_ne (by decide) hq_42
      | 10, _ => exact toInt_ne (by decide) hq_46
    refine f_aload_n C (j := 0) dX2_readPart_119 rfl rfl rfl ?_
    refine f_getc C tF_X2_9 rfl o41 cs41_0 (by decide) dX2_readPart_120 rfl ?_
    refine f_iconst C (v := 2) dX2_readPart_123 kc2 rfl ?_
    refine f_callVi C (a := 10) (ci := 9) (As := fun B => [.int 2]) o10 rfl (c_X9_fail  _ _ _ h) tM_X2_46 tI_X9_fail tS_X9_fail tN_X9 tC_X9_fail 1 dd_X9_fail rfl (by decide) (by decide) rfl (Nat.le_of_ble_eq_true rfl) dX2_readPart_124 rfl (fun r_48 σ_47 h => ?_)
    obtain ⟨hb_49, h⟩ := h
    exact f_zret C hb_49 dX2_readPart_127 h
  · replace h := Eq.mp (if_neg hq_1) h
    refine f_aload_n C (j := 0) dX2_readPart_11 rfl rfl rfl ?_
    refine f_getc C tF_X2_9 rfl o41 cs41_0 (by decide) dX2_readPart_12 rfl ?_
    refine f_iconst C (v := 2) dX2_readPart_15 kc2 rfl ?_
    refine f_callVi C (a := 10) (ci := 9) (As := fun B => [.int 2]) o10 rfl (c_X9_fail  _ _ _ h) tM_X2_46 tI_X9_fail tS_X9_fail tN_X9 tC_X9_fail 1 dd_X9_fail rfl (by decide) (by decide) rfl (Nat.le_of_ble_eq_true rfl) dX2_readPart_16 rfl (fun r_51 σ_50 h => ?_)
    obtain ⟨hb_52, h⟩ := h
    exact f_zret C hb_52 dX2_readPart_19 h
theorem c_X2_readPart (σ : Sto) (P : Int32 → Sto → Prop) (h : w_X2_readPart σ P) : Ct yX2_readPart cX2_readPart 1 (some .boolean) 4 95 (fun B => [.ref (B + 41)]) σ (QFi P) := Ct.of (by decide) (fun _ => Nat.le_of_ble_eq_true rfl) (fun B E C => s_X2_readPart C σ h)
def w_X9_passSign (x1 : Int32) (σ : Sto) (P : Int32 → Sto → Prop) : Prop :=
  w_X9_isSign x1 σ (fun r_2 σ_1 => (if r_2 = 0 then w_X9_fail 2 σ_1 (fun r_7 σ_6 => (r_7 = 0 ∨ r_7 = 1) ∧ P r_7 σ_6) else w_X9_advance σ_1 (fun σ_4 => P 1 σ_4)))
theorem s_X9_passSign {B : Nat} {E : Nat → List (Nat × Value) → List Value → Sto → Prop} {P : Int32 → Sto → Prop} (C : Cy B E RX9 cX9_passSign 2 (some .boolean) 2 41 (Zm (QFi P))) (x1 : Int32) (σ : Sto) (h : w_X9_passSign x1 σ P) : E 0 [(0, .ref (B + 10)), (1, .int x1)] [] σ := by
  unfold w_X9_passSign at h
  refine f_aload_n C (j := 0) dX9_passSign_0 rfl rfl rfl ?_
  refine f_iload_n C (j := 1) dX9_passSign_1 rfl rfl rfl ?_
  refine f_callVi C (a := 10) (ci := 9) (As := fun B => [.int x1]) o10 rfl (c_X9_isSign  _ _ _ h) tM_X9_78 tI_X9_isSign tS_X9_isSign tN_X9 tC_X9_isSign 1 dd_X9_isSign rfl (by decide) (by decide) rfl (Nat.le_of_ble_eq_true rfl) dX9_passSign_2 rfl (fun r_2 σ_1 h => ?_)
  refine f_if_ne C (t := 14) dX9_passSign_5 (by decide) rfl (fun hq_3 => ?_) (fun hq_3 => ?_)
  · replace h := Eq.mp (if_neg hq_3) h
    refine f_aload_n C (j := 0) dX9_passSign_14 rfl rfl rfl ?_
    refine f_callVv C (a := 10) (ci := 9) (As := fun B => []) o10 rfl (c_X9_advance   _ _ h) tM_X9_59 tI_X9_advance tS_X9_advance tN_X9 tC_X9_advance 0 dd_X9_advance rfl (by decide) (by decide) rfl (Nat.le_of_ble_eq_true rfl) dX9_passSign_15 rfl (fun σ_4 h => ?_)
    refine f_iconst C (v := 1) dX9_passSign_18 kc1 rfl ?_
    exact f_zret C (Or.inr rfl) dX9_passSign_19 h
  · replace h := Eq.mp (if_pos hq_3) h
    refine f_aload_n C (j := 0) dX9_passSign_8 rfl rfl rfl ?_
    refine f_iconst C (v := 2) dX9_passSign_9 kc2 rfl ?_
    refine f_callVi C (a := 10) (ci := 9) (As := fun B => [.int 2]) o10 rfl (c_X9_fail  _ _ _ h) tM_X9_75 tI_X9_fail tS_X9_fail tN_X9 tC_X9_fail 1 dd_X9_fail rfl (by decide) (by decide) rfl (Nat.le_of_ble_eq_true rfl) dX9_passSign_10 rfl (fun r_7 σ_6 h => ?_)
    obtain ⟨hb_8, h⟩ := h
    exact f_zret C hb_8 dX9_passSign_13 h
theorem c_X9_passSign (x1 : Int32) (σ : Sto) (P : Int32 → Sto → Prop) (h : w_X9_passSign x1 σ P) : Ct yX9_passSign cX9_passSign 2 (some .boolean) 2 41 (fun B => [.ref (B + 10), .int x1]) σ (QFi P) := Ct.of (by decide) (fun _ => Nat.le_of_ble_eq_true rfl) (fun B E C => s_X9_passSign C x1 σ h)
def w_X2_takes_24 (K24 : Int32 × Sto → Prop) (x3 : Int32) (σ : Sto) (P : Int32 → Sto → Prop) : Prop :=
  (if 900 < x3 then P 1 σ else (if (gi σ 10 5) = 0 then P 1 σ else w_X2_readPart σ (fun r_9 σ_8 => (if r_9 = 0 then P 0 σ_8 else w_X9_passSign 59 σ_8 (fun r_12 σ_11 => (if r_12 = 0 then P 0 σ_11 else ∀ x3_14 : Int32, x3_14 = x3 + 1 → K24 (x3_14, σ_11)))))))
theorem s_X2_takes_24 {B : Nat} {E : Nat → List (Nat × Value) → List Value → Sto → Prop} {P : Int32 → Sto → Prop} (C : Cy B E RX2 cX2_takes 4 (some .boolean) 5 115 (Zm (QFi P))) (x3 : Int32) (K24 : Int32 × Sto → Prop) (hK24 : ∀ (x3 : Int32) (σ : Sto), K24 (x3, σ) → E 24 [(0, .ref (B + 41)), (3, .int x3)] [] σ) (σ : Sto) (h : w_X2_takes_24 K24 x3 σ P) : E 24 [(0, .ref (B + 41)), (3, .int x3)] [] σ := by
  unfold w_X2_takes_24 at h
  refine f_iload_n C (j := 1) dX2_takes_24 rfl rfl rfl ?_
  refine f_sipush C (v := 900) dX2_takes_25 ks900 rfl ?_
  refine f_icmp_gt C (t := 68) dX2_takes_28 (by decide) rfl (fun hq_6 => ?_) (fun hq_6 => ?_)
  · replace h := Eq.mp (if_pos hq_6) h
    refine f_iconst C (v := 1) dX2_takes_68 kc1 rfl ?_
    exact f_zret C (Or.inr rfl) dX2_takes_69 h
  · replace h := Eq.mp (if_neg hq_6) h
    refine f_aload_n C (j := 0) dX2_takes_31 rfl rfl rfl ?_
    refine f_getc C tF_X2_9 rfl o41 cs41_0 (by decide) dX2_takes_32 rfl ?_
    refine f_geti C tF_X2_34 rfl o10 dX2_takes_35 rfl ?_
    refine f_if_eq C (t := 68) dX2_takes_38 (by decide) rfl (fun hq_7 => ?_) (fun hq_7 => ?_)
    · replace h := Eq.mp (if_pos hq_7) h
      refine f_iconst C (v := 1) dX2_takes_68 kc1 rfl ?_
      exact f_zret C (Or.inr rfl) dX2_takes_69 h
    · replace h := Eq.mp (if_neg hq_7) h
      refine f_aload_n C (j := 0) dX2_takes_41 rfl rfl rfl ?_
      refine f_callVi C (a := 41) (ci := 2) (As := fun B => []) o41 rfl (c_X2_readPart   _ _ h) tM_X2_38 tI_X2_readPart tS_X2_readPart tN_X2 tC_X2_readPart 0 dd_X2_readPart rfl (by decide) (by decide) rfl (Nat.le_of_ble_eq_true rfl) dX2_takes_42 rfl (fun r_9 σ_8 h => ?_)
      refine f_if_eq C (t := 60) dX2_takes_45 (by decide) rfl (fun hq_10 => ?_) (fun hq_10 => ?_)
      · replace h := Eq.mp (if_pos hq_10) h
        refine f_iconst C (v := 0) dX2_takes_60 kc0 rfl ?_
        exact f_zret C (Or.inl rfl) dX2_takes_61 h
      · replace h := Eq.mp (if_neg hq_10) h
        refine f_aload_n C (j := 0) dX2_takes_48 rfl rfl rfl ?_
        refine f_getc C tF_X2_9 rfl o41 cs41_0 (by decide) dX2_takes_49 rfl ?_
        refine f_bipush C (v := 59) dX2_takes_52 kb59 rfl ?_
        refine f_callVi C (a := 10) (ci := 9) (As := fun B => [.int 59]) o10 rfl (c_X9_passSign  _ _ _ h) tM_X2_42 tI_X9_passSign tS_X9_passSign tN_X9 tC_X9_passSign 1 dd_X9_passSign rfl (by decide) (by decide) rfl (Nat.le_of_ble_eq_true rfl) dX2_takes_54 rfl (fun r_12 σ_11 h => ?_)
        refine f_if_ne C (t := 62) dX2_takes_57 (by decide) rfl (fun hq_13 => ?_) (fun hq_13 => ?_)
        · replace h := Eq.mp (if_neg hq_13) h
          obtain ⟨x3_14, hx_15⟩ : ∃ y : Int32, y = x3 + 1 := ⟨_, rfl⟩
          replace h := h x3_14 hx_15
          refine f_iinc C (j := 1) (v := x3_14) (lv2 := [(3, .int x3_14), (0, .ref (B + 41))]) dX2_takes_62 rfl hx_15.symm (by decide) rfl rfl ?_
          refine f_goto C (t := 24) dX2_takes_65 (by decide) ?_
          refine f_lv C (lv2 := [(0, .ref (B + 41)), (3, .int x3_14)]) [1, 0] rfl ?_
          exact hK24 _ _ h
        · replace h := Eq.mp (if_pos hq_13) h
          refine f_iconst C (v := 0) dX2_takes_60 kc0 rfl ?_
          exact f_zret C (Or.inl rfl) dX2_takes_61 h
def w_X2_takes (a1 : Nat) (x2 : Int32) (σ : Sto) (P : Int32 → Sto → Prop) : Prop :=
  isCity a1 ∧ w_X1_clear a1 σ (fun σ_2 => w_X9_start x2 (si (sr σ_2 41 1 a1) 41 2 0) (fun σ_4 => Lp (fun (K : Int32 × Sto → Prop) s => w_X2_takes_24 K s.1 s.2 P) (0, σ_4)))
theorem s_X2_takes {B : Nat} {E : Nat → List (Nat × Value) → List Value → Sto → Prop} {P : Int32 → Sto → Prop} (C : Cy B E RX2 cX2_takes 4 (some .boolean) 5 115 (Zm (QFi P))) (a1 : Nat) (x2 : Int32) (σ : Sto) (h : w_X2_takes a1 x2 σ P) : E 0 [(0, .ref (B + 41)), (1, .ref (B + a1)), (2, .int x2)] [] σ := by
  unfold w_X2_takes at h
  refine f_aload_n C (j := 1) dX2_takes_0 rfl rfl rfl ?_
  obtain ⟨hc_1, h⟩ := h
  refine f_callVv C (a := a1) (ci := 1) (As := fun B => []) hc_1.o rfl (c_X1_clear  _ _ _ h) tM_X2_23 tI_X1_clear tS_X1_clear tN_X1 tC_X1_clear 0 dd_X1_clear rfl (by decide) (by decide) rfl (Nat.le_of_ble_eq_true rfl) dX2_takes_1 rfl (fun σ_2 h => ?_)
  refine f_aload_n C (j := 0) dX2_takes_4 rfl rfl rfl ?_
  refine f_aload_n C (j := 1) dX2_takes_5 rfl rfl rfl ?_
  refine f_putr C tF_X2_15 fm_2_1 rfl hc_1.z cn41_1 o41 dX2_takes_6 rfl ?_
  refine f_aload_n C (j := 0) dX2_takes_9 rfl rfl rfl ?_
  refine f_iconst C (v := 0) dX2_takes_10 kc0 rfl ?_
  refine f_putz C tF_X2_19 fm_2_2 rfl (Or.inl rfl) o41 dX2_takes_11 rfl ?_
  refine f_aload_n C (j := 0) dX2_takes_14 rfl rfl rfl ?_
  refine f_getc C tF_X2_9 rfl o41 cs41_0 (by decide) dX2_takes_15 rfl ?_
  refine f_iload_n C (j := 2) dX2_takes_18 rfl rfl rfl ?_
  refine f_callVv C (a := 10) (ci := 9) (As := fun B => [.int x2]) o10 rfl (c_X9_start  _ _ _ h) tM_X2_28 tI_X9_start tS_X9_start tN_X9 tC_X9_start 1 dd_X9_start rfl (by decide) (by decide) rfl (Nat.le_of_ble_eq_true rfl) dX2_takes_19 rfl (fun σ_4 h => ?_)
  refine f_iconst C (v := 0) dX2_takes_22 kc0 rfl ?_
  refine f_istore_n C (lv2 := [(3, .int 0), (0, .ref (B + 41)), (1, .ref (B + a1)), (2, .int x2)]) dX2_takes_23 rfl (by decide) rfl rfl ?_
  refine f_lv C (lv2 := [(0, .ref (B + 41)), (3, .int 0)]) [1, 0] rfl ?_
  exact Lp_sound (fun s : Int32 × Sto => E 24 [(0, .ref (B + 41)), (3, .int s.1)] [] s.2) h (fun K s hK h => s_X2_takes_24 C s.1 K (fun x3 σ hk => hK (x3, σ) hk) s.2 h)
theorem c_X2_takes (a1 : Nat) (x2 : Int32) (σ : Sto) (P : Int32 → Sto → Prop) (h : w_X2_takes a1 x2 σ P) : Ct yX2_takes cX2_takes 4 (some .boolean) 5 115 (fun B => [.ref (B + 41), .ref (B + a1), .int x2]) σ (QFi P) := Ct.of (by decide) (fun _ => Nat.le_of_ble_eq_true rfl) (fun B E C => s_X2_takes C a1 x2 σ h)
def w_X3_turnTo (a1 : Nat) (σ : Sto) (P : Sto → Prop) : Prop :=
  isCity a1 ∧ P (sr σ 97 4 a1)
theorem s_X3_turnTo {B : Nat} {E : Nat → List (Nat × Value) → List Value → Sto → Prop} {P : Sto → Prop} (C : Cy B E RX3 cX3_turnTo 2 none 0 0 (Zm (QFv P))) (a1 : Nat) (σ : Sto) (h : w_X3_turnTo a1 σ P) : E 0 [(0, .ref (B + 97)), (1, .ref (B + a1))] [] σ := by
  unfold w_X3_turnTo at h
  refine f_aload_n C (j := 0) dX3_turnTo_0 rfl rfl rfl ?_
  refine f_aload_n C (j := 1) dX3_turnTo_1 rfl rfl rfl ?_
  obtain ⟨hc_1, h⟩ := h
  refine f_putr C tF_X3_9 fm_3_4 rfl hc_1.z cn97_4 o97 dX3_turnTo_2 rfl ?_
  exact f_vret C dX3_turnTo_5 h
theorem c_X3_turnTo (a1 : Nat) (σ : Sto) (P : Sto → Prop) (h : w_X3_turnTo a1 σ P) : Ct yX3_turnTo cX3_turnTo 2 none 0 0 (fun B => [.ref (B + 97), .ref (B + a1)]) σ (QFv P) := Ct.of (by decide) (fun _ => Nat.le_of_ble_eq_true rfl) (fun B E C => s_X3_turnTo C a1 σ h)
def w_X3_lineBehindEnd (a1 : Nat) (x2 : Int32) (σ : Sto) (P : Int32 → Sto → Prop) : Prop :=
  isStory a1 ∧ vp_in x2 60 ∧ ∀ x3_3 : Int32, x3_3 = gi σ (a1 + 5) (tn x2) → vp_in x3_3 60 ∧ (if (gi σ (a1 + 1) (tn x3_3)) = 6 then ∀ σ_7 : Sto, σ_7 = si σ 99 (tn x3_3) ((gi σ 99 (tn x3_3)) - 1) → (if (gi σ_7 99 (tn x3_3)) ≤ 0 then P (x2 + 1) σ_7 else P (x3_3 + 1) σ_7) else P (x2 + 1) σ)
theorem s_X3_lineBehindEnd {B : Nat} {E : Nat → List (Nat × Value) → List Value → Sto → Prop} {P : Int32 → Sto → Prop} (C : Cy B E RX3 cX3_lineBehindEnd 4 (some .int) 0 0 (Zm (QFi P))) (a1 : Nat) (x2 : Int32) (σ : Sto) (h : w_X3_lineBehindEnd a1 x2 σ P) : E 0 [(0, .ref (B + 97)), (1, .ref (B + a1)), (2, .int x2)] [] σ := by
  unfold w_X3_lineBehindEnd at h
  refine f_aload_n C (j := 1) dX3_lineBehindEnd_0 rfl rfl rfl ?_
  obtain ⟨hs_1, h⟩ := h
  refine f_getc C tF_X3_62 rfl hs_1.o hs_1.c4 (Nat.succ_ne_zero _) dX3_lineBehindEnd_1 rfl ?_
  refine f_iload_n C (j := 2) dX3_lineBehindEnd_4 rfl rfl rfl ?_
  obtain ⟨hi_2, h⟩ := h
  refine f_iald C (j := tn x2) hs_1.a4 hi_2 rfl dX3_lineBehindEnd_5 rfl ?_
  refine f_name (fun x3_3 hx_4 => ?_)
  replace h := h x3_3 hx_4
  refine f_istore_n C (lv2 := [(3, .int x3_3), (0, .ref (B + 97)), (1, .ref (B + a1)), (2, .int x2)]) dX3_lineBehindEnd_6 rfl (by decide) rfl rfl ?_
  refine f_aload_n C (j := 2) dX3_lineBehindEnd_7 rfl rfl rfl ?_
  refine f_getc C tF_X3_52 rfl hs_1.o hs_1.c0 (Nat.succ_ne_zero _) dX3_lineBehindEnd_8 rfl ?_
  refine f_iload_n C (j := 0) dX3_lineBehindEnd_11 rfl rfl rfl ?_
  obtain ⟨hi_5, h⟩ := h
  refine f_iald C (j := tn x3_3) hs_1.a0 hi_5 rfl dX3_lineBehindEnd_12 rfl ?_
  refine f_bipush C (v := 6) dX3_lineBehindEnd_13 kb6 rfl ?_
  refine f_icmp_ne C (t := 41) dX3_lineBehindEnd_15 (by decide) rfl (fun hq_6 => ?_) (fun hq_6 => ?_)
  · replace h := Eq.mp (if_neg hq_6) h
    refine f_iload_n C (j := 3) dX3_lineBehindEnd_41 rfl rfl rfl ?_
    refine f_iconst C (v := 1) dX3_lineBehindEnd_42 kc1 rfl ?_
    refine f_iadd C dX3_lineBehindEnd_43 rfl ?_
    exact f_iret C dX3_lineBehindEnd_44 h
  · replace h := Eq.mp (if_pos hq_6) h
    refine f_aload_n C (j := 1) dX3_lineBehindEnd_18 rfl rfl rfl ?_
    refine f_getc C tF_X3_29 rfl o97 cs97_3 (by decide) dX3_lineBehindEnd_19 rfl ?_
    refine f_iload_n C (j := 0) dX3_lineBehindEnd_22 rfl rfl rfl ?_
    refine f_dup2 C dX3_lineBehindEnd_23 rfl rfl rfl ?_
    refine f_iald C (j := tn x3_3) a99 hi_5 rfl dX3_lineBehindEnd_24 rfl ?_
    refine f_iconst C (v := 1) dX3_lineBehindEnd_25 kc1 rfl ?_
    refine f_isub C dX3_lineBehindEnd_26 rfl ?_
    refine f_iast C (j := tn x3_3) a99 hi_5 rfl dX3_lineBehindEnd_27 rfl ?_
    refine f_aload_n C (j := 1) dX3_lineBehindEnd_28 rfl rfl rfl ?_
    refine f_getc C tF_X3_29 rfl o97 cs97_3 (by decide) dX3_lineBehindEnd_29 rfl ?_
    refine f_iload_n C (j := 0) dX3_lineBehindEnd_32 rfl rfl rfl ?_
    refine f_names (fun σ_7 hσ_8 => ?_)
    replace h := h σ_7 hσ_8
    refine f_iald C (j := tn x3_3) a99 hi_5 rfl dX3_lineBehindEnd_33 rfl ?_
    refine f_if_le C (t := 41) dX3_lineBehindEnd_34 (by decide) rfl (fun hq_9 => ?_) (fun hq_9 => ?_)
    · replace h := Eq.mp (if_pos hq_9) h
      refine f_iload_n C (j := 3) dX3_lineBehindEnd_41 rfl rfl rfl ?_
      refine f_iconst C (v := 1) dX3_lineBehindEnd_42 kc1 rfl ?_
      refine f_iadd C dX3_lineBehindEnd_43 rfl ?_
      exact f_iret C dX3_lineBehindEnd_44 h
    · replace h := Eq.mp (if_neg hq_9) h
      refine f_iload_n C (j := 0) dX3_lineBehindEnd_37 rfl rfl rfl ?_
      refine f_iconst C (v := 1) dX3_lineBehindEnd_38 kc1 rfl ?_
      refine f_iadd C dX3_lineBehindEnd_39 rfl ?_
      exact f_iret C dX3_lineBehindEnd_40 h
theorem c_X3_lineBehindEnd (a1 : Nat) (x2 : Int32) (σ : Sto) (P : Int32 → Sto → Prop) (h : w_X3_lineBehindEnd a1 x2 σ P) : Ct yX3_lineBehindEnd cX3_lineBehindEnd 4 (some .int) 0 0 (fun B => [.ref (B + 97), .ref (B + a1), .int x2]) σ (QFi P) := Ct.of (by decide) (fun _ => Nat.le_of_ble_eq_true rfl) (fun B E C => s_X3_lineBehindEnd C a1 x2 σ h)
def w_X6_atPresent (σ : Sto) (P : Int32 → Sto → Prop) : Prop :=
  isCity (gr σ 88 1) ∧ w_X6_without (gi σ (gr σ 88 1) 14) σ (fun r_3 σ_2 => P r_3 σ_2)
theorem s_X6_atPresent {B : Nat} {E : Nat → List (Nat × Value) → List Value → Sto → Prop} {P : Int32 → Sto → Prop} (C : Cy B E RX6 cX6_atPresent 1 (some .int) 2 49 (Zm (QFi P))) (σ : Sto) (h : w_X6_atPresent σ P) : E 0 [(0, .ref (B + 88))] [] σ := by
  unfold w_X6_atPresent at h
  refine f_aload_n C (j := 0) dX6_atPresent_0 rfl rfl rfl ?_
  refine f_aload_n C (j := 0) dX6_atPresent_1 rfl rfl rfl ?_
  obtain ⟨hc_1, h⟩ := h
  refine f_getm C tF_X6_15 rfl o88 cn88_1 hc_1.z dX6_atPresent_2 rfl ?_
  refine f_geti C tF_X6_34 rfl hc_1.o dX6_atPresent_5 rfl ?_
  refine f_callVi C (a := 88) (ci := 6) (As := fun B => [.int (gi σ (gr σ 88 1) 14)]) o88 rfl (c_X6_without  _ _ _ h) tM_X6_37 tI_X6_without tS_X6_without tN_X6 tC_X6_without 1 dd_X6_without rfl (by decide) (by decide) rfl (Nat.le_of_ble_eq_true rfl) dX6_atPresent_8 rfl (fun r_3 σ_2 h => ?_)
  exact f_iret C dX6_atPresent_11 h
theorem c_X6_atPresent (σ : Sto) (P : Int32 → Sto → Prop) (h : w_X6_atPresent σ P) : Ct yX6_atPresent cX6_atPresent 1 (some .int) 2 49 (fun B => [.ref (B + 88)]) σ (QFi P) := Ct.of (by decide) (fun _ => Nat.le_of_ble_eq_true rfl) (fun B E C => s_X6_atPresent C σ h)
def w_X6_doable_4 (K4 : Int32 × Int32 × Sto → Prop) (x1 : Int32) (x2 : Int32) (x3 : Int32) (σ : Sto) (P : Int32 → Sto → Prop) : Prop :=
  isCity (gr σ 88 1) ∧ (if (gi σ (gr σ 88 1) 10) ≤ x3 then P x2 σ else vp_in x3 6 ∧ (if ((gi σ ((gr σ 88 1) + 5) (tn x3)) &&& (~~~x1)) = 0 then ∀ x2_7 : Int32, x2_7 = x2 ||| (1 <<< (x3 &&& 31)) → ∀ x3_9 : Int32, x3_9 = x3 + 1 → K4 (x2_7, x3_9, σ) else ∀ x3_5 : Int32, x3_5 = x3 + 1 → K4 (x2, x3_5, σ)))
theorem s_X6_doable_4 {B : Nat} {E : Nat → List (Nat × Value) → List Value → Sto → Prop} {P : Int32 → Sto → Prop} (C : Cy B E RX6 cX6_doable 4 (some .int) 0 0 (Zm (QFi P))) (x1 : Int32) (x2 : Int32) (x3 : Int32) (K4 : Int32 × Int32 × Sto → Prop) (hK4 : ∀ (x2 : Int32) (x3 : Int32) (σ : Sto), K4 (x2, x3, σ) → E 4 [(0, .ref (B + 88)), (1, .int x1), (2, .int x2), (3, .int x3)] [] σ) (σ : Sto) (h : w_X6_doable_4 K4 x1 x2 x3 σ P) : E 4 [(0, .ref (B + 88)), (1, .int x1), (2, .int x2), (3, .int x3)] [] σ := by
  unfold w_X6_doable_4 at h
  refine f_iload_n C (j := 3) dX6_doable_4 rfl rfl rfl ?_
  refine f_aload_n C (j := 0) dX6_doable_5 rfl rfl rfl ?_
  obtain ⟨hc_1, h⟩ := h
  refine f_getm C tF_X6_15 rfl o88 cn88_1 hc_1.z dX6_doable_6 rfl ?_
  refine f_geti C tF_X6_50 rfl hc_1.o dX6_doable_9 rfl ?_
  refine f_icmp_ge C (t := 43) dX6_doable_12 (by decide) rfl (fun hq_2 => ?_) (fun hq_2 => ?_)
  · replace h := Eq.mp (if_pos hq_2) h
    refine f_iload_n C (j := 2) dX6_doable_43 rfl rfl rfl ?_
    exact f_iret C dX6_doable_44 h
  · replace h := Eq.mp (if_neg hq_2) h
    refine f_aload_n C (j := 0) dX6_doable_15 rfl rfl rfl ?_
    refine f_getm C tF_X6_15 rfl o88 cn88_1 hc_1.z dX6_doable_16 rfl ?_
    refine f_getc C tF_X6_53 rfl hc_1.o hc_1.c4 (Nat.succ_ne_zero _) dX6_doable_19 rfl ?_
    refine f_iload_n C (j := 3) dX6_doable_22 rfl rfl rfl ?_
    obtain ⟨hi_3, h⟩ := h
    refine f_iald C (j := tn x3) hc_1.a4 hi_3 rfl dX6_doable_23 rfl ?_
    refine f_iload_n C (j := 1) dX6_doable_24 rfl rfl rfl ?_
    refine f_iconst C (v := (-1)) dX6_doable_25 kcm1 rfl ?_
    refine f_inot C dX6_doable_26 rfl ?_
    refine f_iand C dX6_doable_27 rfl ?_
    refine f_if_ne C (t := 37) dX6_doable_28 (by decide) rfl (fun hq_4 => ?_) (fun hq_4 => ?_)
    · replace h := Eq.mp (if_neg hq_4) h
      obtain ⟨x3_5, hx_6⟩ : ∃ y : Int32, y = x3 + 1 := ⟨_, rfl⟩
      replace h := h x3_5 hx_6
      refine f_iinc C (j := 3) (v := x3_5) (lv2 := [(3, .int x3_5), (0, .ref (B + 88)), (1, .int x1), (2, .int x2)]) dX6_doable_37 rfl hx_6.symm (by decide) rfl rfl ?_
      refine f_goto C (t := 4) dX6_doable_40 (by decide) ?_
      refine f_lv C (lv2 := [(0, .ref (B + 88)), (1, .int x1), (2, .int x2), (3, .int x3_5)]) [1, 2, 3, 0] rfl ?_
      exact hK4 _ _ _ h
    · replace h := Eq.mp (if_pos hq_4) h
      refine f_iload_n C (j := 2) dX6_doable_31 rfl rfl rfl ?_
      refine f_iconst C (v := 1) dX6_doable_32 kc1 rfl ?_
      refine f_iload_n C (j := 3) dX6_doable_33 rfl rfl rfl ?_
      refine f_ishl C dX6_doable_34 rfl ?_
      refine f_ior C dX6_doable_35 rfl ?_
      refine f_name (fun x2_7 hx_8 => ?_)
      replace h := h x2_7 hx_8
      refine f_istore_n C (lv2 := [(2, .int x2_7), (0, .ref (B + 88)), (1, .int x1), (3, .int x3)]) dX6_doable_36 rfl (by decide) rfl rfl ?_
      obtain ⟨x3_9, hx_10⟩ : ∃ y : Int32, y = x3 + 1 := ⟨_, rfl⟩
      replace h := h x3_9 hx_10
      refine f_iinc C (j := 3) (v := x3_9) (lv2 := [(3, .int x3_9), (2, .int x2_7), (0, .ref (B + 88)), (1, .int x1)]) dX6_doable_37 rfl hx_10.symm (by decide) rfl rfl ?_
      refine f_goto C (t := 4) dX6_doable_40 (by decide) ?_
      refine f_lv C (lv2 := [(0, .ref (B + 88)), (1, .int x1), (2, .int x2_7), (3, .int x3_9)]) [2, 3, 1, 0] rfl ?_
      exact hK4 _ _ _ h
def w_X6_doable (x1 : Int32) (σ : Sto) (P : Int32 → Sto → Prop) : Prop :=
  Lp (fun (K : Int32 × Int32 × Sto → Prop) s => w_X6_doable_4 K x1 s.1 s.2.1 s.2.2 P) (0, 0, σ)
theorem s_X6_doable {B : Nat} {E : Nat → List (Nat × Value) → List Value → Sto → Prop} {P : Int32 → Sto → Prop} (C : Cy B E RX6 cX6_doable 4 (some .int) 0 0 (Zm (QFi P))) (x1 : Int32) (σ : Sto) (h : w_X6_doable x1 σ P) : E 0 [(0, .ref (B + 88)), (1, .int x1)] [] σ := by
  unfold w_X6_doable at h
  refine f_iconst C (v := 0) dX6_doable_0 kc0 rfl ?_
  refine f_istore_n C (lv2 := [(2, .int 0), (0, .ref (B + 88)), (1, .int x1)]) dX6_doable_1 rfl (by decide) rfl rfl ?_
  refine f_iconst C (v := 0) dX6_doable_2 kc0 rfl ?_
  refine f_istore_n C (lv2 := [(3, .int 0), (2, .int 0), (0, .ref (B + 88)), (1, .int x1)]) dX6_doable_3 rfl (by decide) rfl rfl ?_
  refine f_lv C (lv2 := [(0, .ref (B + 88)), (1, .int x1), (2, .int 0), (3, .int 0)]) [2, 3, 1, 0] rfl ?_
  exact Lp_sound (fun s : Int32 × Int32 × Sto => E 4 [(0, .ref (B + 88)), (1, .int x1), (2, .int s.1), (3, .int s.2.1)] [] s.2.2) h (fun K s hK h => s_X6_doable_4 C x1 s.1 s.2.1 K (fun x2 x3 σ hk => hK (x2, x3, σ) hk) s.2.2 h)
theorem c_X6_doable (x1 : Int32) (σ : Sto) (P : Int32 → Sto → Prop) (h : w_X6_doable x1 σ P) : Ct yX6_doable cX6_doable 4 (some .int) 0 0 (fun B => [.ref (B + 88), .int x1]) σ (QFi P) := Ct.of (by decide) (fun _ => Nat.le_of_ble_eq_true rfl) (fun B E C => s_X6_doable C x1 σ h)
