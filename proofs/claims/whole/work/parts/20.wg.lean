def w_X12_live (x1 : Int32) (σ : Sto) (P : Int32 → Sto → Prop) : Prop :=
  w_X12_isIn x1.toInt64 0 9999 (si (si σ 101 1 0) 101 0 0) (fun r_2 σ_1 => (if r_2 = 0 then w_X12_refuse 5 σ_1 (fun r_20 σ_19 => P r_20 σ_19) else (if (gi σ_1 106 142) = 0 then w_X12_refuse 8 σ_1 (fun r_18 σ_17 => P r_18 σ_17) else w_X12_runsCenturies x1 σ_1 (fun σ_5 => ∀ σ_7 : Sto, σ_7 = si σ_5 118 0 (gi σ_5 101 43) → ∀ σ_9 : Sto, σ_9 = si σ_7 118 1 (gi σ_7 101 44) → ∀ σ_11 : Sto, σ_11 = si σ_9 118 2 (gi σ_9 101 45) → ∀ σ_13 : Sto, σ_13 = si σ_11 118 3 (gi σ_11 101 46) → ∀ σ_15 : Sto, σ_15 = si (si σ_13 118 4 (gi σ_13 101 47)) 101 39 1 → P (gi σ_15 101 42) σ_15))))
theorem s_X12_live {B : Nat} {E : Nat → List (Nat × Value) → List Value → Sto → Prop} {P : Int32 → Sto → Prop} (C : Cy B E RX12 cX12_live 2 (some .int) 43 1007 (Zm (QFi P))) (x1 : Int32) (σ : Sto) (h : w_X12_live x1 σ P) : E 0 [(0, .ref (B + 101)), (1, .int x1)] [] σ := by
  unfold w_X12_live at h
  refine f_aload_n C (j := 0) dX12_live_0 rfl rfl rfl ?_
  refine f_iconst C (v := 0) dX12_live_1 kc0 rfl ?_
  refine f_puti C tF_X12_74 fm_12_1 rfl o101 dX12_live_2 rfl ?_
  refine f_aload_n C (j := 0) dX12_live_5 rfl rfl rfl ?_
  refine f_iconst C (v := 0) dX12_live_6 kc0 rfl ?_
  refine f_puti C tF_X12_77 fm_12_0 rfl o101 dX12_live_7 rfl ?_
  refine f_iload_n C (j := 1) dX12_live_10 rfl rfl rfl ?_
  refine f_i2l C dX12_live_11 rfl ?_
  refine f_lconst C (v := 0) dX12_live_12 (by decide) rfl ?_
  refine f_ldc2_w C tL_X12_508 dX12_live_13 rfl ?_
  refine f_callSi C (As := fun B => [.long x1.toInt64, .long 0, .long 9999]) (c_X12_isIn  _ _ _ _ _ h) tM_X12_109 tT_X12_isIn tN_X12 tC_X12_isIn 3 dd_X12_isIn rfl (by decide) (by decide) rfl (Nat.le_of_ble_eq_true rfl) dX12_live_16 rfl (fun r_2 σ_1 h => ?_)
  refine f_if_ne C (t := 28) dX12_live_19 (by decide) rfl (fun hq_3 => ?_) (fun hq_3 => ?_)
  · replace h := Eq.mp (if_neg hq_3) h
    refine f_aload_n C (j := 0) dX12_live_28 rfl rfl rfl ?_
    refine f_getc C tF_X12_35 rfl o101 cs101_20 (by decide) dX12_live_29 rfl ?_
    refine f_sipush C (v := 142) dX12_live_32 ks142 rfl ?_
    refine f_iald C (j := 142) a106 (vp_lit (by decide)) rfl dX12_live_35 rfl ?_
    refine f_if_ne C (t := 46) dX12_live_36 (by decide) rfl (fun hq_4 => ?_) (fun hq_4 => ?_)
    · replace h := Eq.mp (if_neg hq_4) h
      refine f_aload_n C (j := 0) dX12_live_46 rfl rfl rfl ?_
      refine f_iload_n C (j := 1) dX12_live_47 rfl rfl rfl ?_
      refine f_callVv C (a := 101) (ci := 12) (As := fun B => [.int x1]) o101 rfl (c_X12_runsCenturies  _ _ _ h) tM_X12_510 tI_X12_runsCenturies tS_X12_runsCenturies tN_X12 tC_X12_runsCenturies 1 dd_X12_runsCenturies rfl (by decide) (by decide) rfl (Nat.le_of_ble_eq_true rfl) dX12_live_48 rfl (fun σ_5 h => ?_)
      refine f_aload_n C (j := 0) dX12_live_51 rfl rfl rfl ?_
      refine f_getc C tF_X12_71 rfl o101 cs101_38 (by decide) dX12_live_52 rfl ?_
      refine f_iconst C (v := 0) dX12_live_55 kc0 rfl ?_
      refine f_aload_n C (j := 0) dX12_live_56 rfl rfl rfl ?_
      refine f_geti C tF_X12_493 rfl o101 dX12_live_57 rfl ?_
      refine f_iast C (j := 0) a118 (vp_lit (by decide)) rfl dX12_live_60 rfl ?_
      refine f_aload_n C (j := 0) dX12_live_61 rfl rfl rfl ?_
      refine f_getc C tF_X12_71 rfl o101 cs101_38 (by decide) dX12_live_62 rfl ?_
      refine f_iconst C (v := 1) dX12_live_65 kc1 rfl ?_
      refine f_aload_n C (j := 0) dX12_live_66 rfl rfl rfl ?_
      refine f_names (fun σ_7 hσ_8 => ?_)
      replace h := h σ_7 hσ_8
      refine f_geti C tF_X12_469 rfl o101 dX12_live_67 rfl ?_
      refine f_iast C (j := 1) a118 (vp_lit (by decide)) rfl dX12_live_70 rfl ?_
      refine f_aload_n C (j := 0) dX12_live_71 rfl rfl rfl ?_
      refine f_getc C tF_X12_71 rfl o101 cs101_38 (by decide) dX12_live_72 rfl ?_
      refine f_iconst C (v := 2) dX12_live_75 kc2 rfl ?_
      refine f_aload_n C (j := 0) dX12_live_76 rfl rfl rfl ?_
      refine f_names (fun σ_9 hσ_10 => ?_)
      replace h := h σ_9 hσ_10
      refine f_geti C tF_X12_466 rfl o101 dX12_live_77 rfl ?_
      refine f_iast C (j := 2) a118 (vp_lit (by decide)) rfl dX12_live_80 rfl ?_
      refine f_aload_n C (j := 0) dX12_live_81 rfl rfl rfl ?_
      refine f_getc C tF_X12_71 rfl o101 cs101_38 (by decide) dX12_live_82 rfl ?_
      refine f_iconst C (v := 3) dX12_live_85 kc3 rfl ?_
      refine f_aload_n C (j := 0) dX12_live_86 rfl rfl rfl ?_
      refine f_names (fun σ_11 hσ_12 => ?_)
      replace h := h σ_11 hσ_12
      refine f_geti C tF_X12_475 rfl o101 dX12_live_87 rfl ?_
      refine f_iast C (j := 3) a118 (vp_lit (by decide)) rfl dX12_live_90 rfl ?_
      refine f_aload_n C (j := 0) dX12_live_91 rfl rfl rfl ?_
      refine f_getc C tF_X12_71 rfl o101 cs101_38 (by decide) dX12_live_92 rfl ?_
      refine f_iconst C (v := 4) dX12_live_95 kc4 rfl ?_
      refine f_aload_n C (j := 0) dX12_live_96 rfl rfl rfl ?_
      refine f_names (fun σ_13 hσ_14 => ?_)
      replace h := h σ_13 hσ_14
      refine f_geti C tF_X12_490 rfl o101 dX12_live_97 rfl ?_
      refine f_iast C (j := 4) a118 (vp_lit (by decide)) rfl dX12_live_100 rfl ?_
      refine f_aload_n C (j := 0) dX12_live_101 rfl rfl rfl ?_
      refine f_iconst C (v := 1) dX12_live_102 kc1 rfl ?_
      refine f_putz C tF_X12_513 fm_12_39 rfl (Or.inr rfl) o101 dX12_live_103 rfl ?_
      refine f_aload_n C (j := 0) dX12_live_106 rfl rfl rfl ?_
      refine f_names (fun σ_15 hσ_16 => ?_)
      replace h := h σ_15 hσ_16
      refine f_geti C tF_X12_484 rfl o101 dX12_live_107 rfl ?_
      exact f_iret C dX12_live_110 h
    · replace h := Eq.mp (if_pos hq_4) h
      refine f_aload_n C (j := 0) dX12_live_39 rfl rfl rfl ?_
      refine f_bipush C (v := 8) dX12_live_40 kb8 rfl ?_
      refine f_callVi C (a := 101) (ci := 12) (As := fun B => [.int 8]) o101 rfl (c_X12_refuse  _ _ _ h) tM_X12_327 tI_X12_refuse tS_X12_refuse tN_X12 tC_X12_refuse 1 dd_X12_refuse rfl (by decide) (by decide) rfl (Nat.le_of_ble_eq_true rfl) dX12_live_42 rfl (fun r_18 σ_17 h => ?_)
      exact f_iret C dX12_live_45 h
  · replace h := Eq.mp (if_pos hq_3) h
    refine f_aload_n C (j := 0) dX12_live_22 rfl rfl rfl ?_
    refine f_iconst C (v := 5) dX12_live_23 kc5 rfl ?_
    refine f_callVi C (a := 101) (ci := 12) (As := fun B => [.int 5]) o101 rfl (c_X12_refuse  _ _ _ h) tM_X12_327 tI_X12_refuse tS_X12_refuse tN_X12 tC_X12_refuse 1 dd_X12_refuse rfl (by decide) (by decide) rfl (Nat.le_of_ble_eq_true rfl) dX12_live_24 rfl (fun r_20 σ_19 h => ?_)
    exact f_iret C dX12_live_27 h
theorem c_X12_live (x1 : Int32) (σ : Sto) (P : Int32 → Sto → Prop) (h : w_X12_live x1 σ P) : Ct yX12_live cX12_live 2 (some .int) 43 1007 (fun B => [.ref (B + 101), .int x1]) σ (QFi P) := Ct.of (by decide) (fun _ => Nat.le_of_ble_eq_true rfl) (fun B E C => s_X12_live C x1 σ h)
def w_X12_lived (x1 : Int32) (σ : Sto) (P : Int32 → Sto → Prop) : Prop :=
  w_X12_isIn x1.toInt64 0 4 (si (si σ 101 1 0) 101 0 0) (fun r_2 σ_1 => (if r_2 = 0 then w_X12_refuse 5 σ_1 (fun r_9 σ_8 => P r_9 σ_8) else (if (gi σ_1 101 39) = 0 then w_X12_refuse 8 σ_1 (fun r_6 σ_5 => P r_6 σ_5) else vp_in x1 5 ∧ P (gi σ_1 118 (tn x1)) σ_1)))
theorem s_X12_lived {B : Nat} {E : Nat → List (Nat × Value) → List Value → Sto → Prop} {P : Int32 → Sto → Prop} (C : Cy B E RX12 cX12_lived 2 (some .int) 1 25 (Zm (QFi P))) (x1 : Int32) (σ : Sto) (h : w_X12_lived x1 σ P) : E 0 [(0, .ref (B + 101)), (1, .int x1)] [] σ := by
  unfold w_X12_lived at h
  refine f_aload_n C (j := 0) dX12_lived_0 rfl rfl rfl ?_
  refine f_iconst C (v := 0) dX12_lived_1 kc0 rfl ?_
  refine f_puti C tF_X12_74 fm_12_1 rfl o101 dX12_lived_2 rfl ?_
  refine f_aload_n C (j := 0) dX12_lived_5 rfl rfl rfl ?_
  refine f_iconst C (v := 0) dX12_lived_6 kc0 rfl ?_
  refine f_puti C tF_X12_77 fm_12_0 rfl o101 dX12_lived_7 rfl ?_
  refine f_iload_n C (j := 1) dX12_lived_10 rfl rfl rfl ?_
  refine f_i2l C dX12_lived_11 rfl ?_
  refine f_lconst C (v := 0) dX12_lived_12 (by decide) rfl ?_
  refine f_ldc2_w C tL_X12_437 dX12_lived_13 rfl ?_
  refine f_callSi C (As := fun B => [.long x1.toInt64, .long 0, .long 4]) (c_X12_isIn  _ _ _ _ _ h) tM_X12_109 tT_X12_isIn tN_X12 tC_X12_isIn 3 dd_X12_isIn rfl (by decide) (by decide) rfl (Nat.le_of_ble_eq_true rfl) dX12_lived_16 rfl (fun r_2 σ_1 h => ?_)
  refine f_if_ne C (t := 28) dX12_lived_19 (by decide) rfl (fun hq_3 => ?_) (fun hq_3 => ?_)
  · replace h := Eq.mp (if_neg hq_3) h
    refine f_aload_n C (j := 0) dX12_lived_28 rfl rfl rfl ?_
    refine f_geti C tF_X12_513 rfl o101 dX12_lived_29 rfl ?_
    refine f_if_eq C (t := 44) dX12_lived_32 (by decide) rfl (fun hq_4 => ?_) (fun hq_4 => ?_)
    · replace h := Eq.mp (if_pos hq_4) h
      refine f_aload_n C (j := 0) dX12_lived_44 rfl rfl rfl ?_
      refine f_bipush C (v := 8) dX12_lived_45 kb8 rfl ?_
      refine f_callVi C (a := 101) (ci := 12) (As := fun B => [.int 8]) o101 rfl (c_X12_refuse  _ _ _ h) tM_X12_327 tI_X12_refuse tS_X12_refuse tN_X12 tC_X12_refuse 1 dd_X12_refuse rfl (by decide) (by decide) rfl (Nat.le_of_ble_eq_true rfl) dX12_lived_47 rfl (fun r_6 σ_5 h => ?_)
      exact f_iret C dX12_lived_50 h
    · replace h := Eq.mp (if_neg hq_4) h
      refine f_aload_n C (j := 0) dX12_lived_35 rfl rfl rfl ?_
      refine f_getc C tF_X12_71 rfl o101 cs101_38 (by decide) dX12_lived_36 rfl ?_
      refine f_iload_n C (j := 1) dX12_lived_39 rfl rfl rfl ?_
      obtain ⟨hi_7, h⟩ := h
      refine f_iald C (j := tn x1) a118 hi_7 rfl dX12_lived_40 rfl ?_
      refine f_goto C (t := 50) dX12_lived_41 (by decide) ?_
      exact f_iret C dX12_lived_50 h
  · replace h := Eq.mp (if_pos hq_3) h
    refine f_aload_n C (j := 0) dX12_lived_22 rfl rfl rfl ?_
    refine f_iconst C (v := 5) dX12_lived_23 kc5 rfl ?_
    refine f_callVi C (a := 101) (ci := 12) (As := fun B => [.int 5]) o101 rfl (c_X12_refuse  _ _ _ h) tM_X12_327 tI_X12_refuse tS_X12_refuse tN_X12 tC_X12_refuse 1 dd_X12_refuse rfl (by decide) (by decide) rfl (Nat.le_of_ble_eq_true rfl) dX12_lived_24 rfl (fun r_9 σ_8 h => ?_)
    exact f_iret C dX12_lived_27 h
theorem c_X12_lived (x1 : Int32) (σ : Sto) (P : Int32 → Sto → Prop) (h : w_X12_lived x1 σ P) : Ct yX12_lived cX12_lived 2 (some .int) 1 25 (fun B => [.ref (B + 101), .int x1]) σ (QFi P) := Ct.of (by decide) (fun _ => Nat.le_of_ble_eq_true rfl) (fun B E C => s_X12_lived C x1 σ h)
def w_X12_mean_37 (σ : Sto) (P : Int32 → Sto → Prop) : Prop :=
  w_X12_no 5 σ (fun r_5 σ_4 => (r_5 = 0 ∨ r_5 = 1) ∧ P r_5 σ_4)
theorem s_X12_mean_37 {B : Nat} {E : Nat → List (Nat × Value) → List Value → Sto → Prop} {P : Int32 → Sto → Prop} (C : Cy B E RX12 cX12_mean 7 (some .boolean) 43 1007 (Zm (QFi P))) (σ : Sto) (h : w_X12_mean_37 σ P) : E 37 [(0, .ref (B + 101))] [] σ := by
  unfold w_X12_mean_37 at h
  refine f_aload_n C (j := 0) dX12_mean_37 rfl rfl rfl ?_
  refine f_iconst C (v := 5) dX12_mean_38 kc5 rfl ?_
  refine f_callVi C (a := 101) (ci := 12) (As := fun B => [.int 5]) o101 rfl (c_X12_no  _ _ _ h) tM_X12_89 tI_X12_no tS_X12_no tN_X12 tC_X12_no 1 dd_X12_no rfl (by decide) (by decide) rfl (Nat.le_of_ble_eq_true rfl) dX12_mean_39 rfl (fun r_5 σ_4 h => ?_)
  obtain ⟨hb_6, h⟩ := h
  exact f_zret C hb_6 dX12_mean_42 h
def w_X12_mean_125 (K93 : Int64 × Int32 × Sto → Prop) (K125 : Int32 × Sto → Prop) (x1 : Int32) (x2 : Int32) (x3 : Int64) (x5 : Int32) (x6 : Int32) (σ : Sto) (P : Int32 → Sto → Prop) : Prop :=
  (if 142 ≤ x6 then ∀ x5_27 : Int32, x5_27 = x5 + 1 → K93 (x3, x5_27, σ) else vp_in x6 142 ∧ vp_in x6 2105 ∧ ∀ x6_31 : Int32, x6_31 = x6 + 1 → K125 (x6_31, si σ 106 (tn x6) (gi σ 107 (tn x6))))
theorem s_X12_mean_125 {B : Nat} {E : Nat → List (Nat × Value) → List Value → Sto → Prop} {P : Int32 → Sto → Prop} (C : Cy B E RX12 cX12_mean 7 (some .boolean) 43 1007 (Zm (QFi P))) (x1 : Int32) (x2 : Int32) (x3 : Int64) (x5 : Int32) (x6 : Int32) (K93 : Int64 × Int32 × Sto → Prop) (K125 : Int32 × Sto → Prop) (hK93 : ∀ (x3 : Int64) (x5 : Int32) (σ : Sto), K93 (x3, x5, σ) → E 93 [(0, .ref (B + 101)), (1, .int x1), (2, .int x2), (3, .long x3), (5, .int x5)] [] σ) (hK125 : ∀ (x6 : Int32) (σ : Sto), K125 (x6, σ) → E 125 [(0, .ref (B + 101)), (1, .int x1), (2, .int x2), (3, .long x3), (5, .int x5), (6, .int x6)] [] σ) (σ : Sto) (h : w_X12_mean_125 K93 K125 x1 x2 x3 x5 x6 σ P) : E 125 [(0, .ref (B + 101)), (1, .int x1), (2, .int x2), (3, .long x3), (5, .int x5), (6, .int x6)] [] σ := by
  unfold w_X12_mean_125 at h
  refine f_iload C (j := 5) dX12_mean_125 rfl rfl ?_
  refine f_sipush C (v := 142) dX12_mean_127 ks142 rfl ?_
  refine f_icmp_ge C (t := 153) dX12_mean_130 (by decide) rfl (fun hq_26 => ?_) (fun hq_26 => ?_)
  · replace h := Eq.mp (if_pos hq_26) h
    obtain ⟨x5_27, hx_28⟩ : ∃ y : Int32, y = x5 + 1 := ⟨_, rfl⟩
    replace h := h x5_27 hx_28
    refine f_iinc C (j := 4) (v := x5_27) (lv2 := [(5, .int x5_27), (0, .ref (B + 101)), (1, .int x1), (2, .int x2), (3, .long x3), (6, .int x6)]) dX12_mean_153 rfl hx_28.symm (by decide) rfl rfl ?_
    refine f_goto C (t := 93) dX12_mean_156 (by decide) ?_
    refine f_lv C (lv2 := [(0, .ref (B + 101)), (1, .int x1), (2, .int x2), (3, .long x3), (5, .int x5_27)]) [1, 2, 3, 4, 0] rfl ?_
    exact hK93 _ _ _ h
  · replace h := Eq.mp (if_neg hq_26) h
    refine f_aload_n C (j := 0) dX12_mean_133 rfl rfl rfl ?_
    refine f_getc C tF_X12_35 rfl o101 cs101_20 (by decide) dX12_mean_134 rfl ?_
    refine f_iload C (j := 5) dX12_mean_137 rfl rfl ?_
    refine f_aload_n C (j := 0) dX12_mean_139 rfl rfl rfl ?_
    refine f_getc C tF_X12_38 rfl o101 cs101_21 (by decide) dX12_mean_140 rfl ?_
    refine f_iload C (j := 5) dX12_mean_143 rfl rfl ?_
    obtain ⟨hi_29, h⟩ := h
    refine f_iald C (j := tn x6) a107 hi_29 rfl dX12_mean_145 rfl ?_
    obtain ⟨hi_30, h⟩ := h
    refine f_iast C (j := tn x6) a106 hi_30 rfl dX12_mean_146 rfl ?_
    obtain ⟨x6_31, hx_32⟩ : ∃ y : Int32, y = x6 + 1 := ⟨_, rfl⟩
    replace h := h x6_31 hx_32
    refine f_iinc C (j := 5) (v := x6_31) (lv2 := [(6, .int x6_31), (0, .ref (B + 101)), (1, .int x1), (2, .int x2), (3, .long x3), (5, .int x5)]) dX12_mean_147 rfl hx_32.symm (by decide) rfl rfl ?_
    refine f_goto C (t := 125) dX12_mean_150 (by decide) ?_
    refine f_lv C (lv2 := [(0, .ref (B + 101)), (1, .int x1), (2, .int x2), (3, .long x3), (5, .int x5), (6, .int x6_31)]) [1, 2, 3, 4, 5, 0] rfl ?_
    exact hK125 _ _ h
def w_X12_mean_93 (K93 : Int64 × Int32 × Sto → Prop) (x1 : Int32) (x2 : Int32) (x3 : Int64) (x5 : Int32) (σ : Sto) (P : Int32 → Sto → Prop) : Prop :=
  (if x2 ≤ x5 then w_X12_fraction x3 x2.toInt64 σ (fun r_14 σ_13 => (r_14 = 0 ∨ r_14 = 1) ∧ P r_14 σ_13) else w_X12_runsCenturies (x1 + x5) σ (fun σ_16 => w_X12_now σ_16 (fun r_19 σ_18 => w_X12_doneBy r_19 σ_18 (fun r_21 σ_20 => w_X12_sizeOf r_21 σ_20 (fun r_23 σ_22 => ∀ x3_24 : Int64, x3_24 = x3 + r_23.toInt64 → Lp (fun (K : Int32 × Sto → Prop) s => w_X12_mean_125 K93 K x1 x2 x3_24 x5 s.1 s.2 P) (0, σ_22))))))
theorem s_X12_mean_93 {B : Nat} {E : Nat → List (Nat × Value) → List Value → Sto → Prop} {P : Int32 → Sto → Prop} (C : Cy B E RX12 cX12_mean 7 (some .boolean) 43 1007 (Zm (QFi P))) (x1 : Int32) (x2 : Int32) (x3 : Int64) (x5 : Int32) (K93 : Int64 × Int32 × Sto → Prop) (hK93 : ∀ (x3 : Int64) (x5 : Int32) (σ : Sto), K93 (x3, x5, σ) → E 93 [(0, .ref (B + 101)), (1, .int x1), (2, .int x2), (3, .long x3), (5, .int x5)] [] σ) (σ : Sto) (h : w_X12_mean_93 K93 x1 x2 x3 x5 σ P) : E 93 [(0, .ref (B + 101)), (1, .int x1), (2, .int x2), (3, .long x3), (5, .int x5)] [] σ := by
  unfold w_X12_mean_93 at h
  refine f_iload C (j := 4) dX12_mean_93 rfl rfl ?_
  refine f_iload_n C (j := 2) dX12_mean_95 rfl rfl rfl ?_
  refine f_icmp_ge C (t := 159) dX12_mean_96 (by decide) rfl (fun hq_12 => ?_) (fun hq_12 => ?_)
  · replace h := Eq.mp (if_pos hq_12) h
    refine f_aload_n C (j := 0) dX12_mean_159 rfl rfl rfl ?_
    refine f_lload_n C (j := 3) dX12_mean_160 rfl rfl rfl ?_
    refine f_iload_n C (j := 2) dX12_mean_161 rfl rfl rfl ?_
    refine f_i2l C dX12_mean_162 rfl ?_
    refine f_callVi C (a := 101) (ci := 12) (As := fun B => [.long x3, .long x2.toInt64]) o101 rfl (c_X12_fraction  _ _ _ _ h) tM_X12_458 tI_X12_fraction tS_X12_fraction tN_X12 tC_X12_fraction 2 dd_X12_fraction rfl (by decide) (by decide) rfl (Nat.le_of_ble_eq_true rfl) dX12_mean_163 rfl (fun r_14 σ_13 h => ?_)
    obtain ⟨hb_15, h⟩ := h
    exact f_zret C hb_15 dX12_mean_166 h
  · replace h := Eq.mp (if_neg hq_12) h
    refine f_aload_n C (j := 0) dX12_mean_99 rfl rfl rfl ?_
    refine f_iload_n C (j := 1) dX12_mean_100 rfl rfl rfl ?_
    refine f_iload C (j := 4) dX12_mean_101 rfl rfl ?_
    refine f_iadd C dX12_mean_103 rfl ?_
    refine f_callVv C (a := 101) (ci := 12) (As := fun B => [.int (x1 + x5)]) o101 rfl (c_X12_runsCenturies  _ _ _ h) tM_X12_510 tI_X12_runsCenturies tS_X12_runsCenturies tN_X12 tC_X12_runsCenturies 1 dd_X12_runsCenturies rfl (by decide) (by decide) rfl (Nat.le_of_ble_eq_true rfl) dX12_mean_104 rfl (fun σ_16 h => ?_)
    refine f_lload_n C (j := 3) dX12_mean_107 rfl rfl rfl ?_
    refine f_aload_n C (j := 0) dX12_mean_108 rfl rfl rfl ?_
    refine f_aload_n C (j := 0) dX12_mean_109 rfl rfl rfl ?_
    refine f_callVi C (a := 101) (ci := 12) (As := fun B => []) o101 rfl (c_X12_now   _ _ h) tM_X12_330 tI_X12_now tS_X12_now tN_X12 tC_X12_now 0 dd_X12_now rfl (by decide) (by decide) rfl (Nat.le_of_ble_eq_true rfl) dX12_mean_110 rfl (fun r_19 σ_18 h => ?_)
    refine f_callVi C (a := 101) (ci := 12) (As := fun B => [.int r_19]) o101 rfl (c_X12_doneBy  _ _ _ h) tM_X12_333 tI_X12_doneBy tS_X12_doneBy tN_X12 tC_X12_doneBy 1 dd_X12_doneBy rfl (by decide) (by decide) rfl (Nat.le_of_ble_eq_true rfl) dX12_mean_113 rfl (fun r_21 σ_20 h => ?_)
    refine f_callSi C (As := fun B => [.int r_21]) (c_X12_sizeOf  _ _ _ h) tM_X12_397 tT_X12_sizeOf tN_X12 tC_X12_sizeOf 1 dd_X12_sizeOf rfl (by decide) (by decide) rfl (Nat.le_of_ble_eq_true rfl) dX12_mean_116 rfl (fun r_23 σ_22 h => ?_)
    refine f_i2l C dX12_mean_119 rfl ?_
    refine f_ladd C dX12_mean_120 rfl ?_
    refine f_namel (fun x3_24 hx_25 => ?_)
    replace h := h x3_24 hx_25
    refine f_lstore_n C (lv2 := [(3, .long x3_24), (0, .ref (B + 101)), (1, .int x1), (2, .int x2), (5, .int x5)]) dX12_mean_121 rfl (by decide) rfl rfl ?_
    refine f_iconst C (v := 0) dX12_mean_122 kc0 rfl ?_
    refine f_istore C (lv2 := [(6, .int 0), (3, .long x3_24), (0, .ref (B + 101)), (1, .int x1), (2, .int x2), (5, .int x5)]) dX12_mean_123 (by decide) rfl rfl ?_
    refine f_lv C (lv2 := [(0, .ref (B + 101)), (1, .int x1), (2, .int x2), (3, .long x3_24), (5, .int x5), (6, .int 0)]) [2, 3, 4, 1, 5, 0] rfl ?_
    exact Lp_sound (fun s : Int32 × Sto => E 125 [(0, .ref (B + 101)), (1, .int x1), (2, .int x2), (3, .long x3_24), (5, .int x5), (6, .int s.1)] [] s.2) h (fun K s hK h => s_X12_mean_125 C x1 x2 x3_24 x5 s.1 K93 K hK93 (fun x6 σ hk => hK (x6, σ) hk) s.2 h)
def w_X12_mean_63 (K63 : Int32 × Sto → Prop) (x1 : Int32) (x2 : Int32) (x3 : Int32) (σ : Sto) (P : Int32 → Sto → Prop) : Prop :=
  (if 142 ≤ x3 then Lp (fun (K : Int64 × Int32 × Sto → Prop) s => w_X12_mean_93 K x1 x2 s.1 s.2.1 s.2.2 P) (0, 0, σ) else vp_in x3 2105 ∧ vp_in x3 142 ∧ ∀ x3_35 : Int32, x3_35 = x3 + 1 → K63 (x3_35, si σ 107 (tn x3) (gi σ 106 (tn x3))))
theorem s_X12_mean_63 {B : Nat} {E : Nat → List (Nat × Value) → List Value → Sto → Prop} {P : Int32 → Sto → Prop} (C : Cy B E RX12 cX12_mean 7 (some .boolean) 43 1007 (Zm (QFi P))) (x1 : Int32) (x2 : Int32) (x3 : Int32) (K63 : Int32 × Sto → Prop) (hK63 : ∀ (x3 : Int32) (σ : Sto), K63 (x3, σ) → E 63 [(0, .ref (B + 101)), (1, .int x1), (2, .int x2), (3, .int x3)] [] σ) (σ : Sto) (h : w_X12_mean_63 K63 x1 x2 x3 σ P) : E 63 [(0, .ref (B + 101)), (1, .int x1), (2, .int x2), (3, .int x3)] [] σ := by
  unfold w_X12_mean_63 at h
  refine f_iload_n C (j := 3) dX12_mean_63 rfl rfl rfl ?_
  refine f_sipush C (v := 142) dX12_mean_64 ks142 rfl ?_
  refine f_icmp_ge C (t := 88) dX12_mean_67 (by decide) rfl (fun hq_11 => ?_) (fun hq_11 => ?_)
  · replace h := Eq.mp (if_pos hq_11) h
    refine f_lconst C (v := 0) dX12_mean_88 (by decide) rfl ?_
    refine f_lstore_n C (lv2 := [(3, .long 0), (0, .ref (B + 101)), (1, .int x1), (2, .int x2)]) dX12_mean_89 rfl (by decide) rfl rfl ?_
    refine f_iconst C (v := 0) dX12_mean_90 kc0 rfl ?_
    refine f_istore C (lv2 := [(5, .int 0), (3, .long 0), (0, .ref (B + 101)), (1, .int x1), (2, .int x2)]) dX12_mean_91 (by decide) rfl rfl ?_
    refine f_lv C (lv2 := [(0, .ref (B + 101)), (1, .int x1), (2, .int x2), (3, .long 0), (5, .int 0)]) [2, 3, 4, 1, 0] rfl ?_
    exact Lp_sound (fun s : Int64 × Int32 × Sto => E 93 [(0, .ref (B + 101)), (1, .int x1), (2, .int x2), (3, .long s.1), (5, .int s.2.1)] [] s.2.2) h (fun K s hK h => s_X12_mean_93 C x1 x2 s.1 s.2.1 K (fun x3 x5 σ hk => hK (x3, x5, σ) hk) s.2.2 h)
  · replace h := Eq.mp (if_neg hq_11) h
    refine f_aload_n C (j := 0) dX12_mean_70 rfl rfl rfl ?_
    refine f_getc C tF_X12_38 rfl o101 cs101_21 (by decide) dX12_mean_71 rfl ?_
    refine f_iload_n C (j := 3) dX12_mean_74 rfl rfl rfl ?_
    refine f_aload_n C (j := 0) dX12_mean_75 rfl rfl rfl ?_
    refine f_getc C tF_X12_35 rfl o101 cs101_20 (by decide) dX12_mean_76 rfl ?_
    refine f_iload_n C (j := 3) dX12_mean_79 rfl rfl rfl ?_
    obtain ⟨hi_33, h⟩ := h
    refine f_iald C (j := tn x3) a106 hi_33 rfl dX12_mean_80 rfl ?_
    obtain ⟨hi_34, h⟩ := h
    refine f_iast C (j := tn x3) a107 hi_34 rfl dX12_mean_81 rfl ?_
    obtain ⟨x3_35, hx_36⟩ : ∃ y : Int32, y = x3 + 1 := ⟨_, rfl⟩
    replace h := h x3_35 hx_36
    refine f_iinc C (j := 3) (v := x3_35) (lv2 := [(3, .int x3_35), (0, .ref (B + 101)), (1, .int x1), (2, .int x2)]) dX12_mean_82 rfl hx_36.symm (by decide) rfl rfl ?_
    refine f_goto C (t := 63) dX12_mean_85 (by decide) ?_
    refine f_lv C (lv2 := [(0, .ref (B + 101)), (1, .int x1), (2, .int x2), (3, .int x3_35)]) [1, 2, 3, 0] rfl ?_
    exact hK63 _ _ h
def w_X12_mean (x1 : Int32) (x2 : Int32) (σ : Sto) (P : Int32 → Sto → Prop) : Prop :=
  w_X12_isIn x2.toInt64 1 20 (si (si σ 101 1 0) 101 0 0) (fun r_2 σ_1 => (if r_2 = 0 then w_X12_mean_37 σ_1 P else w_X12_isIn x1.toInt64 0 ((10000 - x2).toInt64) σ_1 (fun r_8 σ_7 => (if r_8 = 0 then w_X12_mean_37 σ_7 P else (if (gi σ_7 106 142) = 0 then w_X12_no 8 σ_7 (fun r_38 σ_37 => (r_38 = 0 ∨ r_38 = 1) ∧ P r_38 σ_37) else Lp (fun (K : Int32 × Sto → Prop) s => w_X12_mean_63 K x1 x2 s.1 s.2 P) (0, σ_7))))))
theorem s_X12_mean {B : Nat} {E : Nat → List (Nat × Value) → List Value → Sto → Prop} {P : Int32 → Sto → Prop} (C : Cy B E RX12 cX12_mean 7 (some .boolean) 43 1007 (Zm (QFi P))) (x1 : Int32) (x2 : Int32) (σ : Sto) (h : w_X12_mean x1 x2 σ P) : E 0 [(0, .ref (B + 101)), (1, .int x1), (2, .int x2)] [] σ := by
  unfold w_X12_mean at h
  refine f_aload_n C (j := 0) dX12_mean_0 rfl rfl rfl ?_
  refine f_iconst C (v := 0) dX12_mean_1 kc0 rfl ?_
  refine f_puti C tF_X12_74 fm_12_1 rfl o101 dX12_mean_2 rfl ?_
  refine f_aload_n C (j := 0) dX12_mean_5 rfl rfl rfl ?_
  refine f_iconst C (v := 0) dX12_mean_6 kc0 rfl ?_
  refine f_puti C tF_X12_77 fm_12_0 rfl o101 dX12_mean_7 rfl ?_
  refine f_iload_n C (j := 2) dX12_mean_10 rfl rfl rfl ?_
  refine f_i2l C dX12_mean_11 rfl ?_
  refine f_lconst C (v := 1) dX12_mean_12 (by decide) rfl ?_
  refine f_ldc2_w C tL_X12_516 dX12_mean_13 rfl ?_
  refine f_callSi C (As := fun B => [.long x2.toInt64, .long 1, .long 20]) (c_X12_isIn  _ _ _ _ _ h) tM_X12_109 tT_X12_isIn tN_X12 tC_X12_isIn 3 dd_X12_isIn rfl (by decide) (by decide) rfl (Nat.le_of_ble_eq_true rfl) dX12_mean_16 rfl (fun r_2 σ_1 h => ?_)
  refine f_if_eq C (t := 37) dX12_mean_19 (by decide) rfl (fun hq_3 => ?_) (fun hq_3 => ?_)
  · replace h := Eq.mp (if_pos hq_3) h
    refine f_lv C (lv2 := [(0, .ref (B + 101))]) [0] rfl ?_
    exact s_X12_mean_37 C  _ h
  · replace h := Eq.mp (if_neg hq_3) h
    refine f_iload_n C (j := 1) dX12_mean_22 rfl rfl rfl ?_
    refine f_i2l C dX12_mean_23 rfl ?_
    refine f_lconst C (v := 0) dX12_mean_24 (by decide) rfl ?_
    refine f_sipush C (v := 10000) dX12_mean_25 ks10000 rfl ?_
    refine f_iload_n C (j := 2) dX12_mean_28 rfl rfl rfl ?_
    refine f_isub C dX12_mean_29 rfl ?_
    refine f_i2l C dX12_mean_30 rfl ?_
    refine f_callSi C (As := fun B => [.long x1.toInt64, .long 0, .long ((10000 - x2).toInt64)]) (c_X12_isIn  _ _ _ _ _ h) tM_X12_109 tT_X12_isIn tN_X12 tC_X12_isIn 3 dd_X12_isIn rfl (by decide) (by decide) rfl (Nat.le_of_ble_eq_true rfl) dX12_mean_31 rfl (fun r_8 σ_7 h => ?_)
    refine f_if_ne C (t := 43) dX12_mean_34 (by decide) rfl (fun hq_9 => ?_) (fun hq_9 => ?_)
    · replace h := Eq.mp (if_neg hq_9) h
      refine f_aload_n C (j := 0) dX12_mean_43 rfl rfl rfl ?_
      refine f_getc C tF_X12_35 rfl o101 cs101_20 (by decide) dX12_mean_44 rfl ?_
      refine f_sipush C (v := 142) dX12_mean_47 ks142 rfl ?_
      refine f_iald C (j := 142) a106 (vp_lit (by decide)) rfl dX12_mean_50 rfl ?_
      refine f_if_ne C (t := 61) dX12_mean_51 (by decide) rfl (fun hq_10 => ?_) (fun hq_10 => ?_)
      · replace h := Eq.mp (if_neg hq_10) h
        refine f_iconst C (v := 0) dX12_mean_61 kc0 rfl ?_
        refine f_istore_n C (lv2 := [(3, .int 0), (0, .ref (B + 101)), (1, .int x1), (2, .int x2)]) dX12_mean_62 rfl (by decide) rfl rfl ?_
        refine f_lv C (lv2 := [(0, .ref (B + 101)), (1, .int x1), (2, .int x2), (3, .int 0)]) [1, 2, 3, 0] rfl ?_
        exact Lp_sound (fun s : Int32 × Sto => E 63 [(0, .ref (B + 101)), (1, .int x1), (2, .int x2), (3, .int s.1)] [] s.2) h (fun K s hK h => s_X12_mean_63 C x1 x2 s.1 K (fun x3 σ hk => hK (x3, σ) hk) s.2 h)
      · replace h := Eq.mp (if_pos hq_10) h
        refine f_aload_n C (j := 0) dX12_mean_54 rfl rfl rfl ?_
        refine f_bipush C (v := 8) dX12_mean_55 kb8 rfl ?_
        refine f_callVi C (a := 101) (ci := 12) (As := fun B => [.int 8]) o101 rfl (c_X12_no  _ _ _ h) tM_X12_89 tI_X12_no tS_X12_no tN_X12 tC_X12_no 1 dd_X12_no rfl (by decide) (by decide) rfl (Nat.le_of_ble_eq_true rfl) dX12_mean_57 rfl (fun r_38 σ_37 h => ?_)
        obtain ⟨hb_39, h⟩ := h
        exact f_zret C hb_39 dX12_mean_60 h
    · replace h := Eq.mp (if_pos hq_9) h
      refine f_lv C (lv2 := [(0, .ref (B + 101))]) [0] rfl ?_
      exact s_X12_mean_37 C  _ h
theorem c_X12_mean (x1 : Int32) (x2 : Int32) (σ : Sto) (P : Int32 → Sto → Prop) (h : w_X12_mean x1 x2 σ P) : Ct yX12_mean cX12_mean 7 (some .boolean) 43 1007 (fun B => [.ref (B + 101), .int x1, .int x2]) σ (QFi P) := Ct.of (by decide) (fun _ => Nat.le_of_ble_eq_true rfl) (fun B E C => s_X12_mean C x1 x2 σ h)
def w_X12_mark (σ : Sto) (P : Int32 → Sto → Prop) : Prop :=
  ∀ σ_1 : Sto, σ_1 = si (si σ 101 1 0) 101 0 0 → (if (gi σ_1 101 23) = 3 then w_X12_refuse 7 σ_1 (fun r_9 σ_8 => P r_9 σ_8) else ∀ σ_4 : Sto, σ_4 = si σ_1 101 23 ((gi σ_1 101 23) + 1) → w_X12_copy 0 (gi σ_4 101 23) σ_4 (fun σ_6 => P (gi σ_6 101 23) σ_6))
theorem s_X12_mark {B : Nat} {E : Nat → List (Nat × Value) → List Value → Sto → Prop} {P : Int32 → Sto → Prop} (C : Cy B E RX12 cX12_mark 1 (some .int) 1 23 (Zm (QFi P))) (σ : Sto) (h : w_X12_mark σ P) : E 0 [(0, .ref (B + 101))] [] σ := by
  unfold w_X12_mark at h
  refine f_aload_n C (j := 0) dX12_mark_0 rfl rfl rfl ?_
  refine f_iconst C (v := 0) dX12_mark_1 kc0 rfl ?_
  refine f_puti C tF_X12_74 fm_12_1 rfl o101 dX12_mark_2 rfl ?_
  refine f_aload_n C (j := 0) dX12_mark_5 rfl rfl rfl ?_
  refine f_iconst C (v := 0) dX12_mark_6 kc0 rfl ?_
  refine f_puti C tF_X12_77 fm_12_0 rfl o101 dX12_mark_7 rfl ?_
  refine f_aload_n C (j := 0) dX12_mark_10 rfl rfl rfl ?_
  refine f_names (fun σ_1 hσ_2 => ?_)
  replace h := h σ_1 hσ_2
  refine f_geti C tF_X12_518 rfl o101 dX12_mark_11 rfl ?_
  refine f_iconst C (v := 3) dX12_mark_14 kc3 rfl ?_
  refine f_icmp_ne C (t := 25) dX12_mark_15 (by decide) rfl (fun hq_3 => ?_) (fun hq_3 => ?_)
  · replace h := Eq.mp (if_neg hq_3) h
    refine f_aload_n C (j := 0) dX12_mark_25 rfl rfl rfl ?_
    refine f_dup C dX12_mark_26 rfl rfl ?_
    refine f_geti C tF_X12_518 rfl o101 dX12_mark_27 rfl ?_
    refine f_iconst C (v := 1) dX12_mark_30 kc1 rfl ?_
    refine f_iadd C dX12_mark_31 rfl ?_
    refine f_puti C tF_X12_518 fm_12_23 rfl o101 dX12_mark_32 rfl ?_
    refine f_aload_n C (j := 0) dX12_mark_35 rfl rfl rfl ?_
    refine f_iconst C (v := 0) dX12_mark_36 kc0 rfl ?_
    refine f_aload_n C (j := 0) dX12_mark_37 rfl rfl rfl ?_
    refine f_names (fun σ_4 hσ_5 => ?_)
    replace h := h σ_4 hσ_5
    refine f_geti C tF_X12_518 rfl o101 dX12_mark_38 rfl ?_
    refine f_callVv C (a := 101) (ci := 12) (As := fun B => [.int 0, .int (gi σ_4 101 23)]) o101 rfl (c_X12_copy  _ _ _ _ h) tM_X12_298 tI_X12_copy tS_X12_copy tN_X12 tC_X12_copy 2 dd_X12_copy rfl (by decide) (by decide) rfl (Nat.le_of_ble_eq_true rfl) dX12_mark_41 rfl (fun σ_6 h => ?_)
    refine f_aload_n C (j := 0) dX12_mark_44 rfl rfl rfl ?_
    refine f_geti C tF_X12_518 rfl o101 dX12_mark_45 rfl ?_
    exact f_iret C dX12_mark_48 h
  · replace h := Eq.mp (if_pos hq_3) h
    refine f_aload_n C (j := 0) dX12_mark_18 rfl rfl rfl ?_
    refine f_bipush C (v := 7) dX12_mark_19 kb7 rfl ?_
    refine f_callVi C (a := 101) (ci := 12) (As := fun B => [.int 7]) o101 rfl (c_X12_refuse  _ _ _ h) tM_X12_327 tI_X12_refuse tS_X12_refuse tN_X12 tC_X12_refuse 1 dd_X12_refuse rfl (by decide) (by decide) rfl (Nat.le_of_ble_eq_true rfl) dX12_mark_21 rfl (fun r_9 σ_8 h => ?_)
    exact f_iret C dX12_mark_24 h
theorem c_X12_mark (σ : Sto) (P : Int32 → Sto → Prop) (h : w_X12_mark σ P) : Ct yX12_mark cX12_mark 1 (some .int) 1 23 (fun B => [.ref (B + 101)]) σ (QFi P) := Ct.of (by decide) (fun _ => Nat.le_of_ble_eq_true rfl) (fun B E C => s_X12_mark C σ h)
def w_X12_back (σ : Sto) (P : Int32 → Sto → Prop) : Prop :=
  ∀ σ_1 : Sto, σ_1 = si (si σ 101 1 0) 101 0 0 → (if (gi σ_1 101 23) = 0 then w_X12_refuse 8 σ_1 (fun r_9 σ_8 => P r_9 σ_8) else w_X12_copy (gi σ_1 101 23) 0 σ_1 (fun σ_4 => ∀ σ_6 : Sto, σ_6 = si σ_4 101 23 ((gi σ_4 101 23) - 1) → P (gi σ_6 101 23) σ_6))
theorem s_X12_back {B : Nat} {E : Nat → List (Nat × Value) → List Value → Sto → Prop} {P : Int32 → Sto → Prop} (C : Cy B E RX12 cX12_back 1 (some .int) 1 23 (Zm (QFi P))) (σ : Sto) (h : w_X12_back σ P) : E 0 [(0, .ref (B + 101))] [] σ := by
  unfold w_X12_back at h
  refine f_aload_n C (j := 0) dX12_back_0 rfl rfl rfl ?_
  refine f_iconst C (v := 0) dX12_back_1 kc0 rfl ?_
  refine f_puti C tF_X12_74 fm_12_1 rfl o101 dX12_back_2 rfl ?_
  refine f_aload_n C (j := 0) dX12_back_5 rfl rfl rfl ?_
  refine f_iconst C (v := 0) dX12_back_6 kc0 rfl ?_
  refine f_puti C tF_X12_77 fm_12_0 rfl o101 dX12_back_7 rfl ?_
  refine f_aload_n C (j := 0) dX12_back_10 rfl rfl rfl ?_
  refine f_names (fun σ_1 hσ_2 => ?_)
  replace h := h σ_1 hσ_2
  refine f_geti C tF_X12_518 rfl o101 dX12_back_11 rfl ?_
  refine f_if_ne C (t := 24) dX12_back_14 (by decide) rfl (fun hq_3 => ?_) (fun hq_3 => ?_)
  · replace h := Eq.mp (if_neg hq_3) h
    refine f_aload_n C (j := 0) dX12_back_24 rfl rfl rfl ?_
    refine f_aload_n C (j := 0) dX12_back_25 rfl rfl rfl ?_
    refine f_geti C tF_X12_518 rfl o101 dX12_back_26 rfl ?_
    refine f_iconst C (v := 0) dX12_back_29 kc0 rfl ?_
    refine f_callVv C (a := 101) (ci := 12) (As := fun B => [.int (gi σ_1 101 23), .int 0]) o101 rfl (c_X12_copy  _ _ _ _ h) tM_X12_298 tI_X12_copy tS_X12_copy tN_X12 tC_X12_copy 2 dd_X12_copy rfl (by decide) (by decide) rfl (Nat.le_of_ble_eq_true rfl) dX12_back_30 rfl (fun σ_4 h => ?_)
    refine f_aload_n C (j := 0) dX12_back_33 rfl rfl rfl ?_
    refine f_dup C dX12_back_34 rfl rfl ?_
    refine f_geti C tF_X12_518 rfl o101 dX12_back_35 rfl ?_
    refine f_iconst C (v := 1) dX12_back_38 kc1 rfl ?_
    refine f_isub C dX12_back_39 rfl ?_
    refine f_puti C tF_X12_518 fm_12_23 rfl o101 dX12_back_40 rfl ?_
    refine f_aload_n C (j := 0) dX12_back_43 rfl rfl rfl ?_
    refine f_names (fun σ_6 hσ_7 => ?_)
    replace h := h σ_6 hσ_7
    refine f_geti C tF_X12_518 rfl o101 dX12_back_44 rfl ?_
    exact f_iret C dX12_back_47 h
  · replace h := Eq.mp (if_pos hq_3) h
    refine f_aload_n C (j := 0) dX12_back_17 rfl rfl rfl ?_
    refine f_bipush C (v := 8) dX12_back_18 kb8 rfl ?_
    refine f_callVi C (a := 101) (ci := 12) (As := fun B => [.int 8]) o101 rfl (c_X12_refuse  _ _ _ h) tM_X12_327 tI_X12_refuse tS_X12_refuse tN_X12 tC_X12_refuse 1 dd_X12_refuse rfl (by decide) (by decide) rfl (Nat.le_of_ble_eq_true rfl) dX12_back_20 rfl (fun r_9 σ_8 h => ?_)
    exact f_iret C dX12_back_23 h
theorem c_X12_back (σ : Sto) (P : Int32 → Sto → Prop) (h : w_X12_back σ P) : Ct yX12_back cX12_back 1 (some .int) 1 23 (fun B => [.ref (B + 101)]) σ (QFi P) := Ct.of (by decide) (fun _ => Nat.le_of_ble_eq_true rfl) (fun B E C => s_X12_back C σ h)
