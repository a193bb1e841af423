def w_X3_isSo_106 (a1 : Nat) (x2 : Int32) (z0 : Int32) (σ : Sto) (P : Int32 → Sto → Prop) : Prop :=
  isStory a1 ∧ vp_in x2 60 ∧ ∀ x6_13 : Int32, x6_13 = gi σ (a1 + 4) (tn x2) → ∀ sw_15 : Int32, sw_15 = gi σ (a1 + 3) (tn x2) → (if sw_15 = 60 then (if x6_13 ≤ z0 then P 0 σ else P 1 σ) else (if sw_15 = 62 then (if z0 ≤ x6_13 then P 0 σ else P 1 σ) else (if z0 = x6_13 then P 1 σ else P 0 σ)))
theorem s_X3_isSo_106 {B : Nat} {E : Nat → List (Nat × Value) → List Value → Sto → Prop} {P : Int32 → Sto → Prop} (C : Cy B E RX3 cX3_isSo 7 (some .boolean) 3 69 (Zm (QFi P))) (a1 : Nat) (x2 : Int32) (z0 : Int32) (σ : Sto) (h : w_X3_isSo_106 a1 x2 z0 σ P) : E 106 [(0, .ref (B + 97)), (1, .ref (B + a1)), (2, .int x2)] [.int z0] σ := by
  unfold w_X3_isSo_106 at h
  refine f_istore C (lv2 := [(5, .int z0), (0, .ref (B + 97)), (1, .ref (B + a1)), (2, .int x2)]) dX3_isSo_106 (by decide) rfl rfl ?_
  refine f_aload_n C (j := 2) dX3_isSo_108 rfl rfl rfl ?_
  obtain ⟨hs_11, h⟩ := h
  refine f_getc C tF_X3_68 rfl hs_11.o hs_11.c3 (Nat.succ_ne_zero _) dX3_isSo_109 rfl ?_
  refine f_iload_n C (j := 3) dX3_isSo_112 rfl rfl rfl ?_
  obtain ⟨hi_12, h⟩ := h
  refine f_iald C (j := tn x2) hs_11.a3 hi_12 rfl dX3_isSo_113 rfl ?_
  refine f_name (fun x6_13 hx_14 => ?_)
  replace h := h x6_13 hx_14
  refine f_istore C (lv2 := [(6, .int x6_13), (5, .int z0), (0, .ref (B + 97)), (1, .ref (B + a1)), (2, .int x2)]) dX3_isSo_114 (by decide) rfl rfl ?_
  refine f_aload_n C (j := 3) dX3_isSo_116 rfl rfl rfl ?_
  refine f_getc C tF_X3_131 rfl hs_11.o hs_11.c2 (Nat.succ_ne_zero _) dX3_isSo_117 rfl ?_
  refine f_iload_n C (j := 4) dX3_isSo_120 rfl rfl rfl ?_
  refine f_iald C (j := tn x2) hs_11.a2 hi_12 rfl dX3_isSo_121 rfl ?_
  refine f_name (fun sw_15 hsw_15 => ?_)
  replace h := h sw_15 hsw_15
  by_cases hq_17 : sw_15 = 60
  · replace h := Eq.mp (if_pos hq_17) h
    refine f_lookup C (off := 26) (t := 148) dX3_isSo_122 (by decide) (by rw [hq_17]; decide) (by decide) ?_
    refine f_iload C (j := 1) dX3_isSo_148 rfl rfl ?_
    refine f_iload C (j := 0) dX3_isSo_150 rfl rfl ?_
    refine f_icmp_ge C (t := 159) dX3_isSo_152 (by decide) rfl (fun hq_16 => ?_) (fun hq_16 => ?_)
    · replace h := Eq.mp (if_pos hq_16) h
      refine f_iconst C (v := 0) dX3_isSo_159 kc0 rfl ?_
      exact f_zret C (Or.inl rfl) dX3_isSo_160 h
    · replace h := Eq.mp (if_neg hq_16) h
      refine f_iconst C (v := 1) dX3_isSo_155 kc1 rfl ?_
      refine f_goto C (t := 160) dX3_isSo_156 (by decide) ?_
      exact f_zret C (Or.inr rfl) dX3_isSo_160 h
  replace h := Eq.mp (if_neg hq_17) h
  by_cases hq_19 : sw_15 = 62
  · replace h := Eq.mp (if_pos hq_19) h
    refine f_lookup C (off := 39) (t := 161) dX3_isSo_122 (by decide) (by rw [hq_19]; decide) (by decide) ?_
    refine f_iload C (j := 1) dX3_isSo_161 rfl rfl ?_
    refine f_iload C (j := 0) dX3_isSo_163 rfl rfl ?_
    refine f_icmp_le C (t := 172) dX3_isSo_165 (by decide) rfl (fun hq_18 => ?_) (fun hq_18 => ?_)
    · replace h := Eq.mp (if_pos hq_18) h
      refine f_iconst C (v := 0) dX3_isSo_172 kc0 rfl ?_
      exact f_zret C (Or.inl rfl) dX3_isSo_173 h
    · replace h := Eq.mp (if_neg hq_18) h
      refine f_iconst C (v := 1) dX3_isSo_168 kc1 rfl ?_
      refine f_goto C (t := 173) dX3_isSo_169 (by decide) ?_
      exact f_zret C (Or.inr rfl) dX3_isSo_173 h
  replace h := Eq.mp (if_neg hq_19) h
  refine f_lookup C (off := 52) (t := 174) dX3_isSo_122 (by decide) (by simp [Op.lookupswitch.offset, toInt_ne (x := sw_15) (y := 60) (z := 60) (by decide) hq_17, toInt_ne (x := sw_15) (y := 62) (z := 62) (by decide) hq_19, Ne.symm (toInt_ne (x := sw_15) (y := 60) (z := 60) (by decide) hq_17), Ne.symm (toInt_ne (x := sw_15) (y := 62) (z := 62) (by decide) hq_19)]) (by decide) ?_
  refine f_iload C (j := 1) dX3_isSo_174 rfl rfl ?_
  refine f_iload C (j := 0) dX3_isSo_176 rfl rfl ?_
  refine f_icmp_ne C (t := 185) dX3_isSo_178 (by decide) rfl (fun hq_20 => ?_) (fun hq_20 => ?_)
  · replace h := Eq.mp (if_neg hq_20) h
    refine f_iconst C (v := 0) dX3_isSo_185 kc0 rfl ?_
    exact f_zret C (Or.inl rfl) dX3_isSo_186 h
  · replace h := Eq.mp (if_pos hq_20) h
    refine f_iconst C (v := 1) dX3_isSo_181 kc1 rfl ?_
    refine f_goto C (t := 186) dX3_isSo_182 (by decide) ?_
    exact f_zret C (Or.inr rfl) dX3_isSo_186 h
def w_X3_isSo (a1 : Nat) (x2 : Int32) (σ : Sto) (P : Int32 → Sto → Prop) : Prop :=
  isStory a1 ∧ vp_in x2 60 ∧ ∀ x3_3 : Int32, x3_3 = gi σ (a1 + 2) (tn x2) → w_X6_atPresent σ (fun r_6 σ_5 => (if (gi σ_5 (a1 + 1) (tn x2)) = 7 then (if ((r_6 >>> (x3_3 &&& 31)) &&& 1) = 0 then P 0 σ_5 else P 1 σ_5) else (if (gi σ_5 (a1 + 1) (tn x2)) = 8 then w_X6_doable r_6 σ_5 (fun r_24 σ_23 => (if ((r_24 >>> (x3_3 &&& 31)) &&& 1) = 0 then P 0 σ_23 else P 1 σ_23)) else isCity (gr σ_5 97 4) ∧ (if (((r_6 &&& (~~~(gi σ_5 (gr σ_5 97 4) 15))) >>> (x3_3 &&& 31)) &&& 1) = 0 then w_X3_isSo_106 a1 x2 0 σ_5 P else w_X0_hatredOf x3_3 σ_5 (fun r_22 σ_21 => w_X3_isSo_106 a1 x2 r_22 σ_21 P)))))
theorem s_X3_isSo {B : Nat} {E : Nat → List (Nat × Value) → List Value → Sto → Prop} {P : Int32 → Sto → Prop} (C : Cy B E RX3 cX3_isSo 7 (some .boolean) 3 69 (Zm (QFi P))) (a1 : Nat) (x2 : Int32) (σ : Sto) (h : w_X3_isSo a1 x2 σ P) : E 0 [(0, .ref (B + 97)), (1, .ref (B + a1)), (2, .int x2)] [] σ := by
  unfold w_X3_isSo at h
  refine f_aload_n C (j := 1) dX3_isSo_0 rfl rfl rfl ?_
  obtain ⟨hs_1, h⟩ := h
  refine f_getc C tF_X3_65 rfl hs_1.o hs_1.c1 (Nat.succ_ne_zero _) dX3_isSo_1 rfl ?_
  refine f_iload_n C (j := 2) dX3_isSo_4 rfl rfl rfl ?_
  obtain ⟨hi_2, h⟩ := h
  refine f_iald C (j := tn x2) hs_1.a1 hi_2 rfl dX3_isSo_5 rfl ?_
  refine f_name (fun x3_3 hx_4 => ?_)
  replace h := h x3_3 hx_4
  refine f_istore_n C (lv2 := [(3, .int x3_3), (0, .ref (B + 97)), (1, .ref (B + a1)), (2, .int x2)]) dX3_isSo_6 rfl (by decide) rfl rfl ?_
  refine f_aload_n C (j := 1) dX3_isSo_7 rfl rfl rfl ?_
  refine f_getc C tF_X3_15 rfl o97 cs97_0 (by decide) dX3_isSo_8 rfl ?_
  refine f_callVi C (a := 88) (ci := 6) (As := fun B => []) o88 rfl (c_X6_atPresent   _ _ h) tM_X3_120 tI_X6_atPresent tS_X6_atPresent tN_X6 tC_X6_atPresent 0 dd_X6_atPresent rfl (by decide) (by decide) rfl (Nat.le_of_ble_eq_true rfl) dX3_isSo_11 rfl (fun r_6 σ_5 h => ?_)
  refine f_istore C (lv2 := [(4, .int r_6), (3, .int x3_3), (0, .ref (B + 97)), (1, .ref (B + a1)), (2, .int x2)]) dX3_isSo_14 (by decide) rfl rfl ?_
  refine f_aload_n C (j := 3) dX3_isSo_16 rfl rfl rfl ?_
  refine f_getc C tF_X3_52 rfl hs_1.o hs_1.c0 (Nat.succ_ne_zero _) dX3_isSo_17 rfl ?_
  refine f_iload_n C (j := 4) dX3_isSo_20 rfl rfl rfl ?_
  refine f_iald C (j := tn x2) hs_1.a0 hi_2 rfl dX3_isSo_21 rfl ?_
  refine f_bipush C (v := 7) dX3_isSo_22 kb7 rfl ?_
  refine f_icmp_ne C (t := 42) dX3_isSo_24 (by decide) rfl (fun hq_7 => ?_) (fun hq_7 => ?_)
  · replace h := Eq.mp (if_neg hq_7) h
    refine f_aload_n C (j := 3) dX3_isSo_42 rfl rfl rfl ?_
    refine f_getc C tF_X3_52 rfl hs_1.o hs_1.c0 (Nat.succ_ne_zero _) dX3_isSo_43 rfl ?_
    refine f_iload_n C (j := 4) dX3_isSo_46 rfl rfl rfl ?_
    refine f_iald C (j := tn x2) hs_1.a0 hi_2 rfl dX3_isSo_47 rfl ?_
    refine f_bipush C (v := 8) dX3_isSo_48 kb8 rfl ?_
    refine f_icmp_ne C (t := 75) dX3_isSo_50 (by decide) rfl (fun hq_8 => ?_) (fun hq_8 => ?_)
    · replace h := Eq.mp (if_neg hq_8) h
      refine f_iload C (j := 0) dX3_isSo_75 rfl rfl ?_
      refine f_aload_n C (j := 2) dX3_isSo_77 rfl rfl rfl ?_
      obtain ⟨hc_9, h⟩ := h
      refine f_getm C tF_X3_9 rfl o97 cn97_4 hc_9.z dX3_isSo_78 rfl ?_
      refine f_geti C tF_X3_81 rfl hc_9.o dX3_isSo_81 rfl ?_
      refine f_iconst C (v := (-1)) dX3_isSo_84 kcm1 rfl ?_
      refine f_inot C dX3_isSo_85 rfl ?_
      refine f_iand C dX3_isSo_86 rfl ?_
      refine f_iload_n C (j := 1) dX3_isSo_87 rfl rfl rfl ?_
      refine f_ishr C dX3_isSo_88 rfl ?_
      refine f_iconst C (v := 1) dX3_isSo_89 kc1 rfl ?_
      refine f_iand C dX3_isSo_90 rfl ?_
      refine f_if_eq C (t := 105) dX3_isSo_91 (by decide) rfl (fun hq_10 => ?_) (fun hq_10 => ?_)
      · replace h := Eq.mp (if_pos hq_10) h
        refine f_iconst C (v := 0) dX3_isSo_105 kc0 rfl ?_
        refine f_lv C (lv2 := [(0, .ref (B + 97)), (1, .ref (B + a1)), (2, .int x2)]) [2, 3, 4] rfl ?_
        exact s_X3_isSo_106 C _ _ _  _ h
      · replace h := Eq.mp (if_neg hq_10) h
        refine f_aload_n C (j := 2) dX3_isSo_94 rfl rfl rfl ?_
        refine f_getc C tF_X3_19 rfl o97 cs97_1 (by decide) dX3_isSo_95 rfl ?_
        refine f_iload_n C (j := 1) dX3_isSo_98 rfl rfl rfl ?_
        refine f_callVi C (a := 90) (ci := 0) (As := fun B => [.int x3_3]) o90 rfl (c_X0_hatredOf  _ _ _ h) tM_X3_128 tI_X0_hatredOf tS_X0_hatredOf tN_X0 tC_X0_hatredOf 1 dd_X0_hatredOf rfl (by decide) (by decide) rfl (Nat.le_of_ble_eq_true rfl) dX3_isSo_99 rfl (fun r_22 σ_21 h => ?_)
        refine f_goto C (t := 106) dX3_isSo_102 (by decide) ?_
        refine f_lv C (lv2 := [(0, .ref (B + 97)), (1, .ref (B + a1)), (2, .int x2)]) [2, 3, 4] rfl ?_
        exact s_X3_isSo_106 C _ _ _  _ h
    · replace h := Eq.mp (if_pos hq_8) h
      refine f_aload_n C (j := 2) dX3_isSo_53 rfl rfl rfl ?_
      refine f_getc C tF_X3_15 rfl o97 cs97_0 (by decide) dX3_isSo_54 rfl ?_
      refine f_iload C (j := 0) dX3_isSo_57 rfl rfl ?_
      refine f_callVi C (a := 88) (ci := 6) (As := fun B => [.int r_6]) o88 rfl (c_X6_doable  _ _ _ h) tM_X3_125 tI_X6_doable tS_X6_doable tN_X6 tC_X6_doable 1 dd_X6_doable rfl (by decide) (by decide) rfl (Nat.le_of_ble_eq_true rfl) dX3_isSo_59 rfl (fun r_24 σ_23 h => ?_)
      refine f_iload_n C (j := 1) dX3_isSo_62 rfl rfl rfl ?_
      refine f_ishr C dX3_isSo_63 rfl ?_
      refine f_iconst C (v := 1) dX3_isSo_64 kc1 rfl ?_
      refine f_iand C dX3_isSo_65 rfl ?_
      refine f_if_eq C (t := 73) dX3_isSo_66 (by decide) rfl (fun hq_25 => ?_) (fun hq_25 => ?_)
      · replace h := Eq.mp (if_pos hq_25) h
        refine f_iconst C (v := 0) dX3_isSo_73 kc0 rfl ?_
        exact f_zret C (Or.inl rfl) dX3_isSo_74 h
      · replace h := Eq.mp (if_neg hq_25) h
        refine f_iconst C (v := 1) dX3_isSo_69 kc1 rfl ?_
        refine f_goto C (t := 74) dX3_isSo_70 (by decide) ?_
        exact f_zret C (Or.inr rfl) dX3_isSo_74 h
  · replace h := Eq.mp (if_pos hq_7) h
    refine f_iload C (j := 0) dX3_isSo_27 rfl rfl ?_
    refine f_iload_n C (j := 1) dX3_isSo_29 rfl rfl rfl ?_
    refine f_ishr C dX3_isSo_30 rfl ?_
    refine f_iconst C (v := 1) dX3_isSo_31 kc1 rfl ?_
    refine f_iand C dX3_isSo_32 rfl ?_
    refine f_if_eq C (t := 40) dX3_isSo_33 (by decide) rfl (fun hq_26 => ?_) (fun hq_26 => ?_)
    · replace h := Eq.mp (if_pos hq_26) h
      refine f_iconst C (v := 0) dX3_isSo_40 kc0 rfl ?_
      exact f_zret C (Or.inl rfl) dX3_isSo_41 h
    · replace h := Eq.mp (if_neg hq_26) h
      refine f_iconst C (v := 1) dX3_isSo_36 kc1 rfl ?_
      refine f_goto C (t := 41) dX3_isSo_37 (by decide) ?_
      exact f_zret C (Or.inr rfl) dX3_isSo_41 h
theorem c_X3_isSo (a1 : Nat) (x2 : Int32) (σ : Sto) (P : Int32 → Sto → Prop) (h : w_X3_isSo a1 x2 σ P) : Ct yX3_isSo cX3_isSo 7 (some .boolean) 3 69 (fun B => [.ref (B + 97), .ref (B + a1), .int x2]) σ (QFi P) := Ct.of (by decide) (fun _ => Nat.le_of_ble_eq_true rfl) (fun B E C => s_X3_isSo C a1 x2 σ h)
def w_X3_passYears_75 (K28 : Int32 × Sto → Prop) (x1 : Int32) (x2 : Int32) (x3 : Int32) (z0 : Int32) (σ : Sto) (P : Sto → Prop) : Prop :=
  vp_in z0 5 ∧ ∀ σ_13 : Sto, σ_13 = si σ 98 (tn z0) ((gi σ 98 (tn z0)) + 1) → isCity (gr σ_13 97 4) ∧ ∀ x2_16 : Int32, x2_16 = x2 + 1 → K28 (x2_16, si σ_13 (gr σ_13 97 4) 14 x3)
theorem s_X3_passYears_75 {B : Nat} {E : Nat → List (Nat × Value) → List Value → Sto → Prop} {P : Sto → Prop} (C : Cy B E RX3 cX3_passYears 4 none 3 77 (Zm (QFv P))) (x1 : Int32) (x2 : Int32) (x3 : Int32) (z0 : Int32) (K28 : Int32 × Sto → Prop) (hK28 : ∀ (x2 : Int32) (σ : Sto), K28 (x2, σ) → E 28 [(0, .ref (B + 97)), (1, .int x1), (2, .int x2)] [] σ) (σ : Sto) (h : w_X3_passYears_75 K28 x1 x2 x3 z0 σ P) : E 75 [(0, .ref (B + 97)), (1, .int x1), (2, .int x2), (3, .int x3)] [.int z0, .ref (B + 98)] σ := by
  unfold w_X3_passYears_75 at h
  refine f_dup2 C dX3_passYears_75 rfl rfl rfl ?_
  obtain ⟨hi_12, h⟩ := h
  refine f_iald C (j := tn z0) a98 hi_12 rfl dX3_passYears_76 rfl ?_
  refine f_iconst C (v := 1) dX3_passYears_77 kc1 rfl ?_
  refine f_iadd C dX3_passYears_78 rfl ?_
  refine f_iast C (j := tn z0) a98 hi_12 rfl dX3_passYears_79 rfl ?_
  refine f_aload_n C (j := 0) dX3_passYears_80 rfl rfl rfl ?_
  refine f_names (fun σ_13 hσ_14 => ?_)
  replace h := h σ_13 hσ_14
  obtain ⟨hc_15, h⟩ := h
  refine f_getm C tF_X3_9 rfl o97 cn97_4 hc_15.z dX3_passYears_81 rfl ?_
  refine f_iload_n C (j := 3) dX3_passYears_84 rfl rfl rfl ?_
  refine f_puti C tF_X3_94 fm_1_14 rfl hc_15.o dX3_passYears_85 rfl ?_
  obtain ⟨x2_16, hx_17⟩ : ∃ y : Int32, y = x2 + 1 := ⟨_, rfl⟩
  replace h := h x2_16 hx_17
  refine f_iinc C (j := 2) (v := x2_16) (lv2 := [(2, .int x2_16), (0, .ref (B + 97)), (1, .int x1), (3, .int x3)]) dX3_passYears_88 rfl hx_17.symm (by decide) rfl rfl ?_
  refine f_goto C (t := 28) dX3_passYears_91 (by decide) ?_
  refine f_lv C (lv2 := [(0, .ref (B + 97)), (1, .int x1), (2, .int x2_16)]) [1, 2, 0] rfl ?_
  exact hK28 _ _ h
def w_X3_passYears_28 (K28 : Int32 × Sto → Prop) (x1 : Int32) (x2 : Int32) (σ : Sto) (P : Sto → Prop) : Prop :=
  (if x1 ≤ x2 then isCity (gr σ 97 4) ∧ ∀ σ_5 : Sto, σ_5 = si σ (gr σ 97 4) 13 ((gi σ (gr σ 97 4) 13) + x1) → P (si σ_5 98 1 ((gi σ_5 98 1) + x1)) else isCity (gr σ 97 4) ∧ w_X0_goneNextYear (gi σ (gr σ 97 4) 14) (gi σ (gr σ 97 4) 15) σ (fun r_9 σ_8 => isCity (gr σ_8 97 4) ∧ (if r_9 = (gi σ_8 (gr σ_8 97 4) 14) then w_X3_passYears_75 K28 x1 x2 r_9 0 σ_8 P else w_X3_passYears_75 K28 x1 x2 r_9 2 σ_8 P)))
theorem s_X3_passYears_28 {B : Nat} {E : Nat → List (Nat × Value) → List Value → Sto → Prop} {P : Sto → Prop} (C : Cy B E RX3 cX3_passYears 4 none 3 77 (Zm (QFv P))) (x1 : Int32) (x2 : Int32) (K28 : Int32 × Sto → Prop) (hK28 : ∀ (x2 : Int32) (σ : Sto), K28 (x2, σ) → E 28 [(0, .ref (B + 97)), (1, .int x1), (2, .int x2)] [] σ) (σ : Sto) (h : w_X3_passYears_28 K28 x1 x2 σ P) : E 28 [(0, .ref (B + 97)), (1, .int x1), (2, .int x2)] [] σ := by
  unfold w_X3_passYears_28 at h
  refine f_iload_n C (j := 2) dX3_passYears_28 rfl rfl rfl ?_
  refine f_iload_n C (j := 1) dX3_passYears_29 rfl rfl rfl ?_
  refine f_icmp_ge C (t := 94) dX3_passYears_30 (by decide) rfl (fun hq_3 => ?_) (fun hq_3 => ?_)
  · replace h := Eq.mp (if_pos hq_3) h
    refine f_aload_n C (j := 0) dX3_passYears_94 rfl rfl rfl ?_
    obtain ⟨hc_4, h⟩ := h
    refine f_getm C tF_X3_9 rfl o97 cn97_4 hc_4.z dX3_passYears_95 rfl ?_
    refine f_dup C dX3_passYears_98 rfl rfl ?_
    refine f_geti C tF_X3_91 rfl hc_4.o dX3_passYears_99 rfl ?_
    refine f_iload_n C (j := 1) dX3_passYears_102 rfl rfl rfl ?_
    refine f_iadd C dX3_passYears_103 rfl ?_
    refine f_puti C tF_X3_91 fm_1_13 rfl hc_4.o dX3_passYears_104 rfl ?_
    refine f_aload_n C (j := 0) dX3_passYears_107 rfl rfl rfl ?_
    refine f_getc C tF_X3_23 rfl o97 cs97_2 (by decide) dX3_passYears_108 rfl ?_
    refine f_iconst C (v := 1) dX3_passYears_111 kc1 rfl ?_
    refine f_dup2 C dX3_passYears_112 rfl rfl rfl ?_
    refine f_names (fun σ_5 hσ_6 => ?_)
    replace h := h σ_5 hσ_6
    refine f_iald C (j := 1) a98 (vp_lit (by decide)) rfl dX3_passYears_113 rfl ?_
    refine f_iload_n C (j := 1) dX3_passYears_114 rfl rfl rfl ?_
    refine f_iadd C dX3_passYears_115 rfl ?_
    refine f_iast C (j := 1) a98 (vp_lit (by decide)) rfl dX3_passYears_116 rfl ?_
    exact f_vret C dX3_passYears_117 h
  · replace h := Eq.mp (if_neg hq_3) h
    refine f_aload_n C (j := 0) dX3_passYears_33 rfl rfl rfl ?_
    refine f_getc C tF_X3_19 rfl o97 cs97_1 (by decide) dX3_passYears_34 rfl ?_
    refine f_aload_n C (j := 0) dX3_passYears_37 rfl rfl rfl ?_
    obtain ⟨hc_7, h⟩ := h
    refine f_getm C tF_X3_9 rfl o97 cn97_4 hc_7.z dX3_passYears_38 rfl ?_
    refine f_geti C tF_X3_94 rfl hc_7.o dX3_passYears_41 rfl ?_
    refine f_aload_n C (j := 0) dX3_passYears_44 rfl rfl rfl ?_
    refine f_getm C tF_X3_9 rfl o97 cn97_4 hc_7.z dX3_passYears_45 rfl ?_
    refine f_geti C tF_X3_81 rfl hc_7.o dX3_passYears_48 rfl ?_
    refine f_callVi C (a := 90) (ci := 0) (As := fun B => [.int (gi σ (gr σ 97 4) 14), .int (gi σ (gr σ 97 4) 15)]) o90 rfl (c_X0_goneNextYear  _ _ _ _ h) tM_X3_97 tI_X0_goneNextYear tS_X0_goneNextYear tN_X0 tC_X0_goneNextYear 2 dd_X0_goneNextYear rfl (by decide) (by decide) rfl (Nat.le_of_ble_eq_true rfl) dX3_passYears_51 rfl (fun r_9 σ_8 h => ?_)
    refine f_istore_n C (lv2 := [(3, .int r_9), (0, .ref (B + 97)), (1, .int x1), (2, .int x2)]) dX3_passYears_54 rfl (by decide) rfl rfl ?_
    refine f_aload_n C (j := 1) dX3_passYears_55 rfl rfl rfl ?_
    refine f_getc C tF_X3_23 rfl o97 cs97_2 (by decide) dX3_passYears_56 rfl ?_
    refine f_iload_n C (j := 0) dX3_passYears_59 rfl rfl rfl ?_
    refine f_aload_n C (j := 1) dX3_passYears_60 rfl rfl rfl ?_
    obtain ⟨hc_10, h⟩ := h
    refine f_getm C tF_X3_9 rfl o97 cn97_4 hc_10.z dX3_passYears_61 rfl ?_
    refine f_geti C tF_X3_94 rfl hc_10.o dX3_passYears_64 rfl ?_
    refine f_icmp_ne C (t := 74) dX3_passYears_67 (by decide) rfl (fun hq_11 => ?_) (fun hq_11 => ?_)
    · replace h := Eq.mp (if_neg hq_11) h
      refine f_iconst C (v := 2) dX3_passYears_74 kc2 rfl ?_
      refine f_lv C (lv2 := [(0, .ref (B + 97)), (1, .int x1), (2, .int x2), (3, .int r_9)]) [1, 2, 3, 0] rfl ?_
      exact s_X3_passYears_75 C _ _ _ _  K28 hK28 _ h
    · replace h := Eq.mp (if_pos hq_11) h
      refine f_iconst C (v := 0) dX3_passYears_70 kc0 rfl ?_
      refine f_goto C (t := 75) dX3_passYears_71 (by decide) ?_
      refine f_lv C (lv2 := [(0, .ref (B + 97)), (1, .int x1), (2, .int x2), (3, .int r_9)]) [1, 2, 3, 0] rfl ?_
      exact s_X3_passYears_75 C _ _ _ _  K28 hK28 _ h
def w_X3_passYears (x1 : Int32) (σ : Sto) (P : Sto → Prop) : Prop :=
  isCity (gr σ 97 4) ∧ (if ((gi σ (gr σ 97 4) 13) + x1) ≤ 9999 then Lp (fun (K : Int32 × Sto → Prop) s => w_X3_passYears_28 K x1 s.1 s.2 P) (0, σ) else P (si σ 98 0 ((gi σ 98 0) + 1)))
theorem s_X3_passYears {B : Nat} {E : Nat → List (Nat × Value) → List Value → Sto → Prop} {P : Sto → Prop} (C : Cy B E RX3 cX3_passYears 4 none 3 77 (Zm (QFv P))) (x1 : Int32) (σ : Sto) (h : w_X3_passYears x1 σ P) : E 0 [(0, .ref (B + 97)), (1, .int x1)] [] σ := by
  unfold w_X3_passYears at h
  refine f_aload_n C (j := 0) dX3_passYears_0 rfl rfl rfl ?_
  obtain ⟨hc_1, h⟩ := h
  refine f_getm C tF_X3_9 rfl o97 cn97_4 hc_1.z dX3_passYears_1 rfl ?_
  refine f_geti C tF_X3_91 rfl hc_1.o dX3_passYears_4 rfl ?_
  refine f_iload_n C (j := 1) dX3_passYears_7 rfl rfl rfl ?_
  refine f_iadd C dX3_passYears_8 rfl ?_
  refine f_sipush C (v := 9999) dX3_passYears_9 ks9999 rfl ?_
  refine f_icmp_le C (t := 26) dX3_passYears_12 (by decide) rfl (fun hq_2 => ?_) (fun hq_2 => ?_)
  · replace h := Eq.mp (if_pos hq_2) h
    refine f_iconst C (v := 0) dX3_passYears_26 kc0 rfl ?_
    refine f_istore_n C (lv2 := [(2, .int 0), (0, .ref (B + 97)), (1, .int x1)]) dX3_passYears_27 rfl (by decide) rfl rfl ?_
    refine f_lv C (lv2 := [(0, .ref (B + 97)), (1, .int x1), (2, .int 0)]) [1, 2, 0] rfl ?_
    exact Lp_sound (fun s : Int32 × Sto => E 28 [(0, .ref (B + 97)), (1, .int x1), (2, .int s.1)] [] s.2) h (fun K s hK h => s_X3_passYears_28 C x1 s.1 K (fun x2 σ hk => hK (x2, σ) hk) s.2 h)
  · replace h := Eq.mp (if_neg hq_2) h
    refine f_aload_n C (j := 0) dX3_passYears_15 rfl rfl rfl ?_
    refine f_getc C tF_X3_23 rfl o97 cs97_2 (by decide) dX3_passYears_16 rfl ?_
    refine f_iconst C (v := 0) dX3_passYears_19 kc0 rfl ?_
    refine f_dup2 C dX3_passYears_20 rfl rfl rfl ?_
    refine f_iald C (j := 0) a98 (vp_lit (by decide)) rfl dX3_passYears_21 rfl ?_
    refine f_iconst C (v := 1) dX3_passYears_22 kc1 rfl ?_
    refine f_iadd C dX3_passYears_23 rfl ?_
    refine f_iast C (j := 0) a98 (vp_lit (by decide)) rfl dX3_passYears_24 rfl ?_
    exact f_vret C dX3_passYears_25 h
theorem c_X3_passYears (x1 : Int32) (σ : Sto) (P : Sto → Prop) (h : w_X3_passYears x1 σ P) : Ct yX3_passYears cX3_passYears 4 none 3 77 (fun B => [.ref (B + 97), .int x1]) σ (QFv P) := Ct.of (by decide) (fun _ => Nat.le_of_ble_eq_true rfl) (fun B E C => s_X3_passYears C x1 σ h)
def w_X3_tryUnmaking (x1 : Int32) (σ : Sto) (P : Sto → Prop) : Prop :=
  isCity (gr σ 97 4) ∧ (if ((((gi σ (gr σ 97 4) 14) ||| (gi σ (gr σ 97 4) 15)) >>> (x1 &&& 31)) &&& 1) = 0 then ∀ σ_3 : Sto, σ_3 = si σ (gr σ 97 4) 14 ((gi σ (gr σ 97 4) 14) ||| (1 <<< (x1 &&& 31))) → P (si σ_3 98 2 ((gi σ_3 98 2) + 1)) else P (si σ 98 0 ((gi σ 98 0) + 1)))
theorem s_X3_tryUnmaking {B : Nat} {E : Nat → List (Nat × Value) → List Value → Sto → Prop} {P : Sto → Prop} (C : Cy B E RX3 cX3_tryUnmaking 2 none 0 0 (Zm (QFv P))) (x1 : Int32) (σ : Sto) (h : w_X3_tryUnmaking x1 σ P) : E 0 [(0, .ref (B + 97)), (1, .int x1)] [] σ := by
  unfold w_X3_tryUnmaking at h
  refine f_aload_n C (j := 0) dX3_tryUnmaking_0 rfl rfl rfl ?_
  obtain ⟨hc_1, h⟩ := h
  refine f_getm C tF_X3_9 rfl o97 cn97_4 hc_1.z dX3_tryUnmaking_1 rfl ?_
  refine f_geti C tF_X3_94 rfl hc_1.o dX3_tryUnmaking_4 rfl ?_
  refine f_aload_n C (j := 0) dX3_tryUnmaking_7 rfl rfl rfl ?_
  refine f_getm C tF_X3_9 rfl o97 cn97_4 hc_1.z dX3_tryUnmaking_8 rfl ?_
  refine f_geti C tF_X3_81 rfl hc_1.o dX3_tryUnmaking_11 rfl ?_
  refine f_ior C dX3_tryUnmaking_14 rfl ?_
  refine f_iload_n C (j := 1) dX3_tryUnmaking_15 rfl rfl rfl ?_
  refine f_ishr C dX3_tryUnmaking_16 rfl ?_
  refine f_iconst C (v := 1) dX3_tryUnmaking_17 kc1 rfl ?_
  refine f_iand C dX3_tryUnmaking_18 rfl ?_
  refine f_if_eq C (t := 33) dX3_tryUnmaking_19 (by decide) rfl (fun hq_2 => ?_) (fun hq_2 => ?_)
  · replace h := Eq.mp (if_pos hq_2) h
    refine f_aload_n C (j := 0) dX3_tryUnmaking_33 rfl rfl rfl ?_
    refine f_getm C tF_X3_9 rfl o97 cn97_4 hc_1.z dX3_tryUnmaking_34 rfl ?_
    refine f_dup C dX3_tryUnmaking_37 rfl rfl ?_
    refine f_geti C tF_X3_94 rfl hc_1.o dX3_tryUnmaking_38 rfl ?_
    refine f_iconst C (v := 1) dX3_tryUnmaking_41 kc1 rfl ?_
    refine f_iload_n C (j := 1) dX3_tryUnmaking_42 rfl rfl rfl ?_
    refine f_ishl C dX3_tryUnmaking_43 rfl ?_
    refine f_ior C dX3_tryUnmaking_44 rfl ?_
    refine f_puti C tF_X3_94 fm_1_14 rfl hc_1.o dX3_tryUnmaking_45 rfl ?_
    refine f_aload_n C (j := 0) dX3_tryUnmaking_48 rfl rfl rfl ?_
    refine f_getc C tF_X3_23 rfl o97 cs97_2 (by decide) dX3_tryUnmaking_49 rfl ?_
    refine f_iconst C (v := 2) dX3_tryUnmaking_52 kc2 rfl ?_
    refine f_dup2 C dX3_tryUnmaking_53 rfl rfl rfl ?_
    refine f_names (fun σ_3 hσ_4 => ?_)
    replace h := h σ_3 hσ_4
    refine f_iald C (j := 2) a98 (vp_lit (by decide)) rfl dX3_tryUnmaking_54 rfl ?_
    refine f_iconst C (v := 1) dX3_tryUnmaking_55 kc1 rfl ?_
    refine f_iadd C dX3_tryUnmaking_56 rfl ?_
    refine f_iast C (j := 2) a98 (vp_lit (by decide)) rfl dX3_tryUnmaking_57 rfl ?_
    exact f_vret C dX3_tryUnmaking_58 h
  · replace h := Eq.mp (if_neg hq_2) h
    refine f_aload_n C (j := 0) dX3_tryUnmaking_22 rfl rfl rfl ?_
    refine f_getc C tF_X3_23 rfl o97 cs97_2 (by decide) dX3_tryUnmaking_23 rfl ?_
    refine f_iconst C (v := 0) dX3_tryUnmaking_26 kc0 rfl ?_
    refine f_dup2 C dX3_tryUnmaking_27 rfl rfl rfl ?_
    refine f_iald C (j := 0) a98 (vp_lit (by decide)) rfl dX3_tryUnmaking_28 rfl ?_
    refine f_iconst C (v := 1) dX3_tryUnmaking_29 kc1 rfl ?_
    refine f_iadd C dX3_tryUnmaking_30 rfl ?_
    refine f_iast C (j := 0) a98 (vp_lit (by decide)) rfl dX3_tryUnmaking_31 rfl ?_
    exact f_vret C dX3_tryUnmaking_32 h
theorem c_X3_tryUnmaking (x1 : Int32) (σ : Sto) (P : Sto → Prop) (h : w_X3_tryUnmaking x1 σ P) : Ct yX3_tryUnmaking cX3_tryUnmaking 2 none 0 0 (fun B => [.ref (B + 97), .int x1]) σ (QFv P) := Ct.of (by decide) (fun _ => Nat.le_of_ble_eq_true rfl) (fun B E C => s_X3_tryUnmaking C x1 σ h)
def w_X3_tryRemaking (x1 : Int32) (σ : Sto) (P : Sto → Prop) : Prop :=
  isCity (gr σ 97 4) ∧ (if (((gi σ (gr σ 97 4) 14) >>> (x1 &&& 31)) &&& 1) = 0 then P (si σ 98 0 ((gi σ 98 0) + 1)) else P (si σ (gr σ 97 4) 14 ((gi σ (gr σ 97 4) 14) &&& (~~~(1 <<< (x1 &&& 31))))))
theorem s_X3_tryRemaking {B : Nat} {E : Nat → List (Nat × Value) → List Value → Sto → Prop} {P : Sto → Prop} (C : Cy B E RX3 cX3_tryRemaking 2 none 0 0 (Zm (QFv P))) (x1 : Int32) (σ : Sto) (h : w_X3_tryRemaking x1 σ P) : E 0 [(0, .ref (B + 97)), (1, .int x1)] [] σ := by
  unfold w_X3_tryRemaking at h
  refine f_aload_n C (j := 0) dX3_tryRemaking_0 rfl rfl rfl ?_
  obtain ⟨hc_1, h⟩ := h
  refine f_getm C tF_X3_9 rfl o97 cn97_4 hc_1.z dX3_tryRemaking_1 rfl ?_
  refine f_geti C tF_X3_94 rfl hc_1.o dX3_tryRemaking_4 rfl ?_
  refine f_iload_n C (j := 1) dX3_tryRemaking_7 rfl rfl rfl ?_
  refine f_ishr C dX3_tryRemaking_8 rfl ?_
  refine f_iconst C (v := 1) dX3_tryRemaking_9 kc1 rfl ?_
  refine f_iand C dX3_tryRemaking_10 rfl ?_
  refine f_if_ne C (t := 25) dX3_tryRemaking_11 (by decide) rfl (fun hq_2 => ?_) (fun hq_2 => ?_)
  · replace h := Eq.mp (if_neg hq_2) h
    refine f_aload_n C (j := 0) dX3_tryRemaking_25 rfl rfl rfl ?_
    refine f_getm C tF_X3_9 rfl o97 cn97_4 hc_1.z dX3_tryRemaking_26 rfl ?_
    refine f_dup C dX3_tryRemaking_29 rfl rfl ?_
    refine f_geti C tF_X3_94 rfl hc_1.o dX3_tryRemaking_30 rfl ?_
    refine f_iconst C (v := 1) dX3_tryRemaking_33 kc1 rfl ?_
    refine f_iload_n C (j := 1) dX3_tryRemaking_34 rfl rfl rfl ?_
    refine f_ishl C dX3_tryRemaking_35 rfl ?_
    refine f_iconst C (v := (-1)) dX3_tryRemaking_36 kcm1 rfl ?_
    refine f_inot C dX3_tryRemaking_37 rfl ?_
    refine f_iand C dX3_tryRemaking_38 rfl ?_
    refine f_puti C tF_X3_94 fm_1_14 rfl hc_1.o dX3_tryRemaking_39 rfl ?_
    exact f_vret C dX3_tryRemaking_42 h
  · replace h := Eq.mp (if_pos hq_2) h
    refine f_aload_n C (j := 0) dX3_tryRemaking_14 rfl rfl rfl ?_
    refine f_getc C tF_X3_23 rfl o97 cs97_2 (by decide) dX3_tryRemaking_15 rfl ?_
    refine f_iconst C (v := 0) dX3_tryRemaking_18 kc0 rfl ?_
    refine f_dup2 C dX3_tryRemaking_19 rfl rfl rfl ?_
    refine f_iald C (j := 0) a98 (vp_lit (by decide)) rfl dX3_tryRemaking_20 rfl ?_
    refine f_iconst C (v := 1) dX3_tryRemaking_21 kc1 rfl ?_
    refine f_iadd C dX3_tryRemaking_22 rfl ?_
    refine f_iast C (j := 0) a98 (vp_lit (by decide)) rfl dX3_tryRemaking_23 rfl ?_
    exact f_vret C dX3_tryRemaking_24 h
theorem c_X3_tryRemaking (x1 : Int32) (σ : Sto) (P : Sto → Prop) (h : w_X3_tryRemaking x1 σ P) : Ct yX3_tryRemaking cX3_tryRemaking 2 none 0 0 (fun B => [.ref (B + 97), .int x1]) σ (QFv P) := Ct.of (by decide) (fun _ => Nat.le_of_ble_eq_true rfl) (fun B E C => s_X3_tryRemaking C x1 σ h)
def w_J6_bitCount_0f7a4 (x0 : Int32) (σ : Sto) (P : Int32 → Sto → Prop) : Prop :=
  ∀ x0_1 : Int32, x0_1 = x0 - (((x0.toUInt32 >>> ((1 : Int32).toUInt32 &&& Int32.toUInt32 31)).toInt32) &&& 1431655765) → ∀ x0_3 : Int32, x0_3 = (x0_1 &&& 858993459) + (((x0_1.toUInt32 >>> ((2 : Int32).toUInt32 &&& Int32.toUInt32 31)).toInt32) &&& 858993459) → ∀ x0_5 : Int32, x0_5 = (x0_3 + ((x0_3.toUInt32 >>> ((4 : Int32).toUInt32 &&& Int32.toUInt32 31)).toInt32)) &&& 252645135 → ∀ x0_7 : Int32, x0_7 = x0_5 + ((x0_5.toUInt32 >>> ((8 : Int32).toUInt32 &&& Int32.toUInt32 31)).toInt32) → ∀ x0_9 : Int32, x0_9 = x0_7 + ((x0_7.toUInt32 >>> ((16 : Int32).toUInt32 &&& Int32.toUInt32 31)).toInt32) → P (x0_9 &&& 63) σ
theorem s_J6_bitCount_0f7a4 {B : Nat} {E : Nat → List (Nat × Value) → List Value → Sto → Prop} {P : Int32 → Sto → Prop} (C : Cy B E RJ6 cJ6_bitCount_0f7a4 1 (some .int) 0 0 (Zm (QFi P))) (x0 : Int32) (σ : Sto) (h : w_J6_bitCount_0f7a4 x0 σ P) : E 0 [(0, .int x0)] [] σ := by
  unfold w_J6_bitCount_0f7a4 at h
  refine f_iload_n C (j := 0) dJ6_bitCount_0f7a4_0 rfl rfl rfl ?_
  refine f_iload_n C (j := 0) dJ6_bitCount_0f7a4_1 rfl rfl rfl ?_
  refine f_iconst C (v := 1) dJ6_bitCount_0f7a4_2 kc1 rfl ?_
  refine f_iushr C dJ6_bitCount_0f7a4_3 rfl ?_
  refine f_ldc_w C tK_J6_265 dJ6_bitCount_0f7a4_4 rfl ?_
  refine f_iand C dJ6_bitCount_0f7a4_7 rfl ?_
  refine f_isub C dJ6_bitCount_0f7a4_8 rfl ?_
  refine f_name (fun x0_1 hx_2 => ?_)
  replace h := h x0_1 hx_2
  refine f_istore_n C (lv2 := [(0, .int x0_1)]) dJ6_bitCount_0f7a4_9 rfl (by decide) rfl rfl ?_
  refine f_iload_n C (j := 0) dJ6_bitCount_0f7a4_10 rfl rfl rfl ?_
  refine f_ldc_w C tK_J6_266 dJ6_bitCount_0f7a4_11 rfl ?_
  refine f_iand C dJ6_bitCount_0f7a4_14 rfl ?_
  refine f_iload_n C (j := 0) dJ6_bitCount_0f7a4_15 rfl rfl rfl ?_
  refine f_iconst C (v := 2) dJ6_bitCount_0f7a4_16 kc2 rfl ?_
  refine f_iushr C dJ6_bitCount_0f7a4_17 rfl ?_
  refine f_ldc_w C tK_J6_266 dJ6_bitCount_0f7a4_18 rfl ?_
  refine f_iand C dJ6_bitCount_0f7a4_21 rfl ?_
  refine f_iadd C dJ6_bitCount_0f7a4_22 rfl ?_
  refine f_name (fun x0_3 hx_4 => ?_)
  replace h := h x0_3 hx_4
  refine f_istore_n C (lv2 := [(0, .int x0_3)]) dJ6_bitCount_0f7a4_23 rfl (by decide) rfl rfl ?_
  refine f_iload_n C (j := 0) dJ6_bitCount_0f7a4_24 rfl rfl rfl ?_
  refine f_iload_n C (j := 0) dJ6_bitCount_0f7a4_25 rfl rfl rfl ?_
  refine f_iconst C (v := 4) dJ6_bitCount_0f7a4_26 kc4 rfl ?_
  refine f_iushr C dJ6_bitCount_0f7a4_27 rfl ?_
  refine f_iadd C dJ6_bitCount_0f7a4_28 rfl ?_
  refine f_ldc_w C tK_J6_267 dJ6_bitCount_0f7a4_29 rfl ?_
  refine f_iand C dJ6_bitCount_0f7a4_32 rfl ?_
  refine f_name (fun x0_5 hx_6 => ?_)
  replace h := h x0_5 hx_6
  refine f_istore_n C (lv2 := [(0, .int x0_5)]) dJ6_bitCount_0f7a4_33 rfl (by decide) rfl rfl ?_
  refine f_iload_n C (j := 0) dJ6_bitCount_0f7a4_34 rfl rfl rfl ?_
  refine f_iload_n C (j := 0) dJ6_bitCount_0f7a4_35 rfl rfl rfl ?_
  refine f_bipush C (v := 8) dJ6_bitCount_0f7a4_36 kb8 rfl ?_
  refine f_iushr C dJ6_bitCount_0f7a4_38 rfl ?_
  refine f_iadd C dJ6_bitCount_0f7a4_39 rfl ?_
  refine f_name (fun x0_7 hx_8 => ?_)
  replace h := h x0_7 hx_8
  refine f_istore_n C (lv2 := [(0, .int x0_7)]) dJ6_bitCount_0f7a4_40 rfl (by decide) rfl rfl ?_
  refine f_iload_n C (j := 0) dJ6_bitCount_0f7a4_41 rfl rfl rfl ?_
  refine f_iload_n C (j := 0) dJ6_bitCount_0f7a4_42 rfl rfl rfl ?_
  refine f_bipush C (v := 16) dJ6_bitCount_0f7a4_43 kb16 rfl ?_
  refine f_iushr C dJ6_bitCount_0f7a4_45 rfl ?_
  refine f_iadd C dJ6_bitCount_0f7a4_46 rfl ?_
  refine f_name (fun x0_9 hx_10 => ?_)
  replace h := h x0_9 hx_10
  refine f_istore_n C (lv2 := [(0, .int x0_9)]) dJ6_bitCount_0f7a4_47 rfl (by decide) rfl rfl ?_
  refine f_iload_n C (j := 0) dJ6_bitCount_0f7a4_48 rfl rfl rfl ?_
  refine f_bipush C (v := 63) dJ6_bitCount_0f7a4_49 kb63 rfl ?_
  refine f_iand C dJ6_bitCount_0f7a4_51 rfl ?_
  exact f_iret C dJ6_bitCount_0f7a4_52 h
theorem c_J6_bitCount_0f7a4 (x0 : Int32) (σ : Sto) (P : Int32 → Sto → Prop) (h : w_J6_bitCount_0f7a4 x0 σ P) : Ct yJ6_bitCount_0f7a4 cJ6_bitCount_0f7a4 1 (some .int) 0 0 (fun B => [.int x0]) σ (QFi P) := Ct.of (by decide) (fun _ => Nat.le_of_ble_eq_true rfl) (fun B E C => s_J6_bitCount_0f7a4 C x0 σ h)
def w_X3_draw (x1 : Int32) (σ : Sto) (P : Int32 → Sto → Prop) : Prop :=
  (if x1 ≤ 0 then P 0 (si σ 97 5 ((((gi σ 97 5) * 2971) + 10663) - (((gi σ 97 5) * 2971) + 10663) / 65536 * 65536)) else ∀ σ_2 : Sto, σ_2 = si σ 97 5 ((((gi σ 97 5) * 2971) + 10663) - (((gi σ 97 5) * 2971) + 10663) / 65536 * 65536) → ¬ x1 = 0 ∧ P (((gi σ_2 97 5) / 8) - ((gi σ_2 97 5) / 8) / x1 * x1) σ_2)
theorem s_X3_draw {B : Nat} {E : Nat → List (Nat × Value) → List Value → Sto → Prop} {P : Int32 → Sto → Prop} (C : Cy B E RX3 cX3_draw 2 (some .int) 0 0 (Zm (QFi P))) (x1 : Int32) (σ : Sto) (h : w_X3_draw x1 σ P) : E 0 [(0, .ref (B + 97)), (1, .int x1)] [] σ := by
  unfold w_X3_draw at h
  refine f_aload_n C (j := 0) dX3_draw_0 rfl rfl rfl ?_
  refine f_aload_n C (j := 0) dX3_draw_1 rfl rfl rfl ?_
  refine f_geti C tF_X3_32 rfl o97 dX3_draw_2 rfl ?_
  refine f_sipush C (v := 2971) dX3_draw_5 ks2971 rfl ?_
  refine f_imul C dX3_draw_8 rfl ?_
  refine f_sipush C (v := 10663) dX3_draw_9 ks10663 rfl ?_
  refine f_iadd C dX3_draw_12 rfl ?_
  refine f_ldc C tK_X3_119 dX3_draw_13 rfl ?_
  refine f_irem C dX3_draw_15 (by decide) rfl ?_
  refine f_puti C tF_X3_32 fm_3_5 rfl o97 dX3_draw_16 rfl ?_
  refine f_iload_n C (j := 1) dX3_draw_19 rfl rfl rfl ?_
  refine f_if_le C (t := 35) dX3_draw_20 (by decide) rfl (fun hq_1 => ?_) (fun hq_1 => ?_)
  · replace h := Eq.mp (if_pos hq_1) h
    refine f_iconst C (v := 0) dX3_draw_35 kc0 rfl ?_
    exact f_iret C dX3_draw_36 h
  · replace h := Eq.mp (if_neg hq_1) h
    refine f_aload_n C (j := 0) dX3_draw_23 rfl rfl rfl ?_
    refine f_names (fun σ_2 hσ_3 => ?_)
    replace h := h σ_2 hσ_3
    refine f_geti C tF_X3_32 rfl o97 dX3_draw_24 rfl ?_
    refine f_bipush C (v := 8) dX3_draw_27 kb8 rfl ?_
    refine f_idiv C dX3_draw_29 (by decide) rfl ?_
    refine f_iload_n C (j := 1) dX3_draw_30 rfl rfl rfl ?_
    obtain ⟨hz_4, h⟩ := h
    refine f_irem C dX3_draw_31 hz_4 rfl ?_
    refine f_goto C (t := 36) dX3_draw_32 (by decide) ?_
    exact f_iret C dX3_draw_36 h
theorem c_X3_draw (x1 : Int32) (σ : Sto) (P : Int32 → Sto → Prop) (h : w_X3_draw x1 σ P) : Ct yX3_draw cX3_draw 2 (some .int) 0 0 (fun B => [.ref (B + 97), .int x1]) σ (QFi P) := Ct.of (by decide) (fun _ => Nat.le_of_ble_eq_true rfl) (fun B E C => s_X3_draw C x1 σ h)
def w_X3_tryJoking_37 (K37 : Int32 × Int32 × Sto → Prop) (x1 : Int32) (x3 : Int32) (x4 : Int32) (σ : Sto) (P : Sto → Prop) : Prop :=
  isCity (gr σ 97 4) ∧ (if (gi σ (gr σ 97 4) 8) ≤ x4 then ∀ σ_10 : Sto, σ_10 = si σ 98 2 ((gi σ 98 2) + 1) → P (si σ_10 98 3 ((gi σ_10 98 3) + 1)) else (if ((x1 >>> (x4 &&& 31)) &&& 1) = 0 then ∀ x4_13 : Int32, x4_13 = x4 + 1 → K37 (x3, x4_13, σ) else (if x3 = 0 then ∀ x3_20 : Int32, x3_20 = x3 + (-1) → ∀ x4_22 : Int32, x4_22 = x4 + 1 → K37 (x3_20, x4_22, si σ (gr σ 97 4) 14 ((gi σ (gr σ 97 4) 14) ||| (1 <<< (x4 &&& 31)))) else ∀ x3_16 : Int32, x3_16 = x3 + (-1) → ∀ x4_18 : Int32, x4_18 = x4 + 1 → K37 (x3_16, x4_18, σ))))
theorem s_X3_tryJoking_37 {B : Nat} {E : Nat → List (Nat × Value) → List Value → Sto → Prop} {P : Sto → Prop} (C : Cy B E RX3 cX3_tryJoking 5 none 3 69 (Zm (QFv P))) (x1 : Int32) (x3 : Int32) (x4 : Int32) (K37 : Int32 × Int32 × Sto → Prop) (hK37 : ∀ (x3 : Int32) (x4 : Int32) (σ : Sto), K37 (x3, x4, σ) → E 37 [(0, .ref (B + 97)), (1, .int x1), (3, .int x3), (4, .int x4)] [] σ) (σ : Sto) (h : w_X3_tryJoking_37 K37 x1 x3 x4 σ P) : E 37 [(0, .ref (B + 97)), (1, .int x1), (3, .int x3), (4, .int x4)] [] σ := by
  unfold w_X3_tryJoking_37 at h
  refine f_iload C (j := 3) dX3_tryJoking_37 rfl rfl ?_
  refine f_aload_n C (j := 0) dX3_tryJoking_39 rfl rfl rfl ?_
  obtain ⟨hc_8, h⟩ := h
  refine f_getm C tF_X3_9 rfl o97 cn97_4 hc_8.z dX3_tryJoking_40 rfl ?_
  refine f_geti C tF_X3_116 rfl hc_8.o dX3_tryJoking_43 rfl ?_
  refine f_icmp_ge C (t := 87) dX3_tryJoking_46 (by decide) rfl (fun hq_9 => ?_) (fun hq_9 => ?_)
  · replace h := Eq.mp (if_pos hq_9) h
    refine f_aload_n C (j := 0) dX3_tryJoking_87 rfl rfl rfl ?_
    refine f_getc C tF_X3_23 rfl o97 cs97_2 (by decide) dX3_tryJoking_88 rfl ?_
    refine f_iconst C (v := 2) dX3_tryJoking_91 kc2 rfl ?_
    refine f_dup2 C dX3_tryJoking_92 rfl rfl rfl ?_
    refine f_iald C (j := 2) a98 (vp_lit (by decide)) rfl dX3_tryJoking_93 rfl ?_
    refine f_iconst C (v := 1) dX3_tryJoking_94 kc1 rfl ?_
    refine f_iadd C dX3_tryJoking_95 rfl ?_
    refine f_iast C (j := 2) a98 (vp_lit (by decide)) rfl dX3_tryJoking_96 rfl ?_
    refine f_aload_n C (j := 0) dX3_tryJoking_97 rfl rfl rfl ?_
    refine f_getc C tF_X3_23 rfl o97 cs97_2 (by decide) dX3_tryJoking_98 rfl ?_
    refine f_iconst C (v := 3) dX3_tryJoking_101 kc3 rfl ?_
    refine f_dup2 C dX3_tryJoking_102 rfl rfl rfl ?_
    refine f_names (fun σ_10 hσ_11 => ?_)
    replace h := h σ_10 hσ_11
    refine f_iald C (j := 3) a98 (vp_lit (by decide)) rfl dX3_tryJoking_103 rfl ?_
    refine f_iconst C (v := 1) dX3_tryJoking_104 kc1 rfl ?_
    refine f_iadd C dX3_tryJoking_105 rfl ?_
    refine f_iast C (j := 3) a98 (vp_lit (by decide)) rfl dX3_tryJoking_106 rfl ?_
    exact f_vret C dX3_tryJoking_107 h
  · replace h := Eq.mp (if_neg hq_9) h
    refine f_iload_n C (j := 1) dX3_tryJoking_49 rfl rfl rfl ?_
    refine f_iload C (j := 3) dX3_tryJoking_50 rfl rfl ?_
    refine f_ishr C dX3_tryJoking_52 rfl ?_
    refine f_iconst C (v := 1) dX3_tryJoking_53 kc1 rfl ?_
    refine f_iand C dX3_tryJoking_54 rfl ?_
    refine f_if_eq C (t := 81) dX3_tryJoking_55 (by decide) rfl (fun hq_12 => ?_) (fun hq_12 => ?_)
    · replace h := Eq.mp (if_pos hq_12) h
      obtain ⟨x4_13, hx_14⟩ : ∃ y : Int32, y = x4 + 1 := ⟨_, rfl⟩
      replace h := h x4_13 hx_14
      refine f_iinc C (j := 3) (v := x4_13) (lv2 := [(4, .int x4_13), (0, .ref (B + 97)), (1, .int x1), (3, .int x3)]) dX3_tryJoking_81 rfl hx_14.symm (by decide) rfl rfl ?_
      refine f_goto C (t := 37) dX3_tryJoking_84 (by decide) ?_
      refine f_lv C (lv2 := [(0, .ref (B + 97)), (1, .int x1), (3, .int x3), (4, .int x4_13)]) [1, 2, 3, 0] rfl ?_
      exact hK37 _ _ _ h
    · replace h := Eq.mp (if_neg hq_12) h
      refine f_iload_n C (j := 2) dX3_tryJoking_58 rfl rfl rfl ?_
      refine f_if_ne C (t := 78) dX3_tryJoking_59 (by decide) rfl (fun hq_15 => ?_) (fun hq_15 => ?_)
      · replace h := Eq.mp (if_neg hq_15) h
        obtain ⟨x3_16, hx_17⟩ : ∃ y : Int32, y = x3 + (-1) := ⟨_, rfl⟩
        replace h := h x3_16 hx_17
        refine f_iinc C (j := 2) (v := x3_16) (lv2 := [(3, .int x3_16), (0, .ref (B + 97)), (1, .int x1), (4, .int x4)]) dX3_tryJoking_78 rfl hx_17.symm (by decide) rfl rfl ?_
        obtain ⟨x4_18, hx_19⟩ : ∃ y : Int32, y = x4 + 1 := ⟨_, rfl⟩
        replace h := h x4_18 hx_19
        refine f_iinc C (j := 3) (v := x4_18) (lv2 := [(4, .int x4_18), (3, .int x3_16), (0, .ref (B + 97)), (1, .int x1)]) dX3_tryJoking_81 rfl hx_19.symm (by decide) rfl rfl ?_
        refine f_goto C (t := 37) dX3_tryJoking_84 (by decide) ?_
        refine f_lv C (lv2 := [(0, .ref (B + 97)), (1, .int x1), (3, .int x3_16), (4, .int x4_18)]) [2, 3, 1, 0] rfl ?_
        exact hK37 _ _ _ h
      · replace h := Eq.mp (if_pos hq_15) h
        refine f_aload_n C (j := 0) dX3_tryJoking_62 rfl rfl rfl ?_
        refine f_getm C tF_X3_9 rfl o97 cn97_4 hc_8.z dX3_tryJoking_63 rfl ?_
        refine f_dup C dX3_tryJoking_66 rfl rfl ?_
        refine f_geti C tF_X3_94 rfl hc_8.o dX3_tryJoking_67 rfl ?_
        refine f_iconst C (v := 1) dX3_tryJoking_70 kc1 rfl ?_
        refine f_iload C (j := 3) dX3_tryJoking_71 rfl rfl ?_
        refine f_ishl C dX3_tryJoking_73 rfl ?_
        refine f_ior C dX3_tryJoking_74 rfl ?_
        refine f_puti C tF_X3_94 fm_1_14 rfl hc_8.o dX3_tryJoking_75 rfl ?_
        obtain ⟨x3_20, hx_21⟩ : ∃ y : Int32, y = x3 + (-1) := ⟨_, rfl⟩
        replace h := h x3_20 hx_21
        refine f_iinc C (j := 2) (v := x3_20) (lv2 := [(3, .int x3_20), (0, .ref (B + 97)), (1, .int x1), (4, .int x4)]) dX3_tryJoking_78 rfl hx_21.symm (by decide) rfl rfl ?_
        obtain ⟨x4_22, hx_23⟩ : ∃ y : Int32, y = x4 + 1 := ⟨_, rfl⟩
        replace h := h x4_22 hx_23
        refine f_iinc C (j := 3) (v := x4_22) (lv2 := [(4, .int x4_22), (3, .int x3_20), (0, .ref (B + 97)), (1, .int x1)]) dX3_tryJoking_81 rfl hx_23.symm (by decide) rfl rfl ?_
        refine f_goto C (t := 37) dX3_tryJoking_84 (by decide) ?_
        refine f_lv C (lv2 := [(0, .ref (B + 97)), (1, .int x1), (3, .int x3_20), (4, .int x4_22)]) [2, 3, 1, 0] rfl ?_
        exact hK37 _ _ _ h
def w_X3_tryJoking (σ : Sto) (P : Sto → Prop) : Prop :=
  w_X0_openNow σ (fun r_2 σ_1 => w_J6_bitCount_0f7a4 r_2 σ_1 (fun r_4 σ_3 => (if r_4 = 0 then P (si σ_3 98 0 ((gi σ_3 98 0) + 1)) else w_X3_draw r_4 σ_3 (fun r_7 σ_6 => Lp (fun (K : Int32 × Int32 × Sto → Prop) s => w_X3_tryJoking_37 K r_2 s.1 s.2.1 s.2.2 P) (r_7, 0, σ_6)))))
theorem s_X3_tryJoking {B : Nat} {E : Nat → List (Nat × Value) → List Value → Sto → Prop} {P : Sto → Prop} (C : Cy B E RX3 cX3_tryJoking 5 none 3 69 (Zm (QFv P))) (σ : Sto) (h : w_X3_tryJoking σ P) : E 0 [(0, .ref (B + 97))] [] σ := by
  unfold w_X3_tryJoking at h
  refine f_aload_n C (j := 0) dX3_tryJoking_0 rfl rfl rfl ?_
  refine f_getc C tF_X3_19 rfl o97 cs97_1 (by decide) dX3_tryJoking_1 rfl ?_
  refine f_callVi C (a := 90) (ci := 0) (As := fun B => []) o90 rfl (c_X0_openNow   _ _ h) tM_X3_103 tI_X0_openNow tS_X0_openNow tN_X0 tC_X0_openNow 0 dd_X0_openNow rfl (by decide) (by decide) rfl (Nat.le_of_ble_eq_true rfl) dX3_tryJoking_4 rfl (fun r_2 σ_1 h => ?_)
  refine f_istore_n C (lv2 := [(1, .int r_2), (0, .ref (B + 97))]) dX3_tryJoking_7 rfl (by decide) rfl rfl ?_
  refine f_iload_n C (j := 0) dX3_tryJoking_8 rfl rfl rfl ?_
  refine f_callSi C (As := fun B => [.int r_2]) (c_J6_bitCount_0f7a4  _ _ _ h) tM_X3_107 tT_J6_bitCount_0f7a4 tN_J6 tC_J6_bitCount_0f7a4 1 dd_J6_bitCount_0f7a4 rfl (by decide) (by decide) rfl (Nat.le_of_ble_eq_true rfl) dX3_tryJoking_9 rfl (fun r_4 σ_3 h => ?_)
  refine f_istore_n C (lv2 := [(2, .int r_4), (1, .int r_2), (0, .ref (B + 97))]) dX3_tryJoking_12 rfl (by decide) rfl rfl ?_
  refine f_iload_n C (j := 0) dX3_tryJoking_13 rfl rfl rfl ?_
  refine f_if_ne C (t := 28) dX3_tryJoking_14 (by decide) rfl (fun hq_5 => ?_) (fun hq_5 => ?_)
  · replace h := Eq.mp (if_neg hq_5) h
    refine f_aload_n C (j := 2) dX3_tryJoking_28 rfl rfl rfl ?_
    refine f_iload_n C (j := 0) dX3_tryJoking_29 rfl rfl rfl ?_
    refine f_callVi C (a := 97) (ci := 3) (As := fun B => [.int r_4]) o97 rfl (c_X3_draw  _ _ _ h) tM_X3_113 tI_X3_draw tS_X3_draw tN_X3 tC_X3_draw 1 dd_X3_draw rfl (by decide) (by decide) rfl (Nat.le_of_ble_eq_true rfl) dX3_tryJoking_30 rfl (fun r_7 σ_6 h => ?_)
    refine f_istore_n C (lv2 := [(3, .int r_7), (2, .int r_4), (1, .int r_2), (0, .ref (B + 97))]) dX3_tryJoking_33 rfl (by decide) rfl rfl ?_
    refine f_iconst C (v := 0) dX3_tryJoking_34 kc0 rfl ?_
    refine f_istore C (lv2 := [(4, .int 0), (3, .int r_7), (2, .int r_4), (1, .int r_2), (0, .ref (B + 97))]) dX3_tryJoking_35 (by decide) rfl rfl ?_
    refine f_lv C (lv2 := [(0, .ref (B + 97)), (1, .int r_2), (3, .int r_7), (4, .int 0)]) [4, 3, 1, 0] rfl ?_
    exact Lp_sound (fun s : Int32 × Int32 × Sto => E 37 [(0, .ref (B + 97)), (1, .int r_2), (3, .int s.1), (4, .int s.2.1)] [] s.2.2) h (fun K s hK h => s_X3_tryJoking_37 C r_2 s.1 s.2.1 K (fun x3 x4 σ hk => hK (x3, x4, σ) hk) s.2.2 h)
  · replace h := Eq.mp (if_pos hq_5) h
    refine f_aload_n C (j := 2) dX3_tryJoking_17 rfl rfl rfl ?_
    refine f_getc C tF_X3_23 rfl o97 cs97_2 (by decide) dX3_tryJoking_18 rfl ?_
    refine f_iconst C (v := 0) dX3_tryJoking_21 kc0 rfl ?_
    refine f_dup2 C dX3_tryJoking_22 rfl rfl rfl ?_
    refine f_iald C (j := 0) a98 (vp_lit (by decide)) rfl dX3_tryJoking_23 rfl ?_
    refine f_iconst C (v := 1) dX3_tryJoking_24 kc1 rfl ?_
    refine f_iadd C dX3_tryJoking_25 rfl ?_
    refine f_iast C (j := 0) a98 (vp_lit (by decide)) rfl dX3_tryJoking_26 rfl ?_
    exact f_vret C dX3_tryJoking_27 h
theorem c_X3_tryJoking (σ : Sto) (P : Sto → Prop) (h : w_X3_tryJoking σ P) : Ct yX3_tryJoking cX3_tryJoking 5 none 3 69 (fun B => [.ref (B + 97)]) σ (QFv P) := Ct.of (by decide) (fun _ => Nat.le_of_ble_eq_true rfl) (fun B E C => s_X3_tryJoking C σ h)
def w_X3_lineBehindStep (a1 : Nat) (x2 : Int32) (σ : Sto) (P : Int32 → Sto → Prop) : Prop :=
  isStory a1 ∧ vp_in x2 60 ∧ ∀ x3_3 : Int32, x3_3 = gi σ (a1 + 2) (tn x2) → ∀ sw_5 : Int32, sw_5 = gi σ (a1 + 1) (tn x2) → (if sw_5 = 0 then w_X3_passYears (gi σ (a1 + 4) (tn x2)) σ (fun σ_6 => P (x2 + 1) σ_6) else (if sw_5 = 1 then w_X3_tryUnmaking x3_3 σ (fun σ_9 => P (x2 + 1) σ_9) else (if sw_5 = 2 then w_X3_tryRemaking x3_3 σ (fun σ_12 => P (x2 + 1) σ_12) else (if sw_5 = 3 then isCity (gr σ 97 4) ∧ P (x2 + 1) (si σ (gr σ 97 4) 15 ((gi σ (gr σ 97 4) 15) ^^^ (1 <<< (x3_3 &&& 31)))) else (if sw_5 = 4 then w_X3_tryJoking σ (fun σ_17 => P (x2 + 1) σ_17) else (if sw_5 = 5 then P (gi σ a1 7) σ else (if sw_5 = 6 then P (x2 + 1) (si σ 99 (tn x2) (gi σ (a1 + 4) (tn x2))) else w_X3_isSo a1 x2 σ (fun r_23 σ_22 => (if r_23 = 0 then P ((gi σ_22 (a1 + 5) (tn x2)) + 1) σ_22 else P (x2 + 1) σ_22)))))))))
theorem s_X3_lineBehindStep {B : Nat} {E : Nat → List (Nat × Value) → List Value → Sto → Prop} {P : Int32 → Sto → Prop} (C : Cy B E RX3 cX3_lineBehindStep 4 (some .int) 4 100 (Zm (QFi P))) (a1 : Nat) (x2 : Int32) (σ : Sto) (h : w_X3_lineBehindStep a1 x2 σ P) : E 0 [(0, .ref (B + 97)), (1, .ref (B + a1)), (2, .int x2)] [] σ := by
  unfold w_X3_lineBehindStep at h
  refine f_aload_n C (j := 1) dX3_lineBehindStep_0 rfl rfl rfl ?_
  obtain ⟨hs_1, h⟩ := h
  refine f_getc C tF_X3_65 rfl hs_1.o hs_1.c1 (Nat.succ_ne_zero _) dX3_lineBehindStep_1 rfl ?_
  refine f_iload_n C (j := 2) dX3_lineBehindStep_4 rfl rfl rfl ?_
  obtain ⟨hi_2, h⟩ := h
  refine f_iald C (j := tn x2) hs_1.a1 hi_2 rfl dX3_lineBehindStep_5 rfl ?_
  refine f_name (fun x3_3 hx_4 => ?_)
  replace h := h x3_3 hx_4
  refine f_istore_n C (lv2 := [(3, .int x3_3), (0, .ref (B + 97)), (1, .ref (B + a1)), (2, .int x2)]) dX3_lineBehindStep_6 rfl (by decide) rfl rfl ?_
  refine f_aload_n C (j := 2) dX3_lineBehindStep_7 rfl rfl rfl ?_
  refine f_getc C tF_X3_52 rfl hs_1.o hs_1.c0 (Nat.succ_ne_zero _) dX3_lineBehindStep_8 rfl ?_
  refine f_iload_n C (j := 3) dX3_lineBehindStep_11 rfl rfl rfl ?_
  refine f_iald C (j := tn x2) hs_1.a0 hi_2 rfl dX3_lineBehindStep_12 rfl ?_
  refine f_name (fun sw_5 hsw_5 => ?_)
  replace h := h sw_5 hsw_5
  by_cases hq_8 : sw_5 = 0
  · replace h := Eq.mp (if_pos hq_8) h
    refine f_tableIn C (off := 43) (t := 56) dX3_lineBehindStep_13 (by rw [hq_8]; decide) (by rw [hq_8]; decide) (by rw [hq_8]; rfl) (by decide) ?_
    refine f_aload_n C (j := 1) dX3_lineBehindStep_56 rfl rfl rfl ?_
    refine f_aload_n C (j := 2) dX3_lineBehindStep_57 rfl rfl rfl ?_
    refine f_getc C tF_X3_68 rfl hs_1.o hs_1.c3 (Nat.succ_ne_zero _) dX3_lineBehindStep_58 rfl ?_
    refine f_iload_n C (j := 3) dX3_lineBehindStep_61 rfl rfl rfl ?_
    refine f_iald C (j := tn x2) hs_1.a3 hi_2 rfl dX3_lineBehindStep_62 rfl ?_
    refine f_callVv C (a := 97) (ci := 3) (As := fun B => [.int (gi σ (a1 + 4) (tn x2))]) o97 rfl (c_X3_passYears  _ _ _ h) tM_X3_71 tI_X3_passYears tS_X3_passYears tN_X3 tC_X3_passYears 1 dd_X3_passYears rfl (by decide) (by decide) rfl (Nat.le_of_ble_eq_true rfl) dX3_lineBehindStep_63 rfl (fun σ_6 h => ?_)
    refine f_goto C (t := 154) dX3_lineBehindStep_66 (by decide) ?_
    refine f_iload_n C (j := 3) dX3_lineBehindStep_154 rfl rfl rfl ?_
    refine f_iconst C (v := 1) dX3_lineBehindStep_155 kc1 rfl ?_
    refine f_iadd C dX3_lineBehindStep_156 rfl ?_
    exact f_iret C dX3_lineBehindStep_157 h
  replace h := Eq.mp (if_neg hq_8) h
  by_cases hq_11 : sw_5 = 1
  · replace h := Eq.mp (if_pos hq_11) h
    refine f_tableIn C (off := 56) (t := 69) dX3_lineBehindStep_13 (by rw [hq_11]; decide) (by rw [hq_11]; decide) (by rw [hq_11]; rfl) (by decide) ?_
    refine f_aload_n C (j := 1) dX3_lineBehindStep_69 rfl rfl rfl ?_
    refine f_iload_n C (j := 0) dX3_lineBehindStep_70 rfl rfl rfl ?_
    refine f_callVv C (a := 97) (ci := 3) (As := fun B => [.int x3_3]) o97 rfl (c_X3_tryUnmaking  _ _ _ h) tM_X3_75 tI_X3_tryUnmaking tS_X3_tryUnmaking tN_X3 tC_X3_tryUnmaking 1 dd_X3_tryUnmaking rfl (by decide) (by decide) rfl (Nat.le_of_ble_eq_true rfl) dX3_lineBehindStep_71 rfl (fun σ_9 h => ?_)
    refine f_goto C (t := 154) dX3_lineBehindStep_74 (by decide) ?_
    refine f_iload_n C (j := 3) dX3_lineBehindStep_154 rfl rfl rfl ?_
    refine f_iconst C (v := 1) dX3_lineBehindStep_155 kc1 rfl ?_
    refine f_iadd C dX3_lineBehindStep_156 rfl ?_
    exact f_iret C dX3_lineBehindStep_157 h
  replace h := Eq.mp (if_neg hq_11) h
  by_cases hq_14 : sw_5 = 2
  · replace h := Eq.mp (if_pos hq_14) h
    refine f_tableIn C (off := 64) (t := 77) dX3_lineBehindStep_13 (by rw [hq_14]; decide) (by rw [hq_14]; decide) (by rw [hq_14]; rfl) (by decide) ?_
    refine f_aload_n C (j := 1) dX3_lineBehindStep_77 rfl rfl rfl ?_
    refine f_iload_n C (j := 0) dX3_lineBehindStep_78 rfl rfl rfl ?_
    refine f_callVv C (a := 97) (ci := 3) (As := fun B => [.int x3_3]) o97 rfl (c_X3_tryRemaking  _ _ _ h) tM_X3_78 tI_X3_tryRemaking tS_X3_tryRemaking tN_X3 tC_X3_tryRemaking 1 dd_X3_tryRemaking rfl (by decide) (by decide) rfl (Nat.le_of_ble_eq_true rfl) dX3_lineBehindStep_79 rfl (fun σ_12 h => ?_)
    refine f_goto C (t := 154) dX3_lineBehindStep_82 (by decide) ?_
    refine f_iload_n C (j := 3) dX3_lineBehindStep_154 rfl rfl rfl ?_
    refine f_iconst C (v := 1) dX3_lineBehindStep_155 kc1 rfl ?_
    refine f_iadd C dX3_lineBehindStep_156 rfl ?_
    exact f_iret C dX3_lineBehindStep_157 h
  replace h := Eq.mp (if_neg hq_14) h
  by_cases hq_16 : sw_5 = 3
  · replace h := Eq.mp (if_pos hq_16) h
    refine f_tableIn C (off := 72) (t := 85) dX3_lineBehindStep_13 (by rw [hq_16]; decide) (by rw [hq_16]; decide) (by rw [hq_16]; rfl) (by decide) ?_
    refine f_aload_n C (j := 1) dX3_lineBehindStep_85 rfl rfl rfl ?_
    obtain ⟨hc_15, h⟩ := h
    refine f_getm C tF_X3_9 rfl o97 cn97_4 hc_15.z dX3_lineBehindStep_86 rfl ?_
    refine f_dup C dX3_lineBehindStep_89 rfl rfl ?_
    refine f_geti C tF_X3_81 rfl hc_15.o dX3_lineBehindStep_90 rfl ?_
    refine f_iconst C (v := 1) dX3_lineBehindStep_93 kc1 rfl ?_
    refine f_iload_n C (j := 0) dX3_lineBehindStep_94 rfl rfl rfl ?_
    refine f_ishl C dX3_lineBehindStep_95 rfl ?_
    refine f_ixor C dX3_lineBehindStep_96 rfl ?_
    refine f_puti C tF_X3_81 fm_1_15 rfl hc_15.o dX3_lineBehindStep_97 rfl ?_
    refine f_goto C (t := 154) dX3_lineBehindStep_100 (by decide) ?_
    refine f_iload_n C (j := 3) dX3_lineBehindStep_154 rfl rfl rfl ?_
    refine f_iconst C (v := 1) dX3_lineBehindStep_155 kc1 rfl ?_
    refine f_iadd C dX3_lineBehindStep_156 rfl ?_
    exact f_iret C dX3_lineBehindStep_157 h
  replace h := Eq.mp (if_neg hq_16) h
  by_cases hq_19 : sw_5 = 4
  · replace h := Eq.mp (if_pos hq_19) h
    refine f_tableIn C (off := 90) (t := 103) dX3_lineBehindStep_13 (by rw [hq_19]; decide) (by rw [hq_19]; decide) (by rw [hq_19]; rfl) (by decide) ?_
    refine f_aload_n C (j := 1) dX3_lineBehindStep_103 rfl rfl rfl ?_
    refine f_callVv C (a := 97) (ci := 3) (As := fun B => []) o97 rfl (c_X3_tryJoking   _ _ h) tM_X3_84 tI_X3_tryJoking tS_X3_tryJoking tN_X3 tC_X3_tryJoking 0 dd_X3_tryJoking rfl (by decide) (by decide) rfl (Nat.le_of_ble_eq_true rfl) dX3_lineBehindStep_104 rfl (fun σ_17 h => ?_)
    refine f_goto C (t := 154) dX3_lineBehindStep_107 (by decide) ?_
    refine f_iload_n C (j := 3) dX3_lineBehindStep_154 rfl rfl rfl ?_
    refine f_iconst C (v := 1) dX3_lineBehindStep_155 kc1 rfl ?_
    refine f_iadd C dX3_lineBehindStep_156 rfl ?_
    exact f_iret C dX3_lineBehindStep_157 h
  replace h := Eq.mp (if_neg hq_19) h
  by_cases hq_20 : sw_5 = 5
  · replace h := Eq.mp (if_pos hq_20) h
    refine f_tableIn C (off := 112) (t := 125) dX3_lineBehindStep_13 (by rw [hq_20]; decide) (by rw [hq_20]; decide) (by rw [hq_20]; rfl) (by decide) ?_
    refine f_aload_n C (j := 2) dX3_lineBehindStep_125 rfl rfl rfl ?_
    refine f_geti C tF_X3_49 rfl hs_1.o dX3_lineBehindStep_126 rfl ?_
    exact f_iret C dX3_lineBehindStep_129 h
  replace h := Eq.mp (if_neg hq_20) h
  by_cases hq_21 : sw_5 = 6
  · replace h := Eq.mp (if_pos hq_21) h
    refine f_tableIn C (off := 97) (t := 110) dX3_lineBehindStep_13 (by rw [hq_21]; decide) (by rw [hq_21]; decide) (by rw [hq_21]; rfl) (by decide) ?_
    refine f_aload_n C (j := 1) dX3_lineBehindStep_110 rfl rfl rfl ?_
    refine f_getc C tF_X3_29 rfl o97 cs97_3 (by decide) dX3_lineBehindStep_111 rfl ?_
    refine f_iload_n C (j := 3) dX3_lineBehindStep_114 rfl rfl rfl ?_
    refine f_aload_n C (j := 2) dX3_lineBehindStep_115 rfl rfl rfl ?_
    refine f_getc C tF_X3_68 rfl hs_1.o hs_1.c3 (Nat.succ_ne_zero _) dX3_lineBehindStep_116 rfl ?_
    refine f_iload_n C (j := 3) dX3_lineBehindStep_119 rfl rfl rfl ?_
    refine f_iald C (j := tn x2) hs_1.a3 hi_2 rfl dX3_lineBehindStep_120 rfl ?_
    refine f_iast C (j := tn x2) a99 hi_2 rfl dX3_lineBehindStep_121 rfl ?_
    refine f_goto C (t := 154) dX3_lineBehindStep_122 (by decide) ?_
    refine f_iload_n C (j := 3) dX3_lineBehindStep_154 rfl rfl rfl ?_
    refine f_iconst C (v := 1) dX3_lineBehindStep_155 kc1 rfl ?_
    refine f_iadd C dX3_lineBehindStep_156 rfl ?_
    exact f_iret C dX3_lineBehindStep_157 h
  replace h := Eq.mp (if_neg hq_21) h
  refine f_tableOut C (t := 130) dX3_lineBehindStep_13 (tsw_out (lo := 0) (hi := 6) 7 (by decide) (fun k hk => ?_)) (by decide) ?_
  · match k, hk with
    | 0, _ => exact toInt_ne (by decide) hq_8
    | 1, _ => exact toInt_ne (by decide) hq_11
    | 2, _ => exact toInt_ne (by decide) hq_14
    | 3, _ => exact toInt_ne (by decide) hq_16
    | 4, _ => exact toInt_ne (by decide) hq_19
    | 5, _ => exact toInt_ne (by decide) hq_20
    | 6, _ => exact toInt_ne (by decide) hq_21
  refine f_aload_n C (j := 1) dX3_lineBehindStep_130 rfl rfl rfl ?_
  refine f_aload_n C (j := 2) dX3_lineBehindStep_131 rfl rfl rfl ?_
  refine f_iload_n C (j := 3) dX3_lineBehindStep_132 rfl rfl rfl ?_
  refine f_callVi C (a := 97) (ci := 3) (As := fun B => [.ref (B + a1), .int x2]) o97 rfl (c_X3_isSo  _ _ _ _ h) tM_X3_87 tI_X3_isSo tS_X3_isSo tN_X3 tC_X3_isSo 2 dd_X3_isSo rfl (by decide) (by decide) rfl (Nat.le_of_ble_eq_true rfl) dX3_lineBehindStep_133 rfl (fun r_23 σ_22 h => ?_)
  refine f_if_eq C (t := 145) dX3_lineBehindStep_136 (by decide) rfl (fun hq_24 => ?_) (fun hq_24 => ?_)
  · replace h := Eq.mp (if_pos hq_24) h
    refine f_aload_n C (j := 2) dX3_lineBehindStep_145 rfl rfl rfl ?_
    refine f_getc C tF_X3_62 rfl hs_1.o hs_1.c4 (Nat.succ_ne_zero _) dX3_lineBehindStep_146 rfl ?_
    refine f_iload_n C (j := 3) dX3_lineBehindStep_149 rfl rfl rfl ?_
    refine f_iald C (j := tn x2) hs_1.a4 hi_2 rfl dX3_lineBehindStep_150 rfl ?_
    refine f_iconst C (v := 1) dX3_lineBehindStep_151 kc1 rfl ?_
    refine f_iadd C dX3_lineBehindStep_152 rfl ?_
    exact f_iret C dX3_lineBehindStep_153 h
  · replace h := Eq.mp (if_neg hq_24) h
    refine f_iload_n C (j := 3) dX3_lineBehindStep_139 rfl rfl rfl ?_
    refine f_iconst C (v := 1) dX3_lineBehindStep_140 kc1 rfl ?_
    refine f_iadd C dX3_lineBehindStep_141 rfl ?_
    refine f_goto C (t := 153) dX3_lineBehindStep_142 (by decide) ?_
    exact f_iret C dX3_lineBehindStep_153 h
theorem c_X3_lineBehindStep (a1 : Nat) (x2 : Int32) (σ : Sto) (P : Int32 → Sto → Prop) (h : w_X3_lineBehindStep a1 x2 σ P) : Ct yX3_lineBehindStep cX3_lineBehindStep 4 (some .int) 4 100 (fun B => [.ref (B + 97), .ref (B + a1), .int x2]) σ (QFi P) := Ct.of (by decide) (fun _ => Nat.le_of_ble_eq_true rfl) (fun B E C => s_X3_lineBehindStep C a1 x2 σ h)
def w_X3_goThrough_29 (K29 : Int32 × Int32 × Int32 × Sto → Prop) (a2 : Nat) (x3 : Int32) (x4 : Int32) (x5 : Int32) (σ : Sto) (P : Int32 → Sto → Prop) : Prop :=
  (if 1000000 ≤ x5 then P x3 σ else isStory a2 ∧ (if (gi σ a2 7) ≤ x4 then P x3 σ else vp_in x4 60 ∧ (if (gi σ (a2 + 1) (tn x4)) = 10 then w_X3_lineBehindEnd a2 x4 σ (fun r_19 σ_18 => ∀ x5_20 : Int32, x5_20 = x5 + 1 → K29 (x3, r_19, x5_20, σ_18)) else (if x3 < 300 then ∀ x3_12 : Int32, x3_12 = x3 + 1 → w_X3_lineBehindStep a2 x4 σ (fun r_15 σ_14 => ∀ x5_16 : Int32, x5_16 = x5 + 1 → K29 (x3_12, r_15, x5_16, σ_14)) else P x3 (si σ 98 4 1)))))
theorem s_X3_goThrough_29 {B : Nat} {E : Nat → List (Nat × Value) → List Value → Sto → Prop} {P : Int32 → Sto → Prop} (C : Cy B E RX3 cX3_goThrough 6 (some .int) 5 123 (Zm (QFi P))) (a2 : Nat) (x3 : Int32) (x4 : Int32) (x5 : Int32) (K29 : Int32 × Int32 × Int32 × Sto → Prop) (hK29 : ∀ (x3 : Int32) (x4 : Int32) (x5 : Int32) (σ : Sto), K29 (x3, x4, x5, σ) → E 29 [(0, .ref (B + 97)), (2, .ref (B + a2)), (3, .int x3), (4, .int x4), (5, .int x5)] [] σ) (σ : Sto) (h : w_X3_goThrough_29 K29 a2 x3 x4 x5 σ P) : E 29 [(0, .ref (B + 97)), (2, .ref (B + a2)), (3, .int x3), (4, .int x4), (5, .int x5)] [] σ := by
  unfold w_X3_goThrough_29 at h
  refine f_iload C (j := 4) dX3_goThrough_29 rfl rfl ?_
  refine f_ldc C tK_X3_48 dX3_goThrough_31 rfl ?_
  refine f_icmp_ge C (t := 103) dX3_goThrough_33 (by decide) rfl (fun hq_6 => ?_) (fun hq_6 => ?_)
  · replace h := Eq.mp (if_pos hq_6) h
    refine f_iload_n C (j := 2) dX3_goThrough_103 rfl rfl rfl ?_
    exact f_iret C dX3_goThrough_104 h
  · replace h := Eq.mp (if_neg hq_6) h
    refine f_iload C (j := 3) dX3_goThrough_36 rfl rfl ?_
    refine f_aload_n C (j := 1) dX3_goThrough_38 rfl rfl rfl ?_
    obtain ⟨hs_7, h⟩ := h
    refine f_geti C tF_X3_49 rfl hs_7.o dX3_goThrough_39 rfl ?_
    refine f_icmp_ge C (t := 103) dX3_goThrough_42 (by decide) rfl (fun hq_8 => ?_) (fun hq_8 => ?_)
    · replace h := Eq.mp (if_pos hq_8) h
      refine f_iload_n C (j := 2) dX3_goThrough_103 rfl rfl rfl ?_
      exact f_iret C dX3_goThrough_104 h
    · replace h := Eq.mp (if_neg hq_8) h
      refine f_aload_n C (j := 1) dX3_goThrough_45 rfl rfl rfl ?_
      refine f_getc C tF_X3_52 rfl hs_7.o hs_7.c0 (Nat.succ_ne_zero _) dX3_goThrough_46 rfl ?_
      refine f_iload C (j := 3) dX3_goThrough_49 rfl rfl ?_
      obtain ⟨hi_9, h⟩ := h
      refine f_iald C (j := tn x4) hs_7.a0 hi_9 rfl dX3_goThrough_51 rfl ?_
      refine f_bipush C (v := 10) dX3_goThrough_52 kb10 rfl ?_
      refine f_icmp_ne C (t := 69) dX3_goThrough_54 (by decide) rfl (fun hq_10 => ?_) (fun hq_10 => ?_)
      · replace h := Eq.mp (if_neg hq_10) h
        refine f_iload_n C (j := 2) dX3_goThrough_69 rfl rfl rfl ?_
        refine f_sipush C (v := 300) dX3_goThrough_70 ks300 rfl ?_
        refine f_icmp_lt C (t := 85) dX3_goThrough_73 (by decide) rfl (fun hq_11 => ?_) (fun hq_11 => ?_)
        · replace h := Eq.mp (if_pos hq_11) h
          obtain ⟨x3_12, hx_13⟩ : ∃ y : Int32, y = x3 + 1 := ⟨_, rfl⟩
          replace h := h x3_12 hx_13
          refine f_iinc C (j := 2) (v := x3_12) (lv2 := [(3, .int x3_12), (0, .ref (B + 97)), (2, .ref (B + a2)), (4, .int x4), (5, .int x5)]) dX3_goThrough_85 rfl hx_13.symm (by decide) rfl rfl ?_
          refine f_aload_n C (j := 1) dX3_goThrough_88 rfl rfl rfl ?_
          refine f_aload_n C (j := 2) dX3_goThrough_89 rfl rfl rfl ?_
          refine f_iload C (j := 3) dX3_goThrough_90 rfl rfl ?_
          refine f_callVi C (a := 97) (ci := 3) (As := fun B => [.ref (B + a2), .int x4]) o97 rfl (c_X3_lineBehindStep  _ _ _ _ h) tM_X3_59 tI_X3_lineBehindStep tS_X3_lineBehindStep tN_X3 tC_X3_lineBehindStep 2 dd_X3_lineBehindStep rfl (by decide) (by decide) rfl (Nat.le_of_ble_eq_true rfl) dX3_goThrough_92 rfl (fun r_15 σ_14 h => ?_)
          refine f_istore C (lv2 := [(4, .int r_15), (3, .int x3_12), (0, .ref (B + 97)), (2, .ref (B + a2)), (5, .int x5)]) dX3_goThrough_95 (by decide) rfl rfl ?_
          obtain ⟨x5_16, hx_17⟩ : ∃ y : Int32, y = x5 + 1 := ⟨_, rfl⟩
          replace h := h x5_16 hx_17
          refine f_iinc C (j := 4) (v := x5_16) (lv2 := [(5, .int x5_16), (4, .int r_15), (3, .int x3_12), (0, .ref (B + 97)), (2, .ref (B + a2))]) dX3_goThrough_97 rfl hx_17.symm (by decide) rfl rfl ?_
          refine f_goto C (t := 29) dX3_goThrough_100 (by decide) ?_
          refine f_lv C (lv2 := [(0, .ref (B + 97)), (2, .ref (B + a2)), (3, .int x3_12), (4, .int r_15), (5, .int x5_16)]) [3, 4, 2, 1, 0] rfl ?_
          exact hK29 _ _ _ _ h
        · replace h := Eq.mp (if_neg hq_11) h
          refine f_aload_n C (j := 0) dX3_goThrough_76 rfl rfl rfl ?_
          refine f_getc C tF_X3_23 rfl o97 cs97_2 (by decide) dX3_goThrough_77 rfl ?_
          refine f_iconst C (v := 4) dX3_goThrough_80 kc4 rfl ?_
          refine f_iconst C (v := 1) dX3_goThrough_81 kc1 rfl ?_
          refine f_iast C (j := 4) a98 (vp_lit (by decide)) rfl dX3_goThrough_82 rfl ?_
          refine f_iload_n C (j := 2) dX3_goThrough_83 rfl rfl rfl ?_
          exact f_iret C dX3_goThrough_84 h
      · replace h := Eq.mp (if_pos hq_10) h
        refine f_aload_n C (j := 0) dX3_goThrough_57 rfl rfl rfl ?_
        refine f_aload_n C (j := 1) dX3_goThrough_58 rfl rfl rfl ?_
        refine f_iload C (j := 3) dX3_goThrough_59 rfl rfl ?_
        refine f_callVi C (a := 97) (ci := 3) (As := fun B => [.ref (B + a2), .int x4]) o97 rfl (c_X3_lineBehindEnd  _ _ _ _ h) tM_X3_55 tI_X3_lineBehindEnd tS_X3_lineBehindEnd tN_X3 tC_X3_lineBehindEnd 2 dd_X3_lineBehindEnd rfl (by decide) (by decide) rfl (Nat.le_of_ble_eq_true rfl) dX3_goThrough_61 rfl (fun r_19 σ_18 h => ?_)
        refine f_istore C (lv2 := [(4, .int r_19), (0, .ref (B + 97)), (2, .ref (B + a2)), (3, .int x3), (5, .int x5)]) dX3_goThrough_64 (by decide) rfl rfl ?_
        refine f_goto C (t := 97) dX3_goThrough_66 (by decide) ?_
        obtain ⟨x5_20, hx_21⟩ : ∃ y : Int32, y = x5 + 1 := ⟨_, rfl⟩
        replace h := h x5_20 hx_21
        refine f_iinc C (j := 4) (v := x5_20) (lv2 := [(5, .int x5_20), (4, .int r_19), (0, .ref (B + 97)), (2, .ref (B + a2)), (3, .int x3)]) dX3_goThrough_97 rfl hx_21.symm (by decide) rfl rfl ?_
        refine f_goto C (t := 29) dX3_goThrough_100 (by decide) ?_
        refine f_lv C (lv2 := [(0, .ref (B + 97)), (2, .ref (B + a2)), (3, .int x3), (4, .int r_19), (5, .int x5_20)]) [2, 3, 4, 1, 0] rfl ?_
        exact hK29 _ _ _ _ h
def w_X3_goThrough (x1 : Int32) (σ : Sto) (P : Int32 → Sto → Prop) : Prop :=
  w_J7_fill_53178 98 5 0 σ (fun σ_1 => ∀ σ_3 : Sto, σ_3 = si σ_1 97 5 x1 → isCity (gr σ_3 97 4) ∧ Lp (fun (K : Int32 × Int32 × Int32 × Sto → Prop) s => w_X3_goThrough_29 K ((gr σ_3 97 4) + 8) s.1 s.2.1 s.2.2.1 s.2.2.2 P) (0, 0, 0, σ_3))
theorem s_X3_goThrough {B : Nat} {E : Nat → List (Nat × Value) → List Value → Sto → Prop} {P : Int32 → Sto → Prop} (C : Cy B E RX3 cX3_goThrough 6 (some .int) 5 123 (Zm (QFi P))) (x1 : Int32) (σ : Sto) (h : w_X3_goThrough x1 σ P) : E 0 [(0, .ref (B + 97)), (1, .int x1)] [] σ := by
  unfold w_X3_goThrough at h
  refine f_aload_n C (j := 0) dX3_goThrough_0 rfl rfl rfl ?_
  refine f_getc C tF_X3_23 rfl o97 cs97_2 (by decide) dX3_goThrough_1 rfl ?_
  refine f_iconst C (v := 0) dX3_goThrough_4 kc0 rfl ?_
  refine f_callSv C (As := fun B => [.ref (B + 98), .int 0]) (c_J7_fill_53178  _ _ _ _ _ h) tM_X3_36 tT_J7_fill_53178 tN_J7 tC_J7_fill_53178 2 dd_J7_fill_53178 rfl (by decide) (by decide) rfl (Nat.le_of_ble_eq_true rfl) dX3_goThrough_5 rfl (fun σ_1 h => ?_)
  refine f_aload_n C (j := 0) dX3_goThrough_8 rfl rfl rfl ?_
  refine f_iload_n C (j := 1) dX3_goThrough_9 rfl rfl rfl ?_
  refine f_puti C tF_X3_32 fm_3_5 rfl o97 dX3_goThrough_10 rfl ?_
  refine f_aload_n C (j := 0) dX3_goThrough_13 rfl rfl rfl ?_
  refine f_names (fun σ_3 hσ_4 => ?_)
  replace h := h σ_3 hσ_4
  obtain ⟨hc_5, h⟩ := h
  refine f_getm C tF_X3_9 rfl o97 cn97_4 hc_5.z dX3_goThrough_14 rfl ?_
  refine f_getc C tF_X3_42 rfl hc_5.o hc_5.c7 (Nat.succ_ne_zero _) dX3_goThrough_17 rfl ?_
  refine f_astore_n C (lv2 := [(2, .ref (B + ((gr σ_3 97 4) + 8))), (0, .ref (B + 97)), (1, .int x1)]) dX3_goThrough_20 rfl (by decide) rfl rfl ?_
  refine f_iconst C (v := 0) dX3_goThrough_21 kc0 rfl ?_
  refine f_istore_n C (lv2 := [(3, .int 0), (2, .ref (B + ((gr σ_3 97 4) + 8))), (0, .ref (B + 97)), (1, .int x1)]) dX3_goThrough_22 rfl (by decide) rfl rfl ?_
  refine f_iconst C (v := 0) dX3_goThrough_23 kc0 rfl ?_
  refine f_istore C (lv2 := [(4, .int 0), (3, .int 0), (2, .ref (B + ((gr σ_3 97 4) + 8))), (0, .ref (B + 97)), (1, .int x1)]) dX3_goThrough_24 (by decide) rfl rfl ?_
  refine f_iconst C (v := 0) dX3_goThrough_26 kc0 rfl ?_
  refine f_istore C (lv2 := [(5, .int 0), (4, .int 0), (3, .int 0), (2, .ref (B + ((gr σ_3 97 4) + 8))), (0, .ref (B + 97)), (1, .int x1)]) dX3_goThrough_27 (by decide) rfl rfl ?_
  refine f_lv C (lv2 := [(0, .ref (B + 97)), (2, .ref (B + ((gr σ_3 97 4) + 8))), (3, .int 0), (4, .int 0), (5, .int 0)]) [4, 3, 2, 1, 0] rfl ?_
  exact Lp_sound (fun s : Int32 × Int32 × Int32 × Sto => E 29 [(0, .ref (B + 97)), (2, .ref (B + ((gr σ_3 97 4) + 8))), (3, .int s.1), (4, .int s.2.1), (5, .int s.2.2.1)] [] s.2.2.2) h (fun K s hK h => s_X3_goThrough_29 C ((gr σ_3 97 4) + 8) s.1 s.2.1 s.2.2.1 K (fun x3 x4 x5 σ hk => hK (x3, x4, x5, σ) hk) s.2.2.2 h)
theorem c_X3_goThrough (x1 : Int32) (σ : Sto) (P : Int32 → Sto → Prop) (h : w_X3_goThrough x1 σ P) : Ct yX3_goThrough cX3_goThrough 6 (some .int) 5 123 (fun B => [.ref (B + 97), .int x1]) σ (QFi P) := Ct.of (by decide) (fun _ => Nat.le_of_ble_eq_true rfl) (fun B E C => s_X3_goThrough C x1 σ h)
def w_X4_turnTo (a1 : Nat) (σ : Sto) (P : Sto → Prop) : Prop :=
  isCity a1 ∧ P (sr σ 95 3 a1)
theorem s_X4_turnTo {B : Nat} {E : Nat → List (Nat × Value) → List Value → Sto → Prop} {P : Sto → Prop} (C : Cy B E RX4 cX4_turnTo 2 none 0 0 (Zm (QFv P))) (a1 : Nat) (σ : Sto) (h : w_X4_turnTo a1 σ P) : E 0 [(0, .ref (B + 95)), (1, .ref (B + a1))] [] σ := by
  unfold w_X4_turnTo at h
  refine f_aload_n C (j := 0) dX4_turnTo_0 rfl rfl rfl ?_
  refine f_aload_n C (j := 1) dX4_turnTo_1 rfl rfl rfl ?_
  obtain ⟨hc_1, h⟩ := h
  refine f_putr C tF_X4_9 fm_4_3 rfl hc_1.z cn95_3 o95 dX4_turnTo_2 rfl ?_
  exact f_vret C dX4_turnTo_5 h
theorem c_X4_turnTo (a1 : Nat) (σ : Sto) (P : Sto → Prop) (h : w_X4_turnTo a1 σ P) : Ct yX4_turnTo cX4_turnTo 2 none 0 0 (fun B => [.ref (B + 95), .ref (B + a1)]) σ (QFv P) := Ct.of (by decide) (fun _ => Nat.le_of_ble_eq_true rfl) (fun B E C => s_X4_turnTo C a1 σ h)
def w_X6_fallingWith (x1 : Int32) (σ : Sto) (P : Int32 → Sto → Prop) : Prop :=
  w_X6_atPresent σ (fun r_2 σ_1 => isCity (gr σ_1 88 1) ∧ w_X6_without ((gi σ_1 (gr σ_1 88 1) 14) ||| (1 <<< (x1 &&& 31))) σ_1 (fun r_5 σ_4 => P (r_2 &&& (~~~r_5)) σ_4))
theorem s_X6_fallingWith {B : Nat} {E : Nat → List (Nat × Value) → List Value → Sto → Prop} {P : Int32 → Sto → Prop} (C : Cy B E RX6 cX6_fallingWith 2 (some .int) 3 69 (Zm (QFi P))) (x1 : Int32) (σ : Sto) (h : w_X6_fallingWith x1 σ P) : E 0 [(0, .ref (B + 88)), (1, .int x1)] [] σ := by
  unfold w_X6_fallingWith at h
  refine f_aload_n C (j := 0) dX6_fallingWith_0 rfl rfl rfl ?_
  refine f_callVi C (a := 88) (ci := 6) (As := fun B => []) o88 rfl (c_X6_atPresent   _ _ h) tM_X6_56 tI_X6_atPresent tS_X6_atPresent tN_X6 tC_X6_atPresent 0 dd_X6_atPresent rfl (by decide) (by decide) rfl (Nat.le_of_ble_eq_true rfl) dX6_fallingWith_1 rfl (fun r_2 σ_1 h => ?_)
  refine f_aload_n C (j := 0) dX6_fallingWith_4 rfl rfl rfl ?_
  refine f_aload_n C (j := 0) dX6_fallingWith_5 rfl rfl rfl ?_
  obtain ⟨hc_3, h⟩ := h
  refine f_getm C tF_X6_15 rfl o88 cn88_1 hc_3.z dX6_fallingWith_6 rfl ?_
  refine f_geti C tF_X6_34 rfl hc_3.o dX6_fallingWith_9 rfl ?_
  refine f_iconst C (v := 1) dX6_fallingWith_12 kc1 rfl ?_
  refine f_iload_n C (j := 1) dX6_fallingWith_13 rfl rfl rfl ?_
  refine f_ishl C dX6_fallingWith_14 rfl ?_
  refine f_ior C dX6_fallingWith_15 rfl ?_
  refine f_callVi C (a := 88) (ci := 6) (As := fun B => [.int ((gi σ_1 (gr σ_1 88 1) 14) ||| (1 <<< (x1 &&& 31)))]) o88 rfl (c_X6_without  _ _ _ h) tM_X6_37 tI_X6_without tS_X6_without tN_X6 tC_X6_without 1 dd_X6_without rfl (by decide) (by decide) rfl (Nat.le_of_ble_eq_true rfl) dX6_fallingWith_16 rfl (fun r_5 σ_4 h => ?_)
  refine f_iconst C (v := (-1)) dX6_fallingWith_19 kcm1 rfl ?_
  refine f_inot C dX6_fallingWith_20 rfl ?_
  refine f_iand C dX6_fallingWith_21 rfl ?_
  exact f_iret C dX6_fallingWith_22 h
theorem c_X6_fallingWith (x1 : Int32) (σ : Sto) (P : Int32 → Sto → Prop) (h : w_X6_fallingWith x1 σ P) : Ct yX6_fallingWith cX6_fallingWith 2 (some .int) 3 69 (fun B => [.ref (B + 88), .int x1]) σ (QFi P) := Ct.of (by decide) (fun _ => Nat.le_of_ble_eq_true rfl) (fun B E C => s_X6_fallingWith C x1 σ h)
def w_X4_causesOf_13 (K13 : Int32 × Int32 × Sto → Prop) (x1 : Int32) (x2 : Int32) (x3 : Int32) (x4 : Int32) (σ : Sto) (P : Int32 → Sto → Prop) : Prop :=
  isCity (gr σ 95 3) ∧ (if (gi σ (gr σ 95 3) 8) ≤ x4 then P x3 σ else (if ((x2 >>> (x4 &&& 31)) &&& 1) = 0 then ∀ x4_6 : Int32, x4_6 = x4 + 1 → K13 (x3, x4_6, σ) else w_X6_fallingWith x4 σ (fun r_9 σ_8 => (if r_9 = x1 then ∀ x3_13 : Int32, x3_13 = x3 ||| (1 <<< (x4 &&& 31)) → ∀ x4_15 : Int32, x4_15 = x4 + 1 → K13 (x3_13, x4_15, σ_8) else ∀ x4_11 : Int32, x4_11 = x4 + 1 → K13 (x3, x4_11, σ_8)))))
theorem s_X4_causesOf_13 {B : Nat} {E : Nat → List (Nat × Value) → List Value → Sto → Prop} {P : Int32 → Sto → Prop} (C : Cy B E RX4 cX4_causesOf 5 (some .int) 4 90 (Zm (QFi P))) (x1 : Int32) (x2 : Int32) (x3 : Int32) (x4 : Int32) (K13 : Int32 × Int32 × Sto → Prop) (hK13 : ∀ (x3 : Int32) (x4 : Int32) (σ : Sto), K13 (x3, x4, σ) → E 13 [(0, .ref (B + 95)), (1, .int x1), (2, .int x2), (3, .int x3), (4, .int x4)] [] σ) (σ : Sto) (h : w_X4_causesOf_13 K13 x1 x2 x3 x4 σ P) : E 13 [(0, .ref (B + 95)), (1, .int x1), (2, .int x2), (3, .int x3), (4, .int x4)] [] σ := by
  unfold w_X4_causesOf_13 at h
  refine f_iload C (j := 4) dX4_causesOf_13 rfl rfl ?_
  refine f_aload_n C (j := 0) dX4_causesOf_15 rfl rfl rfl ?_
  obtain ⟨hc_3, h⟩ := h
  refine f_getm C tF_X4_9 rfl o95 cn95_3 hc_3.z dX4_causesOf_16 rfl ?_
  refine f_geti C tF_X4_32 rfl hc_3.o dX4_causesOf_19 rfl ?_
  refine f_icmp_ge C (t := 60) dX4_causesOf_22 (by decide) rfl (fun hq_4 => ?_) (fun hq_4 => ?_)
  · replace h := Eq.mp (if_pos hq_4) h
    refine f_iload_n C (j := 3) dX4_causesOf_60 rfl rfl rfl ?_
    exact f_iret C dX4_causesOf_61 h
  · replace h := Eq.mp (if_neg hq_4) h
    refine f_iload_n C (j := 2) dX4_causesOf_25 rfl rfl rfl ?_
    refine f_iload C (j := 4) dX4_causesOf_26 rfl rfl ?_
    refine f_ishr C dX4_causesOf_28 rfl ?_
    refine f_iconst C (v := 1) dX4_causesOf_29 kc1 rfl ?_
    refine f_iand C dX4_causesOf_30 rfl ?_
    refine f_if_eq C (t := 54) dX4_causesOf_31 (by decide) rfl (fun hq_5 => ?_) (fun hq_5 => ?_)
    · replace h := Eq.mp (if_pos hq_5) h
      obtain ⟨x4_6, hx_7⟩ : ∃ y : Int32, y = x4 + 1 := ⟨_, rfl⟩
      replace h := h x4_6 hx_7
      refine f_iinc C (j := 4) (v := x4_6) (lv2 := [(4, .int x4_6), (0, .ref (B + 95)), (1, .int x1), (2, .int x2), (3, .int x3)]) dX4_causesOf_54 rfl hx_7.symm (by decide) rfl rfl ?_
      refine f_goto C (t := 13) dX4_causesOf_57 (by decide) ?_
      refine f_lv C (lv2 := [(0, .ref (B + 95)), (1, .int x1), (2, .int x2), (3, .int x3), (4, .int x4_6)]) [1, 2, 3, 4, 0] rfl ?_
      exact hK13 _ _ _ h
    · replace h := Eq.mp (if_neg hq_5) h
      refine f_aload_n C (j := 0) dX4_causesOf_34 rfl rfl rfl ?_
      refine f_getc C tF_X4_15 rfl o95 cs95_0 (by decide) dX4_causesOf_35 rfl ?_
      refine f_iload C (j := 4) dX4_causesOf_38 rfl rfl ?_
      refine f_callVi C (a := 88) (ci := 6) (As := fun B => [.int x4]) o88 rfl (c_X6_fallingWith  _ _ _ h) tM_X4_38 tI_X6_fallingWith tS_X6_fallingWith tN_X6 tC_X6_fallingWith 1 dd_X6_fallingWith rfl (by decide) (by decide) rfl (Nat.le_of_ble_eq_true rfl) dX4_causesOf_40 rfl (fun r_9 σ_8 h => ?_)
      refine f_iload_n C (j := 1) dX4_causesOf_43 rfl rfl rfl ?_
      refine f_icmp_ne C (t := 54) dX4_causesOf_44 (by decide) rfl (fun hq_10 => ?_) (fun hq_10 => ?_)
      · replace h := Eq.mp (if_neg hq_10) h
        obtain ⟨x4_11, hx_12⟩ : ∃ y : Int32, y = x4 + 1 := ⟨_, rfl⟩
        replace h := h x4_11 hx_12
        refine f_iinc C (j := 4) (v := x4_11) (lv2 := [(4, .int x4_11), (0, .ref (B + 95)), (1, .int x1), (2, .int x2), (3, .int x3)]) dX4_causesOf_54 rfl hx_12.symm (by decide) rfl rfl ?_
        refine f_goto C (t := 13) dX4_causesOf_57 (by decide) ?_
        refine f_lv C (lv2 := [(0, .ref (B + 95)), (1, .int x1), (2, .int x2), (3, .int x3), (4, .int x4_11)]) [1, 2, 3, 4, 0] rfl ?_
        exact hK13 _ _ _ h
      · replace h := Eq.mp (if_pos hq_10) h
        refine f_iload_n C (j := 3) dX4_causesOf_47 rfl rfl rfl ?_
        refine f_iconst C (v := 1) dX4_causesOf_48 kc1 rfl ?_
        refine f_iload C (j := 4) dX4_causesOf_49 rfl rfl ?_
        refine f_ishl C dX4_causesOf_51 rfl ?_
        refine f_ior C dX4_causesOf_52 rfl ?_
        refine f_name (fun x3_13 hx_14 => ?_)
        replace h := h x3_13 hx_14
        refine f_istore_n C (lv2 := [(3, .int x3_13), (0, .ref (B + 95)), (1, .int x1), (2, .int x2), (4, .int x4)]) dX4_causesOf_53 rfl (by decide) rfl rfl ?_
        obtain ⟨x4_15, hx_16⟩ : ∃ y : Int32, y = x4 + 1 := ⟨_, rfl⟩
        replace h := h x4_15 hx_16
        refine f_iinc C (j := 4) (v := x4_15) (lv2 := [(4, .int x4_15), (3, .int x3_13), (0, .ref (B + 95)), (1, .int x1), (2, .int x2)]) dX4_causesOf_54 rfl hx_16.symm (by decide) rfl rfl ?_
        refine f_goto C (t := 13) dX4_causesOf_57 (by decide) ?_
        refine f_lv C (lv2 := [(0, .ref (B + 95)), (1, .int x1), (2, .int x2), (3, .int x3_13), (4, .int x4_15)]) [2, 3, 4, 1, 0] rfl ?_
        exact hK13 _ _ _ h
def w_X4_causesOf (x1 : Int32) (σ : Sto) (P : Int32 → Sto → Prop) : Prop :=
  w_X6_atPresent σ (fun r_2 σ_1 => Lp (fun (K : Int32 × Int32 × Sto → Prop) s => w_X4_causesOf_13 K x1 r_2 s.1 s.2.1 s.2.2 P) (0, 0, σ_1))
theorem s_X4_causesOf {B : Nat} {E : Nat → List (Nat × Value) → List Value → Sto → Prop} {P : Int32 → Sto → Prop} (C : Cy B E RX4 cX4_causesOf 5 (some .int) 4 90 (Zm (QFi P))) (x1 : Int32) (σ : Sto) (h : w_X4_causesOf x1 σ P) : E 0 [(0, .ref (B + 95)), (1, .int x1)] [] σ := by
  unfold w_X4_causesOf at h
  refine f_aload_n C (j := 0) dX4_causesOf_0 rfl rfl rfl ?_
  refine f_getc C tF_X4_15 rfl o95 cs95_0 (by decide) dX4_causesOf_1 rfl ?_
  refine f_callVi C (a := 88) (ci := 6) (As := fun B => []) o88 rfl (c_X6_atPresent   _ _ h) tM_X4_26 tI_X6_atPresent tS_X6_atPresent tN_X6 tC_X6_atPresent 0 dd_X6_atPresent rfl (by decide) (by decide) rfl (Nat.le_of_ble_eq_true rfl) dX4_causesOf_4 rfl (fun r_2 σ_1 h => ?_)
  refine f_istore_n C (lv2 := [(2, .int r_2), (0, .ref (B + 95)), (1, .int x1)]) dX4_causesOf_7 rfl (by decide) rfl rfl ?_
  refine f_iconst C (v := 0) dX4_causesOf_8 kc0 rfl ?_
  refine f_istore_n C (lv2 := [(3, .int 0), (2, .int r_2), (0, .ref (B + 95)), (1, .int x1)]) dX4_causesOf_9 rfl (by decide) rfl rfl ?_
  refine f_iconst C (v := 0) dX4_causesOf_10 kc0 rfl ?_
  refine f_istore C (lv2 := [(4, .int 0), (3, .int 0), (2, .int r_2), (0, .ref (B + 95)), (1, .int x1)]) dX4_causesOf_11 (by decide) rfl rfl ?_
  refine f_lv C (lv2 := [(0, .ref (B + 95)), (1, .int x1), (2, .int r_2), (3, .int 0), (4, .int 0)]) [3, 4, 2, 1, 0] rfl ?_
  exact Lp_sound (fun s : Int32 × Int32 × Sto => E 13 [(0, .ref (B + 95)), (1, .int x1), (2, .int r_2), (3, .int s.1), (4, .int s.2.1)] [] s.2.2) h (fun K s hK h => s_X4_causesOf_13 C x1 r_2 s.1 s.2.1 K (fun x3 x4 σ hk => hK (x3, x4, σ) hk) s.2.2 h)
theorem c_X4_causesOf (x1 : Int32) (σ : Sto) (P : Int32 → Sto → Prop) (h : w_X4_causesOf x1 σ P) : Ct yX4_causesOf cX4_causesOf 5 (some .int) 4 90 (fun B => [.ref (B + 95), .int x1]) σ (QFi P) := Ct.of (by decide) (fun _ => Nat.le_of_ble_eq_true rfl) (fun B E C => s_X4_causesOf C x1 σ h)
def w_X4_findFelling_45 (K10 : Int32 × Sto → Prop) (K45 : Int32 × Sto → Prop) (x1 : Int32) (x2 : Int32) (x3 : Int32) (x4 : Int32) (σ : Sto) (P : Sto → Prop) : Prop :=
  isCity (gr σ 95 3) ∧ (if (gi σ (gr σ 95 3) 8) ≤ x4 then ∀ x2_8 : Int32, x2_8 = x2 + 1 → K10 (x2_8, σ) else vp_in x4 12 ∧ ∀ x4_11 : Int32, x4_11 = x4 + 1 → K45 (x4_11, si σ 96 (tn x4) ((gi σ 96 (tn x4)) ||| (((x3 >>> (x4 &&& 31)) &&& 1) <<< (x2 &&& 31)))))
theorem s_X4_findFelling_45 {B : Nat} {E : Nat → List (Nat × Value) → List Value → Sto → Prop} {P : Sto → Prop} (C : Cy B E RX4 cX4_findFelling 5 none 4 90 (Zm (QFv P))) (x1 : Int32) (x2 : Int32) (x3 : Int32) (x4 : Int32) (K10 : Int32 × Sto → Prop) (K45 : Int32 × Sto → Prop) (hK10 : ∀ (x2 : Int32) (σ : Sto), K10 (x2, σ) → E 10 [(0, .ref (B + 95)), (1, .int x1), (2, .int x2)] [] σ) (hK45 : ∀ (x4 : Int32) (σ : Sto), K45 (x4, σ) → E 45 [(0, .ref (B + 95)), (1, .int x1), (2, .int x2), (3, .int x3), (4, .int x4)] [] σ) (σ : Sto) (h : w_X4_findFelling_45 K10 K45 x1 x2 x3 x4 σ P) : E 45 [(0, .ref (B + 95)), (1, .int x1), (2, .int x2), (3, .int x3), (4, .int x4)] [] σ := by
  unfold w_X4_findFelling_45 at h
  refine f_iload C (j := 4) dX4_findFelling_45 rfl rfl ?_
  refine f_aload_n C (j := 0) dX4_findFelling_47 rfl rfl rfl ?_
  obtain ⟨hc_6, h⟩ := h
  refine f_getm C tF_X4_9 rfl o95 cn95_3 hc_6.z dX4_findFelling_48 rfl ?_
  refine f_geti C tF_X4_32 rfl hc_6.o dX4_findFelling_51 rfl ?_
  refine f_icmp_ge C (t := 81) dX4_findFelling_54 (by decide) rfl (fun hq_7 => ?_) (fun hq_7 => ?_)
  · replace h := Eq.mp (if_pos hq_7) h
    obtain ⟨x2_8, hx_9⟩ : ∃ y : Int32, y = x2 + 1 := ⟨_, rfl⟩
    replace h := h x2_8 hx_9
    refine f_iinc C (j := 2) (v := x2_8) (lv2 := [(2, .int x2_8), (0, .ref (B + 95)), (1, .int x1), (3, .int x3), (4, .int x4)]) dX4_findFelling_81 rfl hx_9.symm (by decide) rfl rfl ?_
    refine f_goto C (t := 10) dX4_findFelling_84 (by decide) ?_
    refine f_lv C (lv2 := [(0, .ref (B + 95)), (1, .int x1), (2, .int x2_8)]) [1, 2, 0] rfl ?_
    exact hK10 _ _ h
  · replace h := Eq.mp (if_neg hq_7) h
    refine f_aload_n C (j := 0) dX4_findFelling_57 rfl rfl rfl ?_
    refine f_getc C tF_X4_23 rfl o95 cs95_2 (by decide) dX4_findFelling_58 rfl ?_
    refine f_iload C (j := 4) dX4_findFelling_61 rfl rfl ?_
    refine f_dup2 C dX4_findFelling_63 rfl rfl rfl ?_
    obtain ⟨hi_10, h⟩ := h
    refine f_iald C (j := tn x4) a96 hi_10 rfl dX4_findFelling_64 rfl ?_
    refine f_iload_n C (j := 3) dX4_findFelling_65 rfl rfl rfl ?_
    refine f_iload C (j := 4) dX4_findFelling_66 rfl rfl ?_
    refine f_ishr C dX4_findFelling_68 rfl ?_
    refine f_iconst C (v := 1) dX4_findFelling_69 kc1 rfl ?_
    refine f_iand C dX4_findFelling_70 rfl ?_
    refine f_iload_n C (j := 2) dX4_findFelling_71 rfl rfl rfl ?_
    refine f_ishl C dX4_findFelling_72 rfl ?_
    refine f_ior C dX4_findFelling_73 rfl ?_
    refine f_iast C (j := tn x4) a96 hi_10 rfl dX4_findFelling_74 rfl ?_
    obtain ⟨x4_11, hx_12⟩ : ∃ y : Int32, y = x4 + 1 := ⟨_, rfl⟩
    replace h := h x4_11 hx_12
    refine f_iinc C (j := 4) (v := x4_11) (lv2 := [(4, .int x4_11), (0, .ref (B + 95)), (1, .int x1), (2, .int x2), (3, .int x3)]) dX4_findFelling_75 rfl hx_12.symm (by decide) rfl rfl ?_
    refine f_goto C (t := 45) dX4_findFelling_78 (by decide) ?_
    refine f_lv C (lv2 := [(0, .ref (B + 95)), (1, .int x1), (2, .int x2), (3, .int x3), (4, .int x4_11)]) [1, 2, 3, 4, 0] rfl ?_
    exact hK45 _ _ h
def w_X4_findFelling_10 (K10 : Int32 × Sto → Prop) (x1 : Int32) (x2 : Int32) (σ : Sto) (P : Sto → Prop) : Prop :=
  isCity (gr σ 95 3) ∧ (if (gi σ (gr σ 95 3) 8) ≤ x2 then P σ else (if ((x1 >>> (x2 &&& 31)) &&& 1) = 0 then Lp (fun (K : Int32 × Sto → Prop) s => w_X4_findFelling_45 K10 K x1 x2 0 s.1 s.2 P) (0, σ) else w_X6_fallingWith x2 σ (fun r_14 σ_13 => Lp (fun (K : Int32 × Sto → Prop) s => w_X4_findFelling_45 K10 K x1 x2 r_14 s.1 s.2 P) (0, σ_13))))
theorem s_X4_findFelling_10 {B : Nat} {E : Nat → List (Nat × Value) → List Value → Sto → Prop} {P : Sto → Prop} (C : Cy B E RX4 cX4_findFelling 5 none 4 90 (Zm (QFv P))) (x1 : Int32) (x2 : Int32) (K10 : Int32 × Sto → Prop) (hK10 : ∀ (x2 : Int32) (σ : Sto), K10 (x2, σ) → E 10 [(0, .ref (B + 95)), (1, .int x1), (2, .int x2)] [] σ) (σ : Sto) (h : w_X4_findFelling_10 K10 x1 x2 σ P) : E 10 [(0, .ref (B + 95)), (1, .int x1), (2, .int x2)] [] σ := by
  unfold w_X4_findFelling_10 at h
  refine f_iload_n C (j := 2) dX4_findFelling_10 rfl rfl rfl ?_
  refine f_aload_n C (j := 0) dX4_findFelling_11 rfl rfl rfl ?_
  obtain ⟨hc_3, h⟩ := h
  refine f_getm C tF_X4_9 rfl o95 cn95_3 hc_3.z dX4_findFelling_12 rfl ?_
  refine f_geti C tF_X4_32 rfl hc_3.o dX4_findFelling_15 rfl ?_
  refine f_icmp_ge C (t := 87) dX4_findFelling_18 (by decide) rfl (fun hq_4 => ?_) (fun hq_4 => ?_)
  · replace h := Eq.mp (if_pos hq_4) h
    exact f_vret C dX4_findFelling_87 h
  · replace h := Eq.mp (if_neg hq_4) h
    refine f_iload_n C (j := 1) dX4_findFelling_21 rfl rfl rfl ?_
    refine f_iload_n C (j := 2) dX4_findFelling_22 rfl rfl rfl ?_
    refine f_ishr C dX4_findFelling_23 rfl ?_
    refine f_iconst C (v := 1) dX4_findFelling_24 kc1 rfl ?_
    refine f_iand C dX4_findFelling_25 rfl ?_
    refine f_if_eq C (t := 40) dX4_findFelling_26 (by decide) rfl (fun hq_5 => ?_) (fun hq_5 => ?_)
    · replace h := Eq.mp (if_pos hq_5) h
      refine f_iconst C (v := 0) dX4_findFelling_40 kc0 rfl ?_
      refine f_istore_n C (lv2 := [(3, .int 0), (0, .ref (B + 95)), (1, .int x1), (2, .int x2)]) dX4_findFelling_41 rfl (by decide) rfl rfl ?_
      refine f_iconst C (v := 0) dX4_findFelling_42 kc0 rfl ?_
      refine f_istore C (lv2 := [(4, .int 0), (3, .int 0), (0, .ref (B + 95)), (1, .int x1), (2, .int x2)]) dX4_findFelling_43 (by decide) rfl rfl ?_
      refine f_lv C (lv2 := [(0, .ref (B + 95)), (1, .int x1), (2, .int x2), (3, .int 0), (4, .int 0)]) [2, 3, 4, 1, 0] rfl ?_
      exact Lp_sound (fun s : Int32 × Sto => E 45 [(0, .ref (B + 95)), (1, .int x1), (2, .int x2), (3, .int 0), (4, .int s.1)] [] s.2) h (fun K s hK h => s_X4_findFelling_45 C x1 x2 0 s.1 K10 K hK10 (fun x4 σ hk => hK (x4, σ) hk) s.2 h)
    · replace h := Eq.mp (if_neg hq_5) h
      refine f_aload_n C (j := 0) dX4_findFelling_29 rfl rfl rfl ?_
      refine f_getc C tF_X4_15 rfl o95 cs95_0 (by decide) dX4_findFelling_30 rfl ?_
      refine f_iload_n C (j := 2) dX4_findFelling_33 rfl rfl rfl ?_
      refine f_callVi C (a := 88) (ci := 6) (As := fun B => [.int x2]) o88 rfl (c_X6_fallingWith  _ _ _ h) tM_X4_38 tI_X6_fallingWith tS_X6_fallingWith tN_X6 tC_X6_fallingWith 1 dd_X6_fallingWith rfl (by decide) (by decide) rfl (Nat.le_of_ble_eq_true rfl) dX4_findFelling_34 rfl (fun r_14 σ_13 h => ?_)
      refine f_goto C (t := 41) dX4_findFelling_37 (by decide) ?_
      refine f_istore_n C (lv2 := [(3, .int r_14), (0, .ref (B + 95)), (1, .int x1), (2, .int x2)]) dX4_findFelling_41 rfl (by decide) rfl rfl ?_
      refine f_iconst C (v := 0) dX4_findFelling_42 kc0 rfl ?_
      refine f_istore C (lv2 := [(4, .int 0), (3, .int r_14), (0, .ref (B + 95)), (1, .int x1), (2, .int x2)]) dX4_findFelling_43 (by decide) rfl rfl ?_
      refine f_lv C (lv2 := [(0, .ref (B + 95)), (1, .int x1), (2, .int x2), (3, .int r_14), (4, .int 0)]) [2, 3, 4, 1, 0] rfl ?_
      exact Lp_sound (fun s : Int32 × Sto => E 45 [(0, .ref (B + 95)), (1, .int x1), (2, .int x2), (3, .int r_14), (4, .int s.1)] [] s.2) h (fun K s hK h => s_X4_findFelling_45 C x1 x2 r_14 s.1 K10 K hK10 (fun x4 σ hk => hK (x4, σ) hk) s.2 h)
def w_X4_findFelling (x1 : Int32) (σ : Sto) (P : Sto → Prop) : Prop :=
  w_J7_fill_53178 96 12 0 σ (fun σ_1 => Lp (fun (K : Int32 × Sto → Prop) s => w_X4_findFelling_10 K x1 s.1 s.2 P) (0, σ_1))
theorem s_X4_findFelling {B : Nat} {E : Nat → List (Nat × Value) → List Value → Sto → Prop} {P : Sto → Prop} (C : Cy B E RX4 cX4_findFelling 5 none 4 90 (Zm (QFv P))) (x1 : Int32) (σ : Sto) (h : w_X4_findFelling x1 σ P) : E 0 [(0, .ref (B + 95)), (1, .int x1)] [] σ := by
  unfold w_X4_findFelling at h
  refine f_aload_n C (j := 0) dX4_findFelling_0 rfl rfl rfl ?_
  refine f_getc C tF_X4_23 rfl o95 cs95_2 (by decide) dX4_findFelling_1 rfl ?_
  refine f_iconst C (v := 0) dX4_findFelling_4 kc0 rfl ?_
  refine f_callSv C (As := fun B => [.ref (B + 96), .int 0]) (c_J7_fill_53178  _ _ _ _ _ h) tM_X4_42 tT_J7_fill_53178 tN_J7 tC_J7_fill_53178 2 dd_J7_fill_53178 rfl (by decide) (by decide) rfl (Nat.le_of_ble_eq_true rfl) dX4_findFelling_5 rfl (fun σ_1 h => ?_)
  refine f_iconst C (v := 0) dX4_findFelling_8 kc0 rfl ?_
  refine f_istore_n C (lv2 := [(2, .int 0), (0, .ref (B + 95)), (1, .int x1)]) dX4_findFelling_9 rfl (by decide) rfl rfl ?_
  refine f_lv C (lv2 := [(0, .ref (B + 95)), (1, .int x1), (2, .int 0)]) [1, 2, 0] rfl ?_
  exact Lp_sound (fun s : Int32 × Sto => E 10 [(0, .ref (B + 95)), (1, .int x1), (2, .int s.1)] [] s.2) h (fun K s hK h => s_X4_findFelling_10 C x1 s.1 K (fun x2 σ hk => hK (x2, σ) hk) s.2 h)
theorem c_X4_findFelling (x1 : Int32) (σ : Sto) (P : Sto → Prop) (h : w_X4_findFelling x1 σ P) : Ct yX4_findFelling cX4_findFelling 5 none 4 90 (fun B => [.ref (B + 95), .int x1]) σ (QFv P) := Ct.of (by decide) (fun _ => Nat.le_of_ble_eq_true rfl) (fun B E C => s_X4_findFelling C x1 σ h)
def w_X4_bestLook_15 (K15 : Int32 × Int32 × Int32 × Sto → Prop) (x1 : Int32) (x2 : Int32) (x3 : Int32) (x4 : Int32) (σ : Sto) (P : Int32 → Sto → Prop) : Prop :=
  isCity (gr σ 95 3) ∧ (if (gi σ (gr σ 95 3) 8) ≤ x4 then P x2 σ else vp_in x4 12 ∧ w_J6_bitCount_0f7a4 (x1 &&& (gi σ 96 (tn x4))) σ (fun r_9 σ_8 => w_J6_bitCount_0f7a4 (x1 &&& (~~~(gi σ_8 96 (tn x4)))) σ_8 (fun r_11 σ_10 => ∀ x5_12 : Int32, x5_12 = (if r_9 < r_11 then r_11 else r_9) → (if x3 ≤ x5_12 then ∀ x4_15 : Int32, x4_15 = x4 + 1 → K15 (x2, x3, x4_15, σ_10) else ∀ x4_17 : Int32, x4_17 = x4 + 1 → K15 (x4, x5_12, x4_17, σ_10)))))
theorem s_X4_bestLook_15 {B : Nat} {E : Nat → List (Nat × Value) → List Value → Sto → Prop} {P : Int32 → Sto → Prop} (C : Cy B E RX4 cX4_bestLook 6 (some .int) 5 114 (Zm (QFi P))) (x1 : Int32) (x2 : Int32) (x3 : Int32) (x4 : Int32) (K15 : Int32 × Int32 × Int32 × Sto → Prop) (hK15 : ∀ (x2 : Int32) (x3 : Int32) (x4 : Int32) (σ : Sto), K15 (x2, x3, x4, σ) → E 15 [(0, .ref (B + 95)), (1, .int x1), (2, .int x2), (3, .int x3), (4, .int x4)] [] σ) (σ : Sto) (h : w_X4_bestLook_15 K15 x1 x2 x3 x4 σ P) : E 15 [(0, .ref (B + 95)), (1, .int x1), (2, .int x2), (3, .int x3), (4, .int x4)] [] σ := by
  unfold w_X4_bestLook_15 at h
  refine f_iload C (j := 4) dX4_bestLook_15 rfl rfl ?_
  refine f_aload_n C (j := 0) dX4_bestLook_17 rfl rfl rfl ?_
  obtain ⟨hc_5, h⟩ := h
  refine f_getm C tF_X4_9 rfl o95 cn95_3 hc_5.z dX4_bestLook_18 rfl ?_
  refine f_geti C tF_X4_32 rfl hc_5.o dX4_bestLook_21 rfl ?_
  refine f_icmp_ge C (t := 76) dX4_bestLook_24 (by decide) rfl (fun hq_6 => ?_) (fun hq_6 => ?_)
  · replace h := Eq.mp (if_pos hq_6) h
    refine f_iload_n C (j := 2) dX4_bestLook_76 rfl rfl rfl ?_
    exact f_iret C dX4_bestLook_77 h
  · replace h := Eq.mp (if_neg hq_6) h
    refine f_iload_n C (j := 1) dX4_bestLook_27 rfl rfl rfl ?_
    refine f_aload_n C (j := 0) dX4_bestLook_28 rfl rfl rfl ?_
    refine f_getc C tF_X4_23 rfl o95 cs95_2 (by decide) dX4_bestLook_29 rfl ?_
    refine f_iload C (j := 4) dX4_bestLook_32 rfl rfl ?_
    obtain ⟨hi_7, h⟩ := h
    refine f_iald C (j := tn x4) a96 hi_7 rfl dX4_bestLook_34 rfl ?_
    refine f_iand C dX4_bestLook_35 rfl ?_
    refine f_callSi C (As := fun B => [.int (x1 &&& (gi σ 96 (tn x4)))]) (c_J6_bitCount_0f7a4  _ _ _ h) tM_X4_52 tT_J6_bitCount_0f7a4 tN_J6 tC_J6_bitCount_0f7a4 1 dd_J6_bitCount_0f7a4 rfl (by decide) (by decide) rfl (Nat.le_of_ble_eq_true rfl) dX4_bestLook_36 rfl (fun r_9 σ_8 h => ?_)
    refine f_iload_n C (j := 1) dX4_bestLook_39 rfl rfl rfl ?_
    refine f_aload_n C (j := 0) dX4_bestLook_40 rfl rfl rfl ?_
    refine f_getc C tF_X4_23 rfl o95 cs95_2 (by decide) dX4_bestLook_41 rfl ?_
    refine f_iload C (j := 4) dX4_bestLook_44 rfl rfl ?_
    refine f_iald C (j := tn x4) a96 hi_7 rfl dX4_bestLook_46 rfl ?_
    refine f_iconst C (v := (-1)) dX4_bestLook_47 kcm1 rfl ?_
    refine f_inot C dX4_bestLook_48 rfl ?_
    refine f_iand C dX4_bestLook_49 rfl ?_
    refine f_callSi C (As := fun B => [.int (x1 &&& (~~~(gi σ_8 96 (tn x4))))]) (c_J6_bitCount_0f7a4  _ _ _ h) tM_X4_52 tT_J6_bitCount_0f7a4 tN_J6 tC_J6_bitCount_0f7a4 1 dd_J6_bitCount_0f7a4 rfl (by decide) (by decide) rfl (Nat.le_of_ble_eq_true rfl) dX4_bestLook_50 rfl (fun r_11 σ_10 h => ?_)
    refine f_mmax C tM_X4_57 tT_J9_max_7cf53 tN_J9 tC_J9_max_7cf53 (by decide) (by decide) (Nat.le_of_ble_eq_true rfl) dX4_bestLook_53 rfl ?_
    refine f_name (fun x5_12 hx_13 => ?_)
    replace h := h x5_12 hx_13
    refine f_istore C (lv2 := [(5, .int x5_12), (0, .ref (B + 95)), (1, .int x1), (2, .int x2), (3, .int x3), (4, .int x4)]) dX4_bestLook_56 (by decide) rfl rfl ?_
    refine f_iload C (j := 0) dX4_bestLook_58 rfl rfl ?_
    refine f_iload_n C (j := 4) dX4_bestLook_60 rfl rfl rfl ?_
    refine f_icmp_ge C (t := 70) dX4_bestLook_61 (by decide) rfl (fun hq_14 => ?_) (fun hq_14 => ?_)
    · replace h := Eq.mp (if_pos hq_14) h
      obtain ⟨x4_15, hx_16⟩ : ∃ y : Int32, y = x4 + 1 := ⟨_, rfl⟩
      replace h := h x4_15 hx_16
      refine f_iinc C (j := 5) (v := x4_15) (lv2 := [(4, .int x4_15), (5, .int x5_12), (0, .ref (B + 95)), (1, .int x1), (2, .int x2), (3, .int x3)]) dX4_bestLook_70 rfl hx_16.symm (by decide) rfl rfl ?_
      refine f_goto C (t := 15) dX4_bestLook_73 (by decide) ?_
      refine f_lv C (lv2 := [(0, .ref (B + 95)), (1, .int x1), (2, .int x2), (3, .int x3), (4, .int x4_15)]) [2, 3, 4, 5, 0] rfl ?_
      exact hK15 _ _ _ _ h
    · replace h := Eq.mp (if_neg hq_14) h
      refine f_iload C (j := 0) dX4_bestLook_64 rfl rfl ?_
      refine f_istore_n C (lv2 := [(3, .int x5_12), (5, .int x5_12), (0, .ref (B + 95)), (1, .int x1), (2, .int x2), (4, .int x4)]) dX4_bestLook_66 rfl (by decide) rfl rfl ?_
      refine f_iload C (j := 5) dX4_bestLook_67 rfl rfl ?_
      refine f_istore_n C (lv2 := [(2, .int x4), (3, .int x5_12), (5, .int x5_12), (0, .ref (B + 95)), (1, .int x1), (4, .int x4)]) dX4_bestLook_69 rfl (by decide) rfl rfl ?_
      obtain ⟨x4_17, hx_18⟩ : ∃ y : Int32, y = x4 + 1 := ⟨_, rfl⟩
      replace h := h x4_17 hx_18
      refine f_iinc C (j := 5) (v := x4_17) (lv2 := [(4, .int x4_17), (2, .int x4), (3, .int x5_12), (5, .int x5_12), (0, .ref (B + 95)), (1, .int x1)]) dX4_bestLook_70 rfl hx_18.symm (by decide) rfl rfl ?_
      refine f_goto C (t := 15) dX4_bestLook_73 (by decide) ?_
      refine f_lv C (lv2 := [(0, .ref (B + 95)), (1, .int x1), (2, .int x4), (3, .int x5_12), (4, .int x4_17)]) [4, 5, 1, 2, 0] rfl ?_
      exact hK15 _ _ _ _ h
def w_X4_bestLook (x1 : Int32) (σ : Sto) (P : Int32 → Sto → Prop) : Prop :=
  w_X4_findFelling x1 σ (fun σ_1 => w_J6_bitCount_0f7a4 x1 σ_1 (fun r_4 σ_3 => Lp (fun (K : Int32 × Int32 × Int32 × Sto → Prop) s => w_X4_bestLook_15 K x1 s.1 s.2.1 s.2.2.1 s.2.2.2 P) ((-1), r_4, 0, σ_3)))
theorem s_X4_bestLook {B : Nat} {E : Nat → List (Nat × Value) → List Value → Sto → Prop} {P : Int32 → Sto → Prop} (C : Cy B E RX4 cX4_bestLook 6 (some .int) 5 114 (Zm (QFi P))) (x1 : Int32) (σ : Sto) (h : w_X4_bestLook x1 σ P) : E 0 [(0, .ref (B + 95)), (1, .int x1)] [] σ := by
  unfold w_X4_bestLook at h
  refine f_aload_n C (j := 0) dX4_bestLook_0 rfl rfl rfl ?_
  refine f_iload_n C (j := 1) dX4_bestLook_1 rfl rfl rfl ?_
  refine f_callVv C (a := 95) (ci := 4) (As := fun B => [.int x1]) o95 rfl (c_X4_findFelling  _ _ _ h) tM_X4_48 tI_X4_findFelling tS_X4_findFelling tN_X4 tC_X4_findFelling 1 dd_X4_findFelling rfl (by decide) (by decide) rfl (Nat.le_of_ble_eq_true rfl) dX4_bestLook_2 rfl (fun σ_1 h => ?_)
  refine f_iconst C (v := (-1)) dX4_bestLook_5 kcm1 rfl ?_
  refine f_istore_n C (lv2 := [(2, .int (-1)), (0, .ref (B + 95)), (1, .int x1)]) dX4_bestLook_6 rfl (by decide) rfl rfl ?_
  refine f_iload_n C (j := 2) dX4_bestLook_7 rfl rfl rfl ?_
  refine f_callSi C (As := fun B => [.int x1]) (c_J6_bitCount_0f7a4  _ _ _ h) tM_X4_52 tT_J6_bitCount_0f7a4 tN_J6 tC_J6_bitCount_0f7a4 1 dd_J6_bitCount_0f7a4 rfl (by decide) (by decide) rfl (Nat.le_of_ble_eq_true rfl) dX4_bestLook_8 rfl (fun r_4 σ_3 h => ?_)
  refine f_istore_n C (lv2 := [(3, .int r_4), (2, .int (-1)), (0, .ref (B + 95)), (1, .int x1)]) dX4_bestLook_11 rfl (by decide) rfl rfl ?_
  refine f_iconst C (v := 0) dX4_bestLook_12 kc0 rfl ?_
  refine f_istore C (lv2 := [(4, .int 0), (3, .int r_4), (2, .int (-1)), (0, .ref (B + 95)), (1, .int x1)]) dX4_bestLook_13 (by decide) rfl rfl ?_
  refine f_lv C (lv2 := [(0, .ref (B + 95)), (1, .int x1), (2, .int (-1)), (3, .int r_4), (4, .int 0)]) [3, 4, 2, 1, 0] rfl ?_
  exact Lp_sound (fun s : Int32 × Int32 × Int32 × Sto => E 15 [(0, .ref (B + 95)), (1, .int x1), (2, .int s.1), (3, .int s.2.1), (4, .int s.2.2.1)] [] s.2.2.2) h (fun K s hK h => s_X4_bestLook_15 C x1 s.1 s.2.1 s.2.2.1 K (fun x2 x3 x4 σ hk => hK (x2, x3, x4, σ) hk) s.2.2.2 h)
theorem c_X4_bestLook (x1 : Int32) (σ : Sto) (P : Int32 → Sto → Prop) (h : w_X4_bestLook x1 σ P) : Ct yX4_bestLook cX4_bestLook 6 (some .int) 5 114 (fun B => [.ref (B + 95), .int x1]) σ (QFi P) := Ct.of (by decide) (fun _ => Nat.le_of_ble_eq_true rfl) (fun B E C => s_X4_bestLook C x1 σ h)
def w_X4_looksFor_39 (rec : Int32 → Int32 → Sto → (Int32 → Sto → Prop) → Prop) (K39 : Int32 × Int32 × Sto → Prop) (x1 : Int32) (x2 : Int32) (x3 : Int32) (x4 : Int32) (σ : Sto) (P : Int32 → Sto → Prop) : Prop :=
  isCity (gr σ 95 3) ∧ (if (gi σ (gr σ 95 3) 8) ≤ x4 then vp_in x1 4096 ∧ P x3 (si σ 87 (tn x1) x3) else vp_in x4 12 ∧ ∀ x5_11 : Int32, x5_11 = x1 &&& (gi σ 96 (tn x4)) → (if x5_11 = 0 then ∀ x4_14 : Int32, x4_14 = x4 + 1 → K39 (x3, x4_14, σ) else (if x5_11 = x1 then ∀ x4_17 : Int32, x4_17 = x4 + 1 → K39 (x3, x4_17, σ) else rec x5_11 (x2 + 1) σ (fun r_20 σ_19 => rec (x1 &&& (~~~x5_11)) (x2 + 1) σ_19 (fun r_22 σ_21 => ∀ x3_23 : Int32, x3_23 = (if (1 + (if r_20 < r_22 then r_22 else r_20)) < x3 then (1 + (if r_20 < r_22 then r_22 else r_20)) else x3) → ∀ x4_25 : Int32, x4_25 = x4 + 1 → K39 (x3_23, x4_25, σ_21))))))
theorem s_X4_looksFor_39 {B : Nat} {E : Nat → List (Nat × Value) → List Value → Sto → Prop} (rec : Int32 → Int32 → Sto → (Int32 → Sto → Prop) → Prop) (n : Nat) (hrec : ∀ (x1 : Int32) (x2 : Int32) (σ : Sto) (P : Int32 → Sto → Prop), rec x1 x2 σ P → Ct yX4_looksFor cX4_looksFor 6 (some .int) (1 + n) (21 + n * 25) (fun B => [.ref (B + 95), .int x1, .int x2]) σ (QFi P)) {P : Int32 → Sto → Prop} (C : Cy B E RX4 cX4_looksFor 6 (some .int) (1 + (n + 1)) (21 + (n + 1) * 25) (Zm (QFi P))) (x1 : Int32) (x2 : Int32) (x3 : Int32) (x4 : Int32) (K39 : Int32 × Int32 × Sto → Prop) (hK39 : ∀ (x3 : Int32) (x4 : Int32) (σ : Sto), K39 (x3, x4, σ) → E 39 [(0, .ref (B + 95)), (1, .int x1), (2, .int x2), (3, .int x3), (4, .int x4)] [] σ) (σ : Sto) (h : w_X4_looksFor_39 rec K39 x1 x2 x3 x4 σ P) : E 39 [(0, .ref (B + 95)), (1, .int x1), (2, .int x2), (3, .int x3), (4, .int x4)] [] σ := by
  unfold w_X4_looksFor_39 at h
  refine f_iload C (j := 4) dX4_looksFor_39 rfl rfl ?_
  refine f_aload_n C (j := 0) dX4_looksFor_41 rfl rfl rfl ?_
  obtain ⟨hc_7, h⟩ := h
  refine f_getm C tF_X4_9 rfl o95 cn95_3 hc_7.z dX4_looksFor_42 rfl ?_
  refine f_geti C tF_X4_32 rfl hc_7.o dX4_looksFor_45 rfl ?_
  refine f_icmp_ge C (t := 111) dX4_looksFor_48 (by decide) rfl (fun hq_8 => ?_) (fun hq_8 => ?_)
  · replace h := Eq.mp (if_pos hq_8) h
    refine f_aload_n C (j := 0) dX4_looksFor_111 rfl rfl rfl ?_
    refine f_getc C tF_X4_19 rfl o95 cs95_1 (by decide) dX4_looksFor_112 rfl ?_
    refine f_iload_n C (j := 1) dX4_looksFor_115 rfl rfl rfl ?_
    refine f_iload_n C (j := 3) dX4_looksFor_116 rfl rfl rfl ?_
    obtain ⟨hi_9, h⟩ := h
    refine f_iast C (j := tn x1) a87 hi_9 rfl dX4_looksFor_117 rfl ?_
    refine f_iload_n C (j := 3) dX4_looksFor_118 rfl rfl rfl ?_
    exact f_iret C dX4_looksFor_119 h
  · replace h := Eq.mp (if_neg hq_8) h
    refine f_iload_n C (j := 1) dX4_looksFor_51 rfl rfl rfl ?_
    refine f_aload_n C (j := 0) dX4_looksFor_52 rfl rfl rfl ?_
    refine f_getc C tF_X4_23 rfl o95 cs95_2 (by decide) dX4_looksFor_53 rfl ?_
    refine f_iload C (j := 4) dX4_looksFor_56 rfl rfl ?_
    obtain ⟨hi_10, h⟩ := h
    refine f_iald C (j := tn x4) a96 hi_10 rfl dX4_looksFor_58 rfl ?_
    refine f_iand C dX4_looksFor_59 rfl ?_
    refine f_name (fun x5_11 hx_12 => ?_)
    replace h := h x5_11 hx_12
    refine f_istore C (lv2 := [(5, .int x5_11), (0, .ref (B + 95)), (1, .int x1), (2, .int x2), (3, .int x3), (4, .int x4)]) dX4_looksFor_60 (by decide) rfl rfl ?_
    refine f_iload C (j := 0) dX4_looksFor_62 rfl rfl ?_
    refine f_if_eq C (t := 105) dX4_looksFor_64 (by decide) rfl (fun hq_13 => ?_) (fun hq_13 => ?_)
    · replace h := Eq.mp (if_pos hq_13) h
      obtain ⟨x4_14, hx_15⟩ : ∃ y : Int32, y = x4 + 1 := ⟨_, rfl⟩
      replace h := h x4_14 hx_15
      refine f_iinc C (j := 5) (v := x4_14) (lv2 := [(4, .int x4_14), (5, .int x5_11), (0, .ref (B + 95)), (1, .int x1), (2, .int x2), (3, .int x3)]) dX4_looksFor_105 rfl hx_15.symm (by decide) rfl rfl ?_
      refine f_goto C (t := 39) dX4_looksFor_108 (by decide) ?_
      refine f_lv C (lv2 := [(0, .ref (B + 95)), (1, .int x1), (2, .int x2), (3, .int x3), (4, .int x4_14)]) [2, 3, 4, 5, 0] rfl ?_
      exact hK39 _ _ _ h
    · replace h := Eq.mp (if_neg hq_13) h
      refine f_iload C (j := 0) dX4_looksFor_67 rfl rfl ?_
      refine f_iload_n C (j := 2) dX4_looksFor_69 rfl rfl rfl ?_
      refine f_icmp_eq C (t := 105) dX4_looksFor_70 (by decide) rfl (fun hq_16 => ?_) (fun hq_16 => ?_)
      · replace h := Eq.mp (if_pos hq_16) h
        obtain ⟨x4_17, hx_18⟩ : ∃ y : Int32, y = x4 + 1 := ⟨_, rfl⟩
        replace h := h x4_17 hx_18
        refine f_iinc C (j := 5) (v := x4_17) (lv2 := [(4, .int x4_17), (5, .int x5_11), (0, .ref (B + 95)), (1, .int x1), (2, .int x2), (3, .int x3)]) dX4_looksFor_105 rfl hx_18.symm (by decide) rfl rfl ?_
        refine f_goto C (t := 39) dX4_looksFor_108 (by decide) ?_
        refine f_lv C (lv2 := [(0, .ref (B + 95)), (1, .int x1), (2, .int x2), (3, .int x3), (4, .int x4_17)]) [2, 3, 4, 5, 0] rfl ?_
        exact hK39 _ _ _ h
      · replace h := Eq.mp (if_neg hq_16) h
        refine f_iload_n C (j := 4) dX4_looksFor_73 rfl rfl rfl ?_
        refine f_iconst C (v := 1) dX4_looksFor_74 kc1 rfl ?_
        refine f_aload_n C (j := 1) dX4_looksFor_75 rfl rfl rfl ?_
        refine f_iload C (j := 0) dX4_looksFor_76 rfl rfl ?_
        refine f_iload_n C (j := 3) dX4_looksFor_78 rfl rfl rfl ?_
        refine f_iconst C (v := 1) dX4_looksFor_79 kc1 rfl ?_
        refine f_iadd C dX4_looksFor_80 rfl ?_
        refine f_callVi C (a := 95) (ci := 4) (As := fun B => [.int x5_11, .int (x2 + 1)]) o95 rfl (hrec _ _ _ _ h) tM_X4_66 tI_X4_looksFor tS_X4_looksFor tN_X4 tC_X4_looksFor 2 dd_X4_looksFor rfl (by omega) (by omega) rfl (Nat.le_of_ble_eq_true rfl) dX4_looksFor_81 rfl (fun r_20 σ_19 h => ?_)
        refine f_aload_n C (j := 1) dX4_looksFor_84 rfl rfl rfl ?_
        refine f_iload_n C (j := 2) dX4_looksFor_85 rfl rfl rfl ?_
        refine f_iload C (j := 0) dX4_looksFor_86 rfl rfl ?_
        refine f_iconst C (v := (-1)) dX4_looksFor_88 kcm1 rfl ?_
        refine f_inot C dX4_looksFor_89 rfl ?_
        refine f_iand C dX4_looksFor_90 rfl ?_
        refine f_iload_n C (j := 3) dX4_looksFor_91 rfl rfl rfl ?_
        refine f_iconst C (v := 1) dX4_looksFor_92 kc1 rfl ?_
        refine f_iadd C dX4_looksFor_93 rfl ?_
        refine f_callVi C (a := 95) (ci := 4) (As := fun B => [.int (x1 &&& (~~~x5_11)), .int (x2 + 1)]) o95 rfl (hrec _ _ _ _ h) tM_X4_66 tI_X4_looksFor tS_X4_looksFor tN_X4 tC_X4_looksFor 2 dd_X4_looksFor rfl (by omega) (by omega) rfl (Nat.le_of_ble_eq_true rfl) dX4_looksFor_94 rfl (fun r_22 σ_21 h => ?_)
        refine f_mmax C tM_X4_57 tT_J9_max_7cf53 tN_J9 tC_J9_max_7cf53 (by omega) (by omega) (Nat.le_of_ble_eq_true rfl) dX4_looksFor_97 rfl ?_
        refine f_iadd C dX4_looksFor_100 rfl ?_
        refine f_mmin C tM_X4_69 tT_J9_min_7cf53 tN_J9 tC_J9_min_7cf53 (by omega) (by omega) (Nat.le_of_ble_eq_true rfl) dX4_looksFor_101 rfl ?_
        refine f_name (fun x3_23 hx_24 => ?_)
        replace h := h x3_23 hx_24
        refine f_istore_n C (lv2 := [(3, .int x3_23), (5, .int x5_11), (0, .ref (B + 95)), (1, .int x1), (2, .int x2), (4, .int x4)]) dX4_looksFor_104 rfl (by decide) rfl rfl ?_
        obtain ⟨x4_25, hx_26⟩ : ∃ y : Int32, y = x4 + 1 := ⟨_, rfl⟩
        replace h := h x4_25 hx_26
        refine f_iinc C (j := 5) (v := x4_25) (lv2 := [(4, .int x4_25), (3, .int x3_23), (5, .int x5_11), (0, .ref (B + 95)), (1, .int x1), (2, .int x2)]) dX4_looksFor_105 rfl hx_26.symm (by decide) rfl rfl ?_
        refine f_goto C (t := 39) dX4_looksFor_108 (by decide) ?_
        refine f_lv C (lv2 := [(0, .ref (B + 95)), (1, .int x1), (2, .int x2), (3, .int x3_23), (4, .int x4_25)]) [3, 4, 5, 1, 0] rfl ?_
        exact hK39 _ _ _ h
def w_X4_looksFor_e (rec : Int32 → Int32 → Sto → (Int32 → Sto → Prop) → Prop) (x1 : Int32) (x2 : Int32) (σ : Sto) (P : Int32 → Sto → Prop) : Prop :=
  w_J6_bitCount_0f7a4 x1 σ (fun r_2 σ_1 => (if r_2 ≤ 1 then P 0 σ_1 else (if x2 < 12 then vp_in x1 4096 ∧ (if (gi σ_1 87 (tn x1)) = (-1) then Lp (fun (K : Int32 × Int32 × Sto → Prop) s => w_X4_looksFor_39 rec K x1 x2 s.1 s.2.1 s.2.2 P) (12, 0, σ_1) else P (gi σ_1 87 (tn x1)) σ_1) else P 0 σ_1)))
theorem s_X4_looksFor_e {B : Nat} {E : Nat → List (Nat × Value) → List Value → Sto → Prop} (rec : Int32 → Int32 → Sto → (Int32 → Sto → Prop) → Prop) (n : Nat) (hrec : ∀ (x1 : Int32) (x2 : Int32) (σ : Sto) (P : Int32 → Sto → Prop), rec x1 x2 σ P → Ct yX4_looksFor cX4_looksFor 6 (some .int) (1 + n) (21 + n * 25) (fun B => [.ref (B + 95), .int x1, .int x2]) σ (QFi P)) {P : Int32 → Sto → Prop} (C : Cy B E RX4 cX4_looksFor 6 (some .int) (1 + (n + 1)) (21 + (n + 1) * 25) (Zm (QFi P))) (x1 : Int32) (x2 : Int32) (σ : Sto) (h : w_X4_looksFor_e rec x1 x2 σ P) : E 0 [(0, .ref (B + 95)), (1, .int x1), (2, .int x2)] [] σ := by
  unfold w_X4_looksFor_e at h
  refine f_iload_n C (j := 1) dX4_looksFor_0 rfl rfl rfl ?_
  refine f_callSi C (As := fun B => [.int x1]) (c_J6_bitCount_0f7a4  _ _ _ h) tM_X4_52 tT_J6_bitCount_0f7a4 tN_J6 tC_J6_bitCount_0f7a4 1 dd_J6_bitCount_0f7a4 rfl (by omega) (by omega) rfl (Nat.le_of_ble_eq_true rfl) dX4_looksFor_1 rfl (fun r_2 σ_1 h => ?_)
  refine f_iconst C (v := 1) dX4_looksFor_4 kc1 rfl ?_
  refine f_icmp_le C (t := 14) dX4_looksFor_5 (by decide) rfl (fun hq_3 => ?_) (fun hq_3 => ?_)
  · replace h := Eq.mp (if_pos hq_3) h
    refine f_iconst C (v := 0) dX4_looksFor_14 kc0 rfl ?_
    exact f_iret C dX4_looksFor_15 h
  · replace h := Eq.mp (if_neg hq_3) h
    refine f_iload_n C (j := 2) dX4_looksFor_8 rfl rfl rfl ?_
    refine f_bipush C (v := 12) dX4_looksFor_9 kb12 rfl ?_
    refine f_icmp_lt C (t := 16) dX4_looksFor_11 (by decide) rfl (fun hq_4 => ?_) (fun hq_4 => ?_)
    · replace h := Eq.mp (if_pos hq_4) h
      refine f_aload_n C (j := 0) dX4_looksFor_16 rfl rfl rfl ?_
      refine f_getc C tF_X4_19 rfl o95 cs95_1 (by decide) dX4_looksFor_17 rfl ?_
      refine f_iload_n C (j := 1) dX4_looksFor_20 rfl rfl rfl ?_
      obtain ⟨hi_5, h⟩ := h
      refine f_iald C (j := tn x1) a87 hi_5 rfl dX4_looksFor_21 rfl ?_
      refine f_iconst C (v := (-1)) dX4_looksFor_22 kcm1 rfl ?_
      refine f_icmp_eq C (t := 33) dX4_looksFor_23 (by decide) rfl (fun hq_6 => ?_) (fun hq_6 => ?_)
      · replace h := Eq.mp (if_pos hq_6) h
        refine f_bipush C (v := 12) dX4_looksFor_33 kb12 rfl ?_
        refine f_istore_n C (lv2 := [(3, .int 12), (0, .ref (B + 95)), (1, .int x1), (2, .int x2)]) dX4_looksFor_35 rfl (by decide) rfl rfl ?_
        refine f_iconst C (v := 0) dX4_looksFor_36 kc0 rfl ?_
        refine f_istore C (lv2 := [(4, .int 0), (3, .int 12), (0, .ref (B + 95)), (1, .int x1), (2, .int x2)]) dX4_looksFor_37 (by decide) rfl rfl ?_
        refine f_lv C (lv2 := [(0, .ref (B + 95)), (1, .int x1), (2, .int x2), (3, .int 12), (4, .int 0)]) [2, 3, 4, 1, 0] rfl ?_
        exact Lp_sound (fun s : Int32 × Int32 × Sto => E 39 [(0, .ref (B + 95)), (1, .int x1), (2, .int x2), (3, .int s.1), (4, .int s.2.1)] [] s.2.2) h (fun K s hK h => s_X4_looksFor_39 (rec := rec) n hrec C x1 x2 s.1 s.2.1 K (fun x3 x4 σ hk => hK (x3, x4, σ) hk) s.2.2 h)
      · replace h := Eq.mp (if_neg hq_6) h
        refine f_aload_n C (j := 0) dX4_looksFor_26 rfl rfl rfl ?_
        refine f_getc C tF_X4_19 rfl o95 cs95_1 (by decide) dX4_looksFor_27 rfl ?_
        refine f_iload_n C (j := 1) dX4_looksFor_30 rfl rfl rfl ?_
        refine f_iald C (j := tn x1) a87 hi_5 rfl dX4_looksFor_31 rfl ?_
        exact f_iret C dX4_looksFor_32 h
    · replace h := Eq.mp (if_neg hq_4) h
      refine f_iconst C (v := 0) dX4_looksFor_14 kc0 rfl ?_
      exact f_iret C dX4_looksFor_15 h
def w_X4_looksFor : Nat → Int32 → Int32 → Sto → (Int32 → Sto → Prop) → Prop
  | 0 => fun _ _ _ _ => False
  | n + 1 => fun x1 x2 σ P => w_X4_looksFor_e (w_X4_looksFor n) x1 x2 σ P
theorem c_X4_looksFor (n : Nat) (x1 : Int32) (x2 : Int32) (σ : Sto) (P : Int32 → Sto → Prop) (h : w_X4_looksFor n x1 x2 σ P) : Ct yX4_looksFor cX4_looksFor 6 (some .int) (1 + n) (21 + n * 25) (fun B => [.ref (B + 95), .int x1, .int x2]) σ (QFi P) := by
  induction n generalizing x1 x2 σ P with
  | zero => exact h.elim
  | succ n ih => exact Ct.of (by decide) (fun _ => Nat.le_of_ble_eq_true rfl) (fun B E C => s_X4_looksFor_e (rec := w_X4_looksFor n) n ih C x1 x2 σ h)
def w_X4_fewestLooks_2 (K2 : Int32 × Sto → Prop) (x1 : Int32) (x2 : Int32) (σ : Sto) (P : Int32 → Sto → Prop) : Prop :=
  isCity (gr σ 95 3) ∧ (if (gi σ (gr σ 95 3) 8) ≤ x2 then w_X4_findFelling x1 σ (fun σ_3 => w_J7_fill_53178 87 4096 (-1) σ_3 (fun σ_5 => w_X4_looksFor 16 x1 0 σ_5 (fun r_8 σ_7 => P r_8 σ_7))) else (if ((x1 >>> (x2 &&& 31)) &&& 1) = 0 then ∀ x2_10 : Int32, x2_10 = x2 + 1 → K2 (x2_10, σ) else w_X6_fallingWith x2 σ (fun r_13 σ_12 => w_X4_causesOf r_13 σ_12 (fun r_15 σ_14 => w_J6_bitCount_0f7a4 (r_15 &&& x1) σ_14 (fun r_17 σ_16 => (if r_17 ≤ 1 then ∀ x2_19 : Int32, x2_19 = x2 + 1 → K2 (x2_19, σ_16) else P (-1) σ_16))))))
theorem s_X4_fewestLooks_2 {B : Nat} {E : Nat → List (Nat × Value) → List Value → Sto → Prop} {P : Int32 → Sto → Prop} (C : Cy B E RX4 cX4_fewestLooks 3 (some .int) 18 446 (Zm (QFi P))) (x1 : Int32) (x2 : Int32) (K2 : Int32 × Sto → Prop) (hK2 : ∀ (x2 : Int32) (σ : Sto), K2 (x2, σ) → E 2 [(0, .ref (B + 95)), (1, .int x1), (2, .int x2)] [] σ) (σ : Sto) (h : w_X4_fewestLooks_2 K2 x1 x2 σ P) : E 2 [(0, .ref (B + 95)), (1, .int x1), (2, .int x2)] [] σ := by
  unfold w_X4_fewestLooks_2 at h
  refine f_iload_n C (j := 2) dX4_fewestLooks_2 rfl rfl rfl ?_
  refine f_aload_n C (j := 0) dX4_fewestLooks_3 rfl rfl rfl ?_
  obtain ⟨hc_1, h⟩ := h
  refine f_getm C tF_X4_9 rfl o95 cn95_3 hc_1.z dX4_fewestLooks_4 rfl ?_
  refine f_geti C tF_X4_32 rfl hc_1.o dX4_fewestLooks_7 rfl ?_
  refine f_icmp_ge C (t := 50) dX4_fewestLooks_10 (by decide) rfl (fun hq_2 => ?_) (fun hq_2 => ?_)
  · replace h := Eq.mp (if_pos hq_2) h
    refine f_aload_n C (j := 0) dX4_fewestLooks_50 rfl rfl rfl ?_
    refine f_iload_n C (j := 1) dX4_fewestLooks_51 rfl rfl rfl ?_
    refine f_callVv C (a := 95) (ci := 4) (As := fun B => [.int x1]) o95 rfl (c_X4_findFelling  _ _ _ h) tM_X4_48 tI_X4_findFelling tS_X4_findFelling tN_X4 tC_X4_findFelling 1 dd_X4_findFelling rfl (by decide) (by decide) rfl (Nat.le_of_ble_eq_true rfl) dX4_fewestLooks_52 rfl (fun σ_3 h => ?_)
    refine f_aload_n C (j := 0) dX4_fewestLooks_55 rfl rfl rfl ?_
    refine f_getc C tF_X4_19 rfl o95 cs95_1 (by decide) dX4_fewestLooks_56 rfl ?_
    refine f_iconst C (v := (-1)) dX4_fewestLooks_59 kcm1 rfl ?_
    refine f_callSv C (As := fun B => [.ref (B + 87), .int (-1)]) (c_J7_fill_53178  _ _ _ _ _ h) tM_X4_42 tT_J7_fill_53178 tN_J7 tC_J7_fill_53178 2 dd_J7_fill_53178 rfl (by decide) (by decide) rfl (Nat.le_of_ble_eq_true rfl) dX4_fewestLooks_60 rfl (fun σ_5 h => ?_)
    refine f_aload_n C (j := 0) dX4_fewestLooks_63 rfl rfl rfl ?_
    refine f_iload_n C (j := 1) dX4_fewestLooks_64 rfl rfl rfl ?_
    refine f_iconst C (v := 0) dX4_fewestLooks_65 kc0 rfl ?_
    refine f_callVi C (a := 95) (ci := 4) (As := fun B => [.int x1, .int 0]) o95 rfl (c_X4_looksFor 16 _ _ _ _ h) tM_X4_66 tI_X4_looksFor tS_X4_looksFor tN_X4 tC_X4_looksFor 2 dd_X4_looksFor rfl (by decide) (by decide) rfl (Nat.le_of_ble_eq_true rfl) dX4_fewestLooks_66 rfl (fun r_8 σ_7 h => ?_)
    exact f_iret C dX4_fewestLooks_69 h
  · replace h := Eq.mp (if_neg hq_2) h
    refine f_iload_n C (j := 1) dX4_fewestLooks_13 rfl rfl rfl ?_
    refine f_iload_n C (j := 2) dX4_fewestLooks_14 rfl rfl rfl ?_
    refine f_ishr C dX4_fewestLooks_15 rfl ?_
    refine f_iconst C (v := 1) dX4_fewestLooks_16 kc1 rfl ?_
    refine f_iand C dX4_fewestLooks_17 rfl ?_
    refine f_if_eq C (t := 44) dX4_fewestLooks_18 (by decide) rfl (fun hq_9 => ?_) (fun hq_9 => ?_)
    · replace h := Eq.mp (if_pos hq_9) h
      obtain ⟨x2_10, hx_11⟩ : ∃ y : Int32, y = x2 + 1 := ⟨_, rfl⟩
      replace h := h x2_10 hx_11
      refine f_iinc C (j := 2) (v := x2_10) (lv2 := [(2, .int x2_10), (0, .ref (B + 95)), (1, .int x1)]) dX4_fewestLooks_44 rfl hx_11.symm (by decide) rfl rfl ?_
      refine f_goto C (t := 2) dX4_fewestLooks_47 (by decide) ?_
      refine f_lv C (lv2 := [(0, .ref (B + 95)), (1, .int x1), (2, .int x2_10)]) [1, 2, 0] rfl ?_
      exact hK2 _ _ h
    · replace h := Eq.mp (if_neg hq_9) h
      refine f_aload_n C (j := 0) dX4_fewestLooks_21 rfl rfl rfl ?_
      refine f_aload_n C (j := 0) dX4_fewestLooks_22 rfl rfl rfl ?_
      refine f_getc C tF_X4_15 rfl o95 cs95_0 (by decide) dX4_fewestLooks_23 rfl ?_
      refine f_iload_n C (j := 2) dX4_fewestLooks_26 rfl rfl rfl ?_
      refine f_callVi C (a := 88) (ci := 6) (As := fun B => [.int x2]) o88 rfl (c_X6_fallingWith  _ _ _ h) tM_X4_38 tI_X6_fallingWith tS_X6_fallingWith tN_X6 tC_X6_fallingWith 1 dd_X6_fallingWith rfl (by decide) (by decide) rfl (Nat.le_of_ble_eq_true rfl) dX4_fewestLooks_27 rfl (fun r_13 σ_12 h => ?_)
      refine f_callVi C (a := 95) (ci := 4) (As := fun B => [.int r_13]) o95 rfl (c_X4_causesOf  _ _ _ h) tM_X4_63 tI_X4_causesOf tS_X4_causesOf tN_X4 tC_X4_causesOf 1 dd_X4_causesOf rfl (by decide) (by decide) rfl (Nat.le_of_ble_eq_true rfl) dX4_fewestLooks_30 rfl (fun r_15 σ_14 h => ?_)
      refine f_iload_n C (j := 1) dX4_fewestLooks_33 rfl rfl rfl ?_
      refine f_iand C dX4_fewestLooks_34 rfl ?_
      refine f_callSi C (As := fun B => [.int (r_15 &&& x1)]) (c_J6_bitCount_0f7a4  _ _ _ h) tM_X4_52 tT_J6_bitCount_0f7a4 tN_J6 tC_J6_bitCount_0f7a4 1 dd_J6_bitCount_0f7a4 rfl (by decide) (by decide) rfl (Nat.le_of_ble_eq_true rfl) dX4_fewestLooks_35 rfl (fun r_17 σ_16 h => ?_)
      refine f_iconst C (v := 1) dX4_fewestLooks_38 kc1 rfl ?_
      refine f_icmp_le C (t := 44) dX4_fewestLooks_39 (by decide) rfl (fun hq_18 => ?_) (fun hq_18 => ?_)
      · replace h := Eq.mp (if_pos hq_18) h
        obtain ⟨x2_19, hx_20⟩ : ∃ y : Int32, y = x2 + 1 := ⟨_, rfl⟩
        replace h := h x2_19 hx_20
        refine f_iinc C (j := 2) (v := x2_19) (lv2 := [(2, .int x2_19), (0, .ref (B + 95)), (1, .int x1)]) dX4_fewestLooks_44 rfl hx_20.symm (by decide) rfl rfl ?_
        refine f_goto C (t := 2) dX4_fewestLooks_47 (by decide) ?_
        refine f_lv C (lv2 := [(0, .ref (B + 95)), (1, .int x1), (2, .int x2_19)]) [1, 2, 0] rfl ?_
        exact hK2 _ _ h
      · replace h := Eq.mp (if_neg hq_18) h
        refine f_iconst C (v := (-1)) dX4_fewestLooks_42 kcm1 rfl ?_
        exact f_iret C dX4_fewestLooks_43 h
def w_X4_fewestLooks (x1 : Int32) (σ : Sto) (P : Int32 → Sto → Prop) : Prop :=
  Lp (fun (K : Int32 × Sto → Prop) s => w_X4_fewestLooks_2 K x1 s.1 s.2 P) (0, σ)
theorem s_X4_fewestLooks {B : Nat} {E : Nat → List (Nat × Value) → List Value → Sto → Prop} {P : Int32 → Sto → Prop} (C : Cy B E RX4 cX4_fewestLooks 3 (some .int) 18 446 (Zm (QFi P))) (x1 : Int32) (σ : Sto) (h : w_X4_fewestLooks x1 σ P) : E 0 [(0, .ref (B + 95)), (1, .int x1)] [] σ := by
  unfold w_X4_fewestLooks at h
  refine f_iconst C (v := 0) dX4_fewestLooks_0 kc0 rfl ?_
  refine f_istore_n C (lv2 := [(2, .int 0), (0, .ref (B + 95)), (1, .int x1)]) dX4_fewestLooks_1 rfl (by decide) rfl rfl ?_
  refine f_lv C (lv2 := [(0, .ref (B + 95)), (1, .int x1), (2, .int 0)]) [1, 2, 0] rfl ?_
  exact Lp_sound (fun s : Int32 × Sto => E 2 [(0, .ref (B + 95)), (1, .int x1), (2, .int s.1)] [] s.2) h (fun K s hK h => s_X4_fewestLooks_2 C x1 s.1 K (fun x2 σ hk => hK (x2, σ) hk) s.2 h)
theorem c_X4_fewestLooks (x1 : Int32) (σ : Sto) (P : Int32 → Sto → Prop) (h : w_X4_fewestLooks x1 σ P) : Ct yX4_fewestLooks cX4_fewestLooks 3 (some .int) 18 446 (fun B => [.ref (B + 95), .int x1]) σ (QFi P) := Ct.of (by decide) (fun _ => Nat.le_of_ble_eq_true rfl) (fun B E C => s_X4_fewestLooks C x1 σ h)
def w_X4_ordersWith_78 (K20 : Int32 × Sto → Prop) (K32 : Int32 × Int32 × Sto → Prop) (x1 : Int32) (x2 : Int32) (x3 : Int32) (x4 : Int32) (x5 : Int32) (x6 : Int32) (x7 : Int32) (z0 : Int32) (z1 : Int32) (σ : Sto) (P : Int32 → Sto → Prop) : Prop :=
  ∀ x8_15 : Int32, x8_15 = z1 ||| z0 → (if x7 = x4 then ∀ x6_18 : Int32, x6_18 = x6 + 1 → K32 (x5, x6_18, σ) else (if (x8_15 &&& (~~~x7)) = 0 then vp_in x7 4096 ∧ ∀ x5_24 : Int32, x5_24 = x5 + (gi σ 87 (tn x7)) → ∀ x6_26 : Int32, x6_26 = x6 + 1 → K32 (x5_24, x6_26, σ) else ∀ x6_21 : Int32, x6_21 = x6 + 1 → K32 (x5, x6_21, σ)))
theorem s_X4_ordersWith_78 {B : Nat} {E : Nat → List (Nat × Value) → List Value → Sto → Prop} {P : Int32 → Sto → Prop} (C : Cy B E RX4 cX4_ordersWith 9 (some .int) 0 0 (Zm (QFi P))) (x1 : Int32) (x2 : Int32) (x3 : Int32) (x4 : Int32) (x5 : Int32) (x6 : Int32) (x7 : Int32) (z0 : Int32) (z1 : Int32) (K20 : Int32 × Sto → Prop) (K32 : Int32 × Int32 × Sto → Prop) (hK20 : ∀ (x4 : Int32) (σ : Sto), K20 (x4, σ) → E 20 [(0, .ref (B + 95)), (1, .int x1), (2, .int x2), (3, .int x3), (4, .int x4)] [] σ) (hK32 : ∀ (x5 : Int32) (x6 : Int32) (σ : Sto), K32 (x5, x6, σ) → E 32 [(0, .ref (B + 95)), (1, .int x1), (2, .int x2), (3, .int x3), (4, .int x4), (5, .int x5), (6, .int x6)] [] σ) (σ : Sto) (h : w_X4_ordersWith_78 K20 K32 x1 x2 x3 x4 x5 x6 x7 z0 z1 σ P) : E 78 [(0, .ref (B + 95)), (1, .int x1), (2, .int x2), (3, .int x3), (4, .int x4), (5, .int x5), (6, .int x6), (7, .int x7)] [.int z0, .int z1] σ := by
  unfold w_X4_ordersWith_78 at h
  refine f_ior C dX4_ordersWith_78 rfl ?_
  refine f_name (fun x8_15 hx_16 => ?_)
  replace h := h x8_15 hx_16
  refine f_istore C (lv2 := [(8, .int x8_15), (0, .ref (B + 95)), (1, .int x1), (2, .int x2), (3, .int x3), (4, .int x4), (5, .int x5), (6, .int x6), (7, .int x7)]) dX4_ordersWith_79 (by decide) rfl rfl ?_
  refine f_iload C (j := 8) dX4_ordersWith_81 rfl rfl ?_
  refine f_iload C (j := 5) dX4_ordersWith_83 rfl rfl ?_
  refine f_icmp_eq C (t := 110) dX4_ordersWith_85 (by decide) rfl (fun hq_17 => ?_) (fun hq_17 => ?_)
  · replace h := Eq.mp (if_pos hq_17) h
    obtain ⟨x6_18, hx_19⟩ : ∃ y : Int32, y = x6 + 1 := ⟨_, rfl⟩
    replace h := h x6_18 hx_19
    refine f_iinc C (j := 7) (v := x6_18) (lv2 := [(6, .int x6_18), (8, .int x8_15), (0, .ref (B + 95)), (1, .int x1), (2, .int x2), (3, .int x3), (4, .int x4), (5, .int x5), (7, .int x7)]) dX4_ordersWith_110 rfl hx_19.symm (by decide) rfl rfl ?_
    refine f_goto C (t := 32) dX4_ordersWith_113 (by decide) ?_
    refine f_lv C (lv2 := [(0, .ref (B + 95)), (1, .int x1), (2, .int x2), (3, .int x3), (4, .int x4), (5, .int x5), (6, .int x6_18)]) [2, 3, 4, 5, 6, 7, 0] rfl ?_
    exact hK32 _ _ _ h
  · replace h := Eq.mp (if_neg hq_17) h
    refine f_iload C (j := 0) dX4_ordersWith_88 rfl rfl ?_
    refine f_iload C (j := 8) dX4_ordersWith_90 rfl rfl ?_
    refine f_iconst C (v := (-1)) dX4_ordersWith_92 kcm1 rfl ?_
    refine f_inot C dX4_ordersWith_93 rfl ?_
    refine f_iand C dX4_ordersWith_94 rfl ?_
    refine f_if_ne C (t := 110) dX4_ordersWith_95 (by decide) rfl (fun hq_20 => ?_) (fun hq_20 => ?_)
    · replace h := Eq.mp (if_neg hq_20) h
      obtain ⟨x6_21, hx_22⟩ : ∃ y : Int32, y = x6 + 1 := ⟨_, rfl⟩
      replace h := h x6_21 hx_22
      refine f_iinc C (j := 7) (v := x6_21) (lv2 := [(6, .int x6_21), (8, .int x8_15), (0, .ref (B + 95)), (1, .int x1), (2, .int x2), (3, .int x3), (4, .int x4), (5, .int x5), (7, .int x7)]) dX4_ordersWith_110 rfl hx_22.symm (by decide) rfl rfl ?_
      refine f_goto C (t := 32) dX4_ordersWith_113 (by decide) ?_
      refine f_lv C (lv2 := [(0, .ref (B + 95)), (1, .int x1), (2, .int x2), (3, .int x3), (4, .int x4), (5, .int x5), (6, .int x6_21)]) [2, 3, 4, 5, 6, 7, 0] rfl ?_
      exact hK32 _ _ _ h
    · replace h := Eq.mp (if_pos hq_20) h
      refine f_iload C (j := 6) dX4_ordersWith_98 rfl rfl ?_
      refine f_aload_n C (j := 1) dX4_ordersWith_100 rfl rfl rfl ?_
      refine f_getc C tF_X4_19 rfl o95 cs95_1 (by decide) dX4_ordersWith_101 rfl ?_
      refine f_iload C (j := 8) dX4_ordersWith_104 rfl rfl ?_
      obtain ⟨hi_23, h⟩ := h
      refine f_iald C (j := tn x7) a87 hi_23 rfl dX4_ordersWith_106 rfl ?_
      refine f_iadd C dX4_ordersWith_107 rfl ?_
      refine f_name (fun x5_24 hx_25 => ?_)
      replace h := h x5_24 hx_25
      refine f_istore C (lv2 := [(5, .int x5_24), (8, .int x8_15), (0, .ref (B + 95)), (1, .int x1), (2, .int x2), (3, .int x3), (4, .int x4), (6, .int x6), (7, .int x7)]) dX4_ordersWith_108 (by decide) rfl rfl ?_
      obtain ⟨x6_26, hx_27⟩ : ∃ y : Int32, y = x6 + 1 := ⟨_, rfl⟩
      replace h := h x6_26 hx_27
      refine f_iinc C (j := 7) (v := x6_26) (lv2 := [(6, .int x6_26), (5, .int x5_24), (8, .int x8_15), (0, .ref (B + 95)), (1, .int x1), (2, .int x2), (3, .int x3), (4, .int x4), (7, .int x7)]) dX4_ordersWith_110 rfl hx_27.symm (by decide) rfl rfl ?_
      refine f_goto C (t := 32) dX4_ordersWith_113 (by decide) ?_
      refine f_lv C (lv2 := [(0, .ref (B + 95)), (1, .int x1), (2, .int x2), (3, .int x3), (4, .int x4), (5, .int x5_24), (6, .int x6_26)]) [3, 4, 5, 6, 7, 1, 0] rfl ?_
      exact hK32 _ _ _ h
def w_X4_ordersWith_32 (K20 : Int32 × Sto → Prop) (K32 : Int32 × Int32 × Sto → Prop) (x1 : Int32) (x2 : Int32) (x3 : Int32) (x4 : Int32) (x5 : Int32) (x6 : Int32) (σ : Sto) (P : Int32 → Sto → Prop) : Prop :=
  isCity (gr σ 95 3) ∧ (if (gi σ (gr σ 95 3) 8) ≤ x6 then vp_in x4 4096 ∧ ∀ x4_9 : Int32, x4_9 = x4 + 1 → K20 (x4_9, si σ 87 (tn x4) x5) else ∀ x7_11 : Int32, x7_11 = x4 &&& (~~~(1 <<< (x6 &&& 31))) → vp_in x6 12 ∧ (if x6 = x2 then w_X4_ordersWith_78 K20 K32 x1 x2 x3 x4 x5 x6 x7_11 (1 <<< (x1 &&& 31)) (gi σ ((gr σ 95 3) + 7) (tn x6)) σ P else w_X4_ordersWith_78 K20 K32 x1 x2 x3 x4 x5 x6 x7_11 0 (gi σ ((gr σ 95 3) + 7) (tn x6)) σ P))
theorem s_X4_ordersWith_32 {B : Nat} {E : Nat → List (Nat × Value) → List Value → Sto → Prop} {P : Int32 → Sto → Prop} (C : Cy B E RX4 cX4_ordersWith 9 (some .int) 0 0 (Zm (QFi P))) (x1 : Int32) (x2 : Int32) (x3 : Int32) (x4 : Int32) (x5 : Int32) (x6 : Int32) (K20 : Int32 × Sto → Prop) (K32 : Int32 × Int32 × Sto → Prop) (hK20 : ∀ (x4 : Int32) (σ : Sto), K20 (x4, σ) → E 20 [(0, .ref (B + 95)), (1, .int x1), (2, .int x2), (3, .int x3), (4, .int x4)] [] σ) (hK32 : ∀ (x5 : Int32) (x6 : Int32) (σ : Sto), K32 (x5, x6, σ) → E 32 [(0, .ref (B + 95)), (1, .int x1), (2, .int x2), (3, .int x3), (4, .int x4), (5, .int x5), (6, .int x6)] [] σ) (σ : Sto) (h : w_X4_ordersWith_32 K20 K32 x1 x2 x3 x4 x5 x6 σ P) : E 32 [(0, .ref (B + 95)), (1, .int x1), (2, .int x2), (3, .int x3), (4, .int x4), (5, .int x5), (6, .int x6)] [] σ := by
  unfold w_X4_ordersWith_32 at h
  refine f_iload C (j := 6) dX4_ordersWith_32 rfl rfl ?_
  refine f_aload_n C (j := 0) dX4_ordersWith_34 rfl rfl rfl ?_
  obtain ⟨hc_6, h⟩ := h
  refine f_getm C tF_X4_9 rfl o95 cn95_3 hc_6.z dX4_ordersWith_35 rfl ?_
  refine f_geti C tF_X4_32 rfl hc_6.o dX4_ordersWith_38 rfl ?_
  refine f_icmp_ge C (t := 116) dX4_ordersWith_41 (by decide) rfl (fun hq_7 => ?_) (fun hq_7 => ?_)
  · replace h := Eq.mp (if_pos hq_7) h
    refine f_aload_n C (j := 0) dX4_ordersWith_116 rfl rfl rfl ?_
    refine f_getc C tF_X4_19 rfl o95 cs95_1 (by decide) dX4_ordersWith_117 rfl ?_
    refine f_iload C (j := 4) dX4_ordersWith_120 rfl rfl ?_
    refine f_iload C (j := 5) dX4_ordersWith_122 rfl rfl ?_
    obtain ⟨hi_8, h⟩ := h
    refine f_iast C (j := tn x4) a87 hi_8 rfl dX4_ordersWith_124 rfl ?_
    obtain ⟨x4_9, hx_10⟩ : ∃ y : Int32, y = x4 + 1 := ⟨_, rfl⟩
    replace h := h x4_9 hx_10
    refine f_iinc C (j := 4) (v := x4_9) (lv2 := [(4, .int x4_9), (0, .ref (B + 95)), (1, .int x1), (2, .int x2), (3, .int x3), (5, .int x5), (6, .int x6)]) dX4_ordersWith_125 rfl hx_10.symm (by decide) rfl rfl ?_
    refine f_goto C (t := 20) dX4_ordersWith_128 (by decide) ?_
    refine f_lv C (lv2 := [(0, .ref (B + 95)), (1, .int x1), (2, .int x2), (3, .int x3), (4, .int x4_9)]) [1, 2, 3, 4, 0] rfl ?_
    exact hK20 _ _ h
  · replace h := Eq.mp (if_neg hq_7) h
    refine f_iload C (j := 4) dX4_ordersWith_44 rfl rfl ?_
    refine f_iconst C (v := 1) dX4_ordersWith_46 kc1 rfl ?_
    refine f_iload C (j := 6) dX4_ordersWith_47 rfl rfl ?_
    refine f_ishl C dX4_ordersWith_49 rfl ?_
    refine f_iconst C (v := (-1)) dX4_ordersWith_50 kcm1 rfl ?_
    refine f_inot C dX4_ordersWith_51 rfl ?_
    refine f_iand C dX4_ordersWith_52 rfl ?_
    refine f_name (fun x7_11 hx_12 => ?_)
    replace h := h x7_11 hx_12
    refine f_istore C (lv2 := [(7, .int x7_11), (0, .ref (B + 95)), (1, .int x1), (2, .int x2), (3, .int x3), (4, .int x4), (5, .int x5), (6, .int x6)]) dX4_ordersWith_53 (by decide) rfl rfl ?_
    refine f_aload_n C (j := 1) dX4_ordersWith_55 rfl rfl rfl ?_
    refine f_getm C tF_X4_9 rfl o95 cn95_3 hc_6.z dX4_ordersWith_56 rfl ?_
    refine f_getc C tF_X4_75 rfl hc_6.o hc_6.c6 (Nat.succ_ne_zero _) dX4_ordersWith_59 rfl ?_
    refine f_iload C (j := 7) dX4_ordersWith_62 rfl rfl ?_
    obtain ⟨hi_13, h⟩ := h
    refine f_iald C (j := tn x6) hc_6.a6 hi_13 rfl dX4_ordersWith_64 rfl ?_
    refine f_iload C (j := 7) dX4_ordersWith_65 rfl rfl ?_
    refine f_iload_n C (j := 3) dX4_ordersWith_67 rfl rfl rfl ?_
    refine f_icmp_ne C (t := 77) dX4_ordersWith_68 (by decide) rfl (fun hq_14 => ?_) (fun hq_14 => ?_)
    · replace h := Eq.mp (if_neg hq_14) h
      refine f_iconst C (v := 0) dX4_ordersWith_77 kc0 rfl ?_
      refine f_lv C (lv2 := [(0, .ref (B + 95)), (1, .int x1), (2, .int x2), (3, .int x3), (4, .int x4), (5, .int x5), (6, .int x6), (7, .int x7_11)]) [1, 2, 3, 4, 5, 6, 7, 0] rfl ?_
      exact s_X4_ordersWith_78 C _ _ _ _ _ _ _ _ _  K20 K32 hK20 hK32 _ h
    · replace h := Eq.mp (if_pos hq_14) h
      refine f_iconst C (v := 1) dX4_ordersWith_71 kc1 rfl ?_
      refine f_iload_n C (j := 2) dX4_ordersWith_72 rfl rfl rfl ?_
      refine f_ishl C dX4_ordersWith_73 rfl ?_
      refine f_goto C (t := 78) dX4_ordersWith_74 (by decide) ?_
      refine f_lv C (lv2 := [(0, .ref (B + 95)), (1, .int x1), (2, .int x2), (3, .int x3), (4, .int x4), (5, .int x5), (6, .int x6), (7, .int x7_11)]) [1, 2, 3, 4, 5, 6, 7, 0] rfl ?_
      exact s_X4_ordersWith_78 C _ _ _ _ _ _ _ _ _  K20 K32 hK20 hK32 _ h
def w_X4_ordersWith_20 (K20 : Int32 × Sto → Prop) (x1 : Int32) (x2 : Int32) (x3 : Int32) (x4 : Int32) (σ : Sto) (P : Int32 → Sto → Prop) : Prop :=
  (if x3 ≤ x4 then vp_in (x3 - 1) 4096 ∧ P (gi σ 87 (tn (x3 - 1))) σ else Lp (fun (K : Int32 × Int32 × Sto → Prop) s => w_X4_ordersWith_32 K20 K x1 x2 x3 x4 s.1 s.2.1 s.2.2 P) (0, 0, σ))
theorem s_X4_ordersWith_20 {B : Nat} {E : Nat → List (Nat × Value) → List Value → Sto → Prop} {P : Int32 → Sto → Prop} (C : Cy B E RX4 cX4_ordersWith 9 (some .int) 0 0 (Zm (QFi P))) (x1 : Int32) (x2 : Int32) (x3 : Int32) (x4 : Int32) (K20 : Int32 × Sto → Prop) (hK20 : ∀ (x4 : Int32) (σ : Sto), K20 (x4, σ) → E 20 [(0, .ref (B + 95)), (1, .int x1), (2, .int x2), (3, .int x3), (4, .int x4)] [] σ) (σ : Sto) (h : w_X4_ordersWith_20 K20 x1 x2 x3 x4 σ P) : E 20 [(0, .ref (B + 95)), (1, .int x1), (2, .int x2), (3, .int x3), (4, .int x4)] [] σ := by
  unfold w_X4_ordersWith_20 at h
  refine f_iload C (j := 4) dX4_ordersWith_20 rfl rfl ?_
  refine f_iload_n C (j := 3) dX4_ordersWith_22 rfl rfl rfl ?_
  refine f_icmp_ge C (t := 131) dX4_ordersWith_23 (by decide) rfl (fun hq_4 => ?_) (fun hq_4 => ?_)
  · replace h := Eq.mp (if_pos hq_4) h
    refine f_aload_n C (j := 0) dX4_ordersWith_131 rfl rfl rfl ?_
    refine f_getc C tF_X4_19 rfl o95 cs95_1 (by decide) dX4_ordersWith_132 rfl ?_
    refine f_iload_n C (j := 3) dX4_ordersWith_135 rfl rfl rfl ?_
    refine f_iconst C (v := 1) dX4_ordersWith_136 kc1 rfl ?_
    refine f_isub C dX4_ordersWith_137 rfl ?_
    obtain ⟨hi_5, h⟩ := h
    refine f_iald C (j := tn (x3 - 1)) a87 hi_5 rfl dX4_ordersWith_138 rfl ?_
    exact f_iret C dX4_ordersWith_139 h
  · replace h := Eq.mp (if_neg hq_4) h
    refine f_iconst C (v := 0) dX4_ordersWith_26 kc0 rfl ?_
    refine f_istore C (lv2 := [(5, .int 0), (0, .ref (B + 95)), (1, .int x1), (2, .int x2), (3, .int x3), (4, .int x4)]) dX4_ordersWith_27 (by decide) rfl rfl ?_
    refine f_iconst C (v := 0) dX4_ordersWith_29 kc0 rfl ?_
    refine f_istore C (lv2 := [(6, .int 0), (5, .int 0), (0, .ref (B + 95)), (1, .int x1), (2, .int x2), (3, .int x3), (4, .int x4)]) dX4_ordersWith_30 (by decide) rfl rfl ?_
    refine f_lv C (lv2 := [(0, .ref (B + 95)), (1, .int x1), (2, .int x2), (3, .int x3), (4, .int x4), (5, .int 0), (6, .int 0)]) [2, 3, 4, 5, 6, 1, 0] rfl ?_
    exact Lp_sound (fun s : Int32 × Int32 × Sto => E 32 [(0, .ref (B + 95)), (1, .int x1), (2, .int x2), (3, .int x3), (4, .int x4), (5, .int s.1), (6, .int s.2.1)] [] s.2.2) h (fun K s hK h => s_X4_ordersWith_32 C x1 x2 x3 x4 s.1 s.2.1 K20 K hK20 (fun x5 x6 σ hk => hK (x5, x6, σ) hk) s.2.2 h)
def w_X4_ordersWith (x1 : Int32) (x2 : Int32) (σ : Sto) (P : Int32 → Sto → Prop) : Prop :=
  isCity (gr σ 95 3) ∧ ∀ x3_2 : Int32, x3_2 = 1 <<< ((gi σ (gr σ 95 3) 8) &&& 31) → Lp (fun (K : Int32 × Sto → Prop) s => w_X4_ordersWith_20 K x1 x2 x3_2 s.1 s.2 P) (1, si σ 87 0 1)
theorem s_X4_ordersWith {B : Nat} {E : Nat → List (Nat × Value) → List Value → Sto → Prop} {P : Int32 → Sto → Prop} (C : Cy B E RX4 cX4_ordersWith 9 (some .int) 0 0 (Zm (QFi P))) (x1 : Int32) (x2 : Int32) (σ : Sto) (h : w_X4_ordersWith x1 x2 σ P) : E 0 [(0, .ref (B + 95)), (1, .int x1), (2, .int x2)] [] σ := by
  unfold w_X4_ordersWith at h
  refine f_iconst C (v := 1) dX4_ordersWith_0 kc1 rfl ?_
  refine f_aload_n C (j := 0) dX4_ordersWith_1 rfl rfl rfl ?_
  obtain ⟨hc_1, h⟩ := h
  refine f_getm C tF_X4_9 rfl o95 cn95_3 hc_1.z dX4_ordersWith_2 rfl ?_
  refine f_geti C tF_X4_32 rfl hc_1.o dX4_ordersWith_5 rfl ?_
  refine f_ishl C dX4_ordersWith_8 rfl ?_
  refine f_name (fun x3_2 hx_3 => ?_)
  replace h := h x3_2 hx_3
  refine f_istore_n C (lv2 := [(3, .int x3_2), (0, .ref (B + 95)), (1, .int x1), (2, .int x2)]) dX4_ordersWith_9 rfl (by decide) rfl rfl ?_
  refine f_aload_n C (j := 1) dX4_ordersWith_10 rfl rfl rfl ?_
  refine f_getc C tF_X4_19 rfl o95 cs95_1 (by decide) dX4_ordersWith_11 rfl ?_
  refine f_iconst C (v := 0) dX4_ordersWith_14 kc0 rfl ?_
  refine f_iconst C (v := 1) dX4_ordersWith_15 kc1 rfl ?_
  refine f_iast C (j := 0) a87 (vp_lit (by decide)) rfl dX4_ordersWith_16 rfl ?_
  refine f_iconst C (v := 1) dX4_ordersWith_17 kc1 rfl ?_
  refine f_istore C (lv2 := [(4, .int 1), (3, .int x3_2), (0, .ref (B + 95)), (1, .int x1), (2, .int x2)]) dX4_ordersWith_18 (by decide) rfl rfl ?_
  refine f_lv C (lv2 := [(0, .ref (B + 95)), (1, .int x1), (2, .int x2), (3, .int x3_2), (4, .int 1)]) [2, 3, 4, 1, 0] rfl ?_
  exact Lp_sound (fun s : Int32 × Sto => E 20 [(0, .ref (B + 95)), (1, .int x1), (2, .int x2), (3, .int x3_2), (4, .int s.1)] [] s.2) h (fun K s hK h => s_X4_ordersWith_20 C x1 x2 x3_2 s.1 K (fun x4 σ hk => hK (x4, σ) hk) s.2 h)
theorem c_X4_ordersWith (x1 : Int32) (x2 : Int32) (σ : Sto) (P : Int32 → Sto → Prop) (h : w_X4_ordersWith x1 x2 σ P) : Ct yX4_ordersWith cX4_ordersWith 9 (some .int) 0 0 (fun B => [.ref (B + 95), .int x1, .int x2]) σ (QFi P) := Ct.of (by decide) (fun _ => Nat.le_of_ble_eq_true rfl) (fun B E C => s_X4_ordersWith C x1 x2 σ h)
def w_X4_orders (σ : Sto) (P : Int32 → Sto → Prop) : Prop :=
  w_X4_ordersWith (-1) (-1) σ (fun r_2 σ_1 => P r_2 σ_1)
theorem s_X4_orders {B : Nat} {E : Nat → List (Nat × Value) → List Value → Sto → Prop} {P : Int32 → Sto → Prop} (C : Cy B E RX4 cX4_orders 1 (some .int) 1 28 (Zm (QFi P))) (σ : Sto) (h : w_X4_orders σ P) : E 0 [(0, .ref (B + 95))] [] σ := by
  unfold w_X4_orders at h
  refine f_aload_n C (j := 0) dX4_orders_0 rfl rfl rfl ?_
  refine f_iconst C (v := (-1)) dX4_orders_1 kcm1 rfl ?_
  refine f_iconst C (v := (-1)) dX4_orders_2 kcm1 rfl ?_
  refine f_callVi C (a := 95) (ci := 4) (As := fun B => [.int (-1), .int (-1)]) o95 rfl (c_X4_ordersWith  _ _ _ _ h) tM_X4_72 tI_X4_ordersWith tS_X4_ordersWith tN_X4 tC_X4_ordersWith 2 dd_X4_ordersWith rfl (by decide) (by decide) rfl (Nat.le_of_ble_eq_true rfl) dX4_orders_3 rfl (fun r_2 σ_1 h => ?_)
  exact f_iret C dX4_orders_6 h
theorem c_X4_orders (σ : Sto) (P : Int32 → Sto → Prop) (h : w_X4_orders σ P) : Ct yX4_orders cX4_orders 1 (some .int) 1 28 (fun B => [.ref (B + 95)]) σ (QFi P) := Ct.of (by decide) (fun _ => Nat.le_of_ble_eq_true rfl) (fun B E C => s_X4_orders C σ h)
def w_X4_openings_13 (K13 : Int32 × Int32 × Sto → Prop) (x1 : Int32) (x2 : Int32) (σ : Sto) (P : Int32 → Sto → Prop) : Prop :=
  isCity (gr σ 95 3) ∧ (if (gi σ (gr σ 95 3) 8) ≤ x2 then P x1 σ else vp_in x2 12 ∧ (if (gi σ ((gr σ 95 3) + 7) (tn x2)) = 0 then ∀ x1_12 : Int32, x1_12 = x1 ||| (1 <<< (x2 &&& 31)) → ∀ x2_14 : Int32, x2_14 = x2 + 1 → K13 (x1_12, x2_14, σ) else ∀ x1_8 : Int32, x1_8 = x1 ||| 0 → ∀ x2_10 : Int32, x2_10 = x2 + 1 → K13 (x1_8, x2_10, σ)))
theorem s_X4_openings_13 {B : Nat} {E : Nat → List (Nat × Value) → List Value → Sto → Prop} {P : Int32 → Sto → Prop} (C : Cy B E RX4 cX4_openings 3 (some .int) 2 48 (Zm (QFi P))) (x1 : Int32) (x2 : Int32) (K13 : Int32 × Int32 × Sto → Prop) (hK13 : ∀ (x1 : Int32) (x2 : Int32) (σ : Sto), K13 (x1, x2, σ) → E 13 [(0, .ref (B + 95)), (1, .int x1), (2, .int x2)] [] σ) (σ : Sto) (h : w_X4_openings_13 K13 x1 x2 σ P) : E 13 [(0, .ref (B + 95)), (1, .int x1), (2, .int x2)] [] σ := by
  unfold w_X4_openings_13 at h
  refine f_iload_n C (j := 2) dX4_openings_13 rfl rfl rfl ?_
  refine f_aload_n C (j := 0) dX4_openings_14 rfl rfl rfl ?_
  obtain ⟨hc_4, h⟩ := h
  refine f_getm C tF_X4_9 rfl o95 cn95_3 hc_4.z dX4_openings_15 rfl ?_
  refine f_geti C tF_X4_32 rfl hc_4.o dX4_openings_18 rfl ?_
  refine f_icmp_ge C (t := 52) dX4_openings_21 (by decide) rfl (fun hq_5 => ?_) (fun hq_5 => ?_)
  · replace h := Eq.mp (if_pos hq_5) h
    refine f_iload_n C (j := 1) dX4_openings_52 rfl rfl rfl ?_
    exact f_iret C dX4_openings_53 h
  · replace h := Eq.mp (if_neg hq_5) h
    refine f_iload_n C (j := 1) dX4_openings_24 rfl rfl rfl ?_
    refine f_aload_n C (j := 0) dX4_openings_25 rfl rfl rfl ?_
    refine f_getm C tF_X4_9 rfl o95 cn95_3 hc_4.z dX4_openings_26 rfl ?_
    refine f_getc C tF_X4_75 rfl hc_4.o hc_4.c6 (Nat.succ_ne_zero _) dX4_openings_29 rfl ?_
    refine f_iload_n C (j := 2) dX4_openings_32 rfl rfl rfl ?_
    obtain ⟨hi_6, h⟩ := h
    refine f_iald C (j := tn x2) hc_4.a6 hi_6 rfl dX4_openings_33 rfl ?_
    refine f_if_ne C (t := 43) dX4_openings_34 (by decide) rfl (fun hq_7 => ?_) (fun hq_7 => ?_)
    · replace h := Eq.mp (if_neg hq_7) h
      refine f_iconst C (v := 0) dX4_openings_43 kc0 rfl ?_
      refine f_ior C dX4_openings_44 rfl ?_
      refine f_name (fun x1_8 hx_9 => ?_)
      replace h := h x1_8 hx_9
      refine f_istore_n C (lv2 := [(1, .int x1_8), (0, .ref (B + 95)), (2, .int x2)]) dX4_openings_45 rfl (by decide) rfl rfl ?_
      obtain ⟨x2_10, hx_11⟩ : ∃ y : Int32, y = x2 + 1 := ⟨_, rfl⟩
      replace h := h x2_10 hx_11
      refine f_iinc C (j := 2) (v := x2_10) (lv2 := [(2, .int x2_10), (1, .int x1_8), (0, .ref (B + 95))]) dX4_openings_46 rfl hx_11.symm (by decide) rfl rfl ?_
      refine f_goto C (t := 13) dX4_openings_49 (by decide) ?_
      refine f_lv C (lv2 := [(0, .ref (B + 95)), (1, .int x1_8), (2, .int x2_10)]) [2, 1, 0] rfl ?_
      exact hK13 _ _ _ h
    · replace h := Eq.mp (if_pos hq_7) h
      refine f_iconst C (v := 1) dX4_openings_37 kc1 rfl ?_
      refine f_iload_n C (j := 2) dX4_openings_38 rfl rfl rfl ?_
      refine f_ishl C dX4_openings_39 rfl ?_
      refine f_goto C (t := 44) dX4_openings_40 (by decide) ?_
      refine f_ior C dX4_openings_44 rfl ?_
      refine f_name (fun x1_12 hx_13 => ?_)
      replace h := h x1_12 hx_13
      refine f_istore_n C (lv2 := [(1, .int x1_12), (0, .ref (B + 95)), (2, .int x2)]) dX4_openings_45 rfl (by decide) rfl rfl ?_
      obtain ⟨x2_14, hx_15⟩ : ∃ y : Int32, y = x2 + 1 := ⟨_, rfl⟩
      replace h := h x2_14 hx_15
      refine f_iinc C (j := 2) (v := x2_14) (lv2 := [(2, .int x2_14), (1, .int x1_12), (0, .ref (B + 95))]) dX4_openings_46 rfl hx_15.symm (by decide) rfl rfl ?_
      refine f_goto C (t := 13) dX4_openings_49 (by decide) ?_
      refine f_lv C (lv2 := [(0, .ref (B + 95)), (1, .int x1_12), (2, .int x2_14)]) [2, 1, 0] rfl ?_
      exact hK13 _ _ _ h
def w_X4_openings (σ : Sto) (P : Int32 → Sto → Prop) : Prop :=
  w_X4_orders σ (fun r_2 σ_1 => (if r_2 = 0 then P 0 σ_1 else Lp (fun (K : Int32 × Int32 × Sto → Prop) s => w_X4_openings_13 K s.1 s.2.1 s.2.2 P) (0, 0, σ_1)))
theorem s_X4_openings {B : Nat} {E : Nat → List (Nat × Value) → List Value → Sto → Prop} {P : Int32 → Sto → Prop} (C : Cy B E RX4 cX4_openings 3 (some .int) 2 48 (Zm (QFi P))) (σ : Sto) (h : w_X4_openings σ P) : E 0 [(0, .ref (B + 95))] [] σ := by
  unfold w_X4_openings at h
  refine f_aload_n C (j := 0) dX4_openings_0 rfl rfl rfl ?_
  refine f_callVi C (a := 95) (ci := 4) (As := fun B => []) o95 rfl (c_X4_orders   _ _ h) tM_X4_78 tI_X4_orders tS_X4_orders tN_X4 tC_X4_orders 0 dd_X4_orders rfl (by decide) (by decide) rfl (Nat.le_of_ble_eq_true rfl) dX4_openings_1 rfl (fun r_2 σ_1 h => ?_)
  refine f_if_ne C (t := 9) dX4_openings_4 (by decide) rfl (fun hq_3 => ?_) (fun hq_3 => ?_)
  · replace h := Eq.mp (if_neg hq_3) h
    refine f_iconst C (v := 0) dX4_openings_9 kc0 rfl ?_
    refine f_istore_n C (lv2 := [(1, .int 0), (0, .ref (B + 95))]) dX4_openings_10 rfl (by decide) rfl rfl ?_
    refine f_iconst C (v := 0) dX4_openings_11 kc0 rfl ?_
    refine f_istore_n C (lv2 := [(2, .int 0), (1, .int 0), (0, .ref (B + 95))]) dX4_openings_12 rfl (by decide) rfl rfl ?_
    refine f_lv C (lv2 := [(0, .ref (B + 95)), (1, .int 0), (2, .int 0)]) [2, 1, 0] rfl ?_
    exact Lp_sound (fun s : Int32 × Int32 × Sto => E 13 [(0, .ref (B + 95)), (1, .int s.1), (2, .int s.2.1)] [] s.2.2) h (fun K s hK h => s_X4_openings_13 C s.1 s.2.1 K (fun x1 x2 σ hk => hK (x1, x2, σ) hk) s.2.2 h)
  · replace h := Eq.mp (if_pos hq_3) h
    refine f_iconst C (v := 0) dX4_openings_7 kc0 rfl ?_
    exact f_iret C dX4_openings_8 h
theorem c_X4_openings (σ : Sto) (P : Int32 → Sto → Prop) (h : w_X4_openings σ P) : Ct yX4_openings cX4_openings 3 (some .int) 2 48 (fun B => [.ref (B + 95)]) σ (QFi P) := Ct.of (by decide) (fun _ => Nat.le_of_ble_eq_true rfl) (fun B E C => s_X4_openings C σ h)
def w_X4_fewestUntrue_31 (K19 : Int32 × Sto → Prop) (K31 : Int32 × Int32 × Sto → Prop) (x1 : Int32) (x2 : Int32) (x3 : Int32) (x4 : Int32) (σ : Sto) (P : Int32 → Sto → Prop) : Prop :=
  isCity (gr σ 95 3) ∧ (if (gi σ (gr σ 95 3) 8) ≤ x4 then vp_in x2 4096 ∧ ∀ x2_9 : Int32, x2_9 = x2 + 1 → K19 (x2_9, si σ 87 (tn x2) x3) else ∀ x5_11 : Int32, x5_11 = x2 &&& (~~~(1 <<< (x4 &&& 31))) → (if x5_11 = x2 then ∀ x4_14 : Int32, x4_14 = x4 + 1 → K31 (x3, x4_14, σ) else vp_in x5_11 4096 ∧ vp_in x4 12 ∧ w_J6_bitCount_0f7a4 ((gi σ ((gr σ 95 3) + 7) (tn x4)) &&& x5_11) σ (fun r_19 σ_18 => ∀ x3_20 : Int32, x3_20 = (if ((gi σ 87 (tn x5_11)) + r_19) < x3 then ((gi σ 87 (tn x5_11)) + r_19) else x3) → ∀ x4_22 : Int32, x4_22 = x4 + 1 → K31 (x3_20, x4_22, σ_18))))
theorem s_X4_fewestUntrue_31 {B : Nat} {E : Nat → List (Nat × Value) → List Value → Sto → Prop} {P : Int32 → Sto → Prop} (C : Cy B E RX4 cX4_fewestUntrue 6 (some .int) 1 21 (Zm (QFi P))) (x1 : Int32) (x2 : Int32) (x3 : Int32) (x4 : Int32) (K19 : Int32 × Sto → Prop) (K31 : Int32 × Int32 × Sto → Prop) (hK19 : ∀ (x2 : Int32) (σ : Sto), K19 (x2, σ) → E 19 [(0, .ref (B + 95)), (1, .int x1), (2, .int x2)] [] σ) (hK31 : ∀ (x3 : Int32) (x4 : Int32) (σ : Sto), K31 (x3, x4, σ) → E 31 [(0, .ref (B + 95)), (1, .int x1), (2, .int x2), (3, .int x3), (4, .int x4)] [] σ) (σ : Sto) (h : w_X4_fewestUntrue_31 K19 K31 x1 x2 x3 x4 σ P) : E 31 [(0, .ref (B + 95)), (1, .int x1), (2, .int x2), (3, .int x3), (4, .int x4)] [] σ := by
  unfold w_X4_fewestUntrue_31 at h
  refine f_iload C (j := 4) dX4_fewestUntrue_31 rfl rfl ?_
  refine f_aload_n C (j := 0) dX4_fewestUntrue_33 rfl rfl rfl ?_
  obtain ⟨hc_6, h⟩ := h
  refine f_getm C tF_X4_9 rfl o95 cn95_3 hc_6.z dX4_fewestUntrue_34 rfl ?_
  refine f_geti C tF_X4_32 rfl hc_6.o dX4_fewestUntrue_37 rfl ?_
  refine f_icmp_ge C (t := 94) dX4_fewestUntrue_40 (by decide) rfl (fun hq_7 => ?_) (fun hq_7 => ?_)
  · replace h := Eq.mp (if_pos hq_7) h
    refine f_aload_n C (j := 0) dX4_fewestUntrue_94 rfl rfl rfl ?_
    refine f_getc C tF_X4_19 rfl o95 cs95_1 (by decide) dX4_fewestUntrue_95 rfl ?_
    refine f_iload_n C (j := 2) dX4_fewestUntrue_98 rfl rfl rfl ?_
    refine f_iload_n C (j := 3) dX4_fewestUntrue_99 rfl rfl rfl ?_
    obtain ⟨hi_8, h⟩ := h
    refine f_iast C (j := tn x2) a87 hi_8 rfl dX4_fewestUntrue_100 rfl ?_
    obtain ⟨x2_9, hx_10⟩ : ∃ y : Int32, y = x2 + 1 := ⟨_, rfl⟩
    replace h := h x2_9 hx_10
    refine f_iinc C (j := 2) (v := x2_9) (lv2 := [(2, .int x2_9), (0, .ref (B + 95)), (1, .int x1), (3, .int x3), (4, .int x4)]) dX4_fewestUntrue_101 rfl hx_10.symm (by decide) rfl rfl ?_
    refine f_goto C (t := 19) dX4_fewestUntrue_104 (by decide) ?_
    refine f_lv C (lv2 := [(0, .ref (B + 95)), (1, .int x1), (2, .int x2_9)]) [1, 2, 0] rfl ?_
    exact hK19 _ _ h
  · replace h := Eq.mp (if_neg hq_7) h
    refine f_iload_n C (j := 2) dX4_fewestUntrue_43 rfl rfl rfl ?_
    refine f_iconst C (v := 1) dX4_fewestUntrue_44 kc1 rfl ?_
    refine f_iload C (j := 4) dX4_fewestUntrue_45 rfl rfl ?_
    refine f_ishl C dX4_fewestUntrue_47 rfl ?_
    refine f_iconst C (v := (-1)) dX4_fewestUntrue_48 kcm1 rfl ?_
    refine f_inot C dX4_fewestUntrue_49 rfl ?_
    refine f_iand C dX4_fewestUntrue_50 rfl ?_
    refine f_name (fun x5_11 hx_12 => ?_)
    replace h := h x5_11 hx_12
    refine f_istore C (lv2 := [(5, .int x5_11), (0, .ref (B + 95)), (1, .int x1), (2, .int x2), (3, .int x3), (4, .int x4)]) dX4_fewestUntrue_51 (by decide) rfl rfl ?_
    refine f_iload C (j := 0) dX4_fewestUntrue_53 rfl rfl ?_
    refine f_iload_n C (j := 3) dX4_fewestUntrue_55 rfl rfl rfl ?_
    refine f_icmp_eq C (t := 88) dX4_fewestUntrue_56 (by decide) rfl (fun hq_13 => ?_) (fun hq_13 => ?_)
    · replace h := Eq.mp (if_pos hq_13) h
      obtain ⟨x4_14, hx_15⟩ : ∃ y : Int32, y = x4 + 1 := ⟨_, rfl⟩
      replace h := h x4_14 hx_15
      refine f_iinc C (j := 5) (v := x4_14) (lv2 := [(4, .int x4_14), (5, .int x5_11), (0, .ref (B + 95)), (1, .int x1), (2, .int x2), (3, .int x3)]) dX4_fewestUntrue_88 rfl hx_15.symm (by decide) rfl rfl ?_
      refine f_goto C (t := 31) dX4_fewestUntrue_91 (by decide) ?_
      refine f_lv C (lv2 := [(0, .ref (B + 95)), (1, .int x1), (2, .int x2), (3, .int x3), (4, .int x4_14)]) [2, 3, 4, 5, 0] rfl ?_
      exact hK31 _ _ _ h
    · replace h := Eq.mp (if_neg hq_13) h
      refine f_iload_n C (j := 4) dX4_fewestUntrue_59 rfl rfl rfl ?_
      refine f_aload_n C (j := 1) dX4_fewestUntrue_60 rfl rfl rfl ?_
      refine f_getc C tF_X4_19 rfl o95 cs95_1 (by decide) dX4_fewestUntrue_61 rfl ?_
      refine f_iload C (j := 0) dX4_fewestUntrue_64 rfl rfl ?_
      obtain ⟨hi_16, h⟩ := h
      refine f_iald C (j := tn x5_11) a87 hi_16 rfl dX4_fewestUntrue_66 rfl ?_
      refine f_aload_n C (j := 1) dX4_fewestUntrue_67 rfl rfl rfl ?_
      refine f_getm C tF_X4_9 rfl o95 cn95_3 hc_6.z dX4_fewestUntrue_68 rfl ?_
      refine f_getc C tF_X4_75 rfl hc_6.o hc_6.c6 (Nat.succ_ne_zero _) dX4_fewestUntrue_71 rfl ?_
      refine f_iload C (j := 5) dX4_fewestUntrue_74 rfl rfl ?_
      obtain ⟨hi_17, h⟩ := h
      refine f_iald C (j := tn x4) hc_6.a6 hi_17 rfl dX4_fewestUntrue_76 rfl ?_
      refine f_iload C (j := 0) dX4_fewestUntrue_77 rfl rfl ?_
      refine f_iand C dX4_fewestUntrue_79 rfl ?_
      refine f_callSi C (As := fun B => [.int ((gi σ ((gr σ 95 3) + 7) (tn x4)) &&& x5_11)]) (c_J6_bitCount_0f7a4  _ _ _ h) tM_X4_52 tT_J6_bitCount_0f7a4 tN_J6 tC_J6_bitCount_0f7a4 1 dd_J6_bitCount_0f7a4 rfl (by decide) (by decide) rfl (Nat.le_of_ble_eq_true rfl) dX4_fewestUntrue_80 rfl (fun r_19 σ_18 h => ?_)
      refine f_iadd C dX4_fewestUntrue_83 rfl ?_
      refine f_mmin C tM_X4_69 tT_J9_min_7cf53 tN_J9 tC_J9_min_7cf53 (by decide) (by decide) (Nat.le_of_ble_eq_true rfl) dX4_fewestUntrue_84 rfl ?_
      refine f_name (fun x3_20 hx_21 => ?_)
      replace h := h x3_20 hx_21
      refine f_istore_n C (lv2 := [(3, .int x3_20), (5, .int x5_11), (0, .ref (B + 95)), (1, .int x1), (2, .int x2), (4, .int x4)]) dX4_fewestUntrue_87 rfl (by decide) rfl rfl ?_
      obtain ⟨x4_22, hx_23⟩ : ∃ y : Int32, y = x4 + 1 := ⟨_, rfl⟩
      replace h := h x4_22 hx_23
      refine f_iinc C (j := 5) (v := x4_22) (lv2 := [(4, .int x4_22), (3, .int x3_20), (5, .int x5_11), (0, .ref (B + 95)), (1, .int x1), (2, .int x2)]) dX4_fewestUntrue_88 rfl hx_23.symm (by decide) rfl rfl ?_
      refine f_goto C (t := 31) dX4_fewestUntrue_91 (by decide) ?_
      refine f_lv C (lv2 := [(0, .ref (B + 95)), (1, .int x1), (2, .int x2), (3, .int x3_20), (4, .int x4_22)]) [3, 4, 5, 1, 0] rfl ?_
      exact hK31 _ _ _ h
def w_X4_fewestUntrue_19 (K19 : Int32 × Sto → Prop) (x1 : Int32) (x2 : Int32) (σ : Sto) (P : Int32 → Sto → Prop) : Prop :=
  (if x1 ≤ x2 then vp_in (x1 - 1) 4096 ∧ P (gi σ 87 (tn (x1 - 1))) σ else Lp (fun (K : Int32 × Int32 × Sto → Prop) s => w_X4_fewestUntrue_31 K19 K x1 x2 s.1 s.2.1 s.2.2 P) (144, 0, σ))
theorem s_X4_fewestUntrue_19 {B : Nat} {E : Nat → List (Nat × Value) → List Value → Sto → Prop} {P : Int32 → Sto → Prop} (C : Cy B E RX4 cX4_fewestUntrue 6 (some .int) 1 21 (Zm (QFi P))) (x1 : Int32) (x2 : Int32) (K19 : Int32 × Sto → Prop) (hK19 : ∀ (x2 : Int32) (σ : Sto), K19 (x2, σ) → E 19 [(0, .ref (B + 95)), (1, .int x1), (2, .int x2)] [] σ) (σ : Sto) (h : w_X4_fewestUntrue_19 K19 x1 x2 σ P) : E 19 [(0, .ref (B + 95)), (1, .int x1), (2, .int x2)] [] σ := by
  unfold w_X4_fewestUntrue_19 at h
  refine f_iload_n C (j := 2) dX4_fewestUntrue_19 rfl rfl rfl ?_
  refine f_iload_n C (j := 1) dX4_fewestUntrue_20 rfl rfl rfl ?_
  refine f_icmp_ge C (t := 107) dX4_fewestUntrue_21 (by decide) rfl (fun hq_4 => ?_) (fun hq_4 => ?_)
  · replace h := Eq.mp (if_pos hq_4) h
    refine f_aload_n C (j := 0) dX4_fewestUntrue_107 rfl rfl rfl ?_
    refine f_getc C tF_X4_19 rfl o95 cs95_1 (by decide) dX4_fewestUntrue_108 rfl ?_
    refine f_iload_n C (j := 1) dX4_fewestUntrue_111 rfl rfl rfl ?_
    refine f_iconst C (v := 1) dX4_fewestUntrue_112 kc1 rfl ?_
    refine f_isub C dX4_fewestUntrue_113 rfl ?_
    obtain ⟨hi_5, h⟩ := h
    refine f_iald C (j := tn (x1 - 1)) a87 hi_5 rfl dX4_fewestUntrue_114 rfl ?_
    exact f_iret C dX4_fewestUntrue_115 h
  · replace h := Eq.mp (if_neg hq_4) h
    refine f_sipush C (v := 144) dX4_fewestUntrue_24 ks144 rfl ?_
    refine f_istore_n C (lv2 := [(3, .int 144), (0, .ref (B + 95)), (1, .int x1), (2, .int x2)]) dX4_fewestUntrue_27 rfl (by decide) rfl rfl ?_
    refine f_iconst C (v := 0) dX4_fewestUntrue_28 kc0 rfl ?_
    refine f_istore C (lv2 := [(4, .int 0), (3, .int 144), (0, .ref (B + 95)), (1, .int x1), (2, .int x2)]) dX4_fewestUntrue_29 (by decide) rfl rfl ?_
    refine f_lv C (lv2 := [(0, .ref (B + 95)), (1, .int x1), (2, .int x2), (3, .int 144), (4, .int 0)]) [2, 3, 4, 1, 0] rfl ?_
    exact Lp_sound (fun s : Int32 × Int32 × Sto => E 31 [(0, .ref (B + 95)), (1, .int x1), (2, .int x2), (3, .int s.1), (4, .int s.2.1)] [] s.2.2) h (fun K s hK h => s_X4_fewestUntrue_31 C x1 x2 s.1 s.2.1 K19 K hK19 (fun x3 x4 σ hk => hK (x3, x4, σ) hk) s.2.2 h)
def w_X4_fewestUntrue (σ : Sto) (P : Int32 → Sto → Prop) : Prop :=
  isCity (gr σ 95 3) ∧ ∀ x1_2 : Int32, x1_2 = 1 <<< ((gi σ (gr σ 95 3) 8) &&& 31) → Lp (fun (K : Int32 × Sto → Prop) s => w_X4_fewestUntrue_19 K x1_2 s.1 s.2 P) (1, si σ 87 0 0)
theorem s_X4_fewestUntrue {B : Nat} {E : Nat → List (Nat × Value) → List Value → Sto → Prop} {P : Int32 → Sto → Prop} (C : Cy B E RX4 cX4_fewestUntrue 6 (some .int) 1 21 (Zm (QFi P))) (σ : Sto) (h : w_X4_fewestUntrue σ P) : E 0 [(0, .ref (B + 95))] [] σ := by
  unfold w_X4_fewestUntrue at h
  refine f_iconst C (v := 1) dX4_fewestUntrue_0 kc1 rfl ?_
  refine f_aload_n C (j := 0) dX4_fewestUntrue_1 rfl rfl rfl ?_
  obtain ⟨hc_1, h⟩ := h
  refine f_getm C tF_X4_9 rfl o95 cn95_3 hc_1.z dX4_fewestUntrue_2 rfl ?_
  refine f_geti C tF_X4_32 rfl hc_1.o dX4_fewestUntrue_5 rfl ?_
  refine f_ishl C dX4_fewestUntrue_8 rfl ?_
  refine f_name (fun x1_2 hx_3 => ?_)
  replace h := h x1_2 hx_3
  refine f_istore_n C (lv2 := [(1, .int x1_2), (0, .ref (B + 95))]) dX4_fewestUntrue_9 rfl (by decide) rfl rfl ?_
  refine f_aload_n C (j := 1) dX4_fewestUntrue_10 rfl rfl rfl ?_
  refine f_getc C tF_X4_19 rfl o95 cs95_1 (by decide) dX4_fewestUntrue_11 rfl ?_
  refine f_iconst C (v := 0) dX4_fewestUntrue_14 kc0 rfl ?_
  refine f_iconst C (v := 0) dX4_fewestUntrue_15 kc0 rfl ?_
  refine f_iast C (j := 0) a87 (vp_lit (by decide)) rfl dX4_fewestUntrue_16 rfl ?_
  refine f_iconst C (v := 1) dX4_fewestUntrue_17 kc1 rfl ?_
  refine f_istore_n C (lv2 := [(2, .int 1), (1, .int x1_2), (0, .ref (B + 95))]) dX4_fewestUntrue_18 rfl (by decide) rfl rfl ?_
  refine f_lv C (lv2 := [(0, .ref (B + 95)), (1, .int x1_2), (2, .int 1)]) [2, 1, 0] rfl ?_
  exact Lp_sound (fun s : Int32 × Sto => E 19 [(0, .ref (B + 95)), (1, .int x1_2), (2, .int s.1)] [] s.2) h (fun K s hK h => s_X4_fewestUntrue_19 C x1_2 s.1 K (fun x2 σ hk => hK (x2, σ) hk) s.2 h)
theorem c_X4_fewestUntrue (σ : Sto) (P : Int32 → Sto → Prop) (h : w_X4_fewestUntrue σ P) : Ct yX4_fewestUntrue cX4_fewestUntrue 6 (some .int) 1 21 (fun B => [.ref (B + 95)]) σ (QFi P) := Ct.of (by decide) (fun _ => Nat.le_of_ble_eq_true rfl) (fun B E C => s_X4_fewestUntrue C σ h)
def w_X5_turnTo (a1 : Nat) (σ : Sto) (P : Sto → Prop) : Prop :=
  isCity a1 ∧ P (sr σ 93 5 a1)
theorem s_X5_turnTo {B : Nat} {E : Nat → List (Nat × Value) → List Value → Sto → Prop} {P : Sto → Prop} (C : Cy B E RX5 cX5_turnTo 2 none 0 0 (Zm (QFv P))) (a1 : Nat) (σ : Sto) (h : w_X5_turnTo a1 σ P) : E 0 [(0, .ref (B + 93)), (1, .ref (B + a1))] [] σ := by
  unfold w_X5_turnTo at h
  refine f_aload_n C (j := 0) dX5_turnTo_0 rfl rfl rfl ?_
  refine f_aload_n C (j := 1) dX5_turnTo_1 rfl rfl rfl ?_
  obtain ⟨hc_1, h⟩ := h
  refine f_putr C tF_X5_9 fm_5_5 rfl hc_1.z cn93_5 o93 dX5_turnTo_2 rfl ?_
  exact f_vret C dX5_turnTo_5 h
theorem c_X5_turnTo (a1 : Nat) (σ : Sto) (P : Sto → Prop) (h : w_X5_turnTo a1 σ P) : Ct yX5_turnTo cX5_turnTo 2 none 0 0 (fun B => [.ref (B + 93), .ref (B + a1)]) σ (QFv P) := Ct.of (by decide) (fun _ => Nat.le_of_ble_eq_true rfl) (fun B E C => s_X5_turnTo C a1 σ h)
def w_X5_yearsTillWithout_10 (K10 : Int32 × Int32 × Sto → Prop) (x1 : Int32) (x2 : Int32) (x3 : Int32) (σ : Sto) (P : Int32 → Sto → Prop) : Prop :=
  (if 99 < x3 then P (-1) σ else w_X6_without x2 σ (fun r_6 σ_5 => (if (x1 &&& (~~~r_6)) = 0 then isCity (gr σ_5 93 5) ∧ w_X0_goneNextYear x2 (gi σ_5 (gr σ_5 93 5) 15) σ_5 (fun r_10 σ_9 => ∀ x3_11 : Int32, x3_11 = x3 + 1 → K10 (r_10, x3_11, σ_9)) else P x3 σ_5)))
theorem s_X5_yearsTillWithout_10 {B : Nat} {E : Nat → List (Nat × Value) → List Value → Sto → Prop} {P : Int32 → Sto → Prop} (C : Cy B E RX5 cX5_yearsTillWithout 4 (some .int) 3 77 (Zm (QFi P))) (x1 : Int32) (x2 : Int32) (x3 : Int32) (K10 : Int32 × Int32 × Sto → Prop) (hK10 : ∀ (x2 : Int32) (x3 : Int32) (σ : Sto), K10 (x2, x3, σ) → E 10 [(0, .ref (B + 93)), (1, .int x1), (2, .int x2), (3, .int x3)] [] σ) (σ : Sto) (h : w_X5_yearsTillWithout_10 K10 x1 x2 x3 σ P) : E 10 [(0, .ref (B + 93)), (1, .int x1), (2, .int x2), (3, .int x3)] [] σ := by
  unfold w_X5_yearsTillWithout_10 at h
  refine f_iload_n C (j := 3) dX5_yearsTillWithout_10 rfl rfl rfl ?_
  refine f_bipush C (v := 99) dX5_yearsTillWithout_11 kb99 rfl ?_
  refine f_icmp_gt C (t := 55) dX5_yearsTillWithout_13 (by decide) rfl (fun hq_4 => ?_) (fun hq_4 => ?_)
  · replace h := Eq.mp (if_pos hq_4) h
    refine f_iconst C (v := (-1)) dX5_yearsTillWithout_55 kcm1 rfl ?_
    exact f_iret C dX5_yearsTillWithout_56 h
  · replace h := Eq.mp (if_neg hq_4) h
    refine f_iload_n C (j := 1) dX5_yearsTillWithout_16 rfl rfl rfl ?_
    refine f_aload_n C (j := 0) dX5_yearsTillWithout_17 rfl rfl rfl ?_
    refine f_getc C tF_X5_15 rfl o93 cs93_0 (by decide) dX5_yearsTillWithout_18 rfl ?_
    refine f_iload_n C (j := 2) dX5_yearsTillWithout_21 rfl rfl rfl ?_
    refine f_callVi C (a := 88) (ci := 6) (As := fun B => [.int x2]) o88 rfl (c_X6_without  _ _ _ h) tM_X5_42 tI_X6_without tS_X6_without tN_X6 tC_X6_without 1 dd_X6_without rfl (by decide) (by decide) rfl (Nat.le_of_ble_eq_true rfl) dX5_yearsTillWithout_22 rfl (fun r_6 σ_5 h => ?_)
    refine f_iconst C (v := (-1)) dX5_yearsTillWithout_25 kcm1 rfl ?_
    refine f_inot C dX5_yearsTillWithout_26 rfl ?_
    refine f_iand C dX5_yearsTillWithout_27 rfl ?_
    refine f_if_eq C (t := 33) dX5_yearsTillWithout_28 (by decide) rfl (fun hq_7 => ?_) (fun hq_7 => ?_)
    · replace h := Eq.mp (if_pos hq_7) h
      refine f_aload_n C (j := 0) dX5_yearsTillWithout_33 rfl rfl rfl ?_
      refine f_getc C tF_X5_19 rfl o93 cs93_1 (by decide) dX5_yearsTillWithout_34 rfl ?_
      refine f_iload_n C (j := 2) dX5_yearsTillWithout_37 rfl rfl rfl ?_
      refine f_aload_n C (j := 0) dX5_yearsTillWithout_38 rfl rfl rfl ?_
      obtain ⟨hc_8, h⟩ := h
      refine f_getm C tF_X5_9 rfl o93 cn93_5 hc_8.z dX5_yearsTillWithout_39 rfl ?_
      refine f_geti C tF_X5_48 rfl hc_8.o dX5_yearsTillWithout_42 rfl ?_
      refine f_callVi C (a := 90) (ci := 0) (As := fun B => [.int x2, .int (gi σ_5 (gr σ_5 93 5) 15)]) o90 rfl (c_X0_goneNextYear  _ _ _ _ h) tM_X5_51 tI_X0_goneNextYear tS_X0_goneNextYear tN_X0 tC_X0_goneNextYear 2 dd_X0_goneNextYear rfl (by decide) (by decide) rfl (Nat.le_of_ble_eq_true rfl) dX5_yearsTillWithout_45 rfl (fun r_10 σ_9 h => ?_)
      refine f_istore_n C (lv2 := [(2, .int r_10), (0, .ref (B + 93)), (1, .int x1), (3, .int x3)]) dX5_yearsTillWithout_48 rfl (by decide) rfl rfl ?_
      obtain ⟨x3_11, hx_12⟩ : ∃ y : Int32, y = x3 + 1 := ⟨_, rfl⟩
      replace h := h x3_11 hx_12
      refine f_iinc C (j := 3) (v := x3_11) (lv2 := [(3, .int x3_11), (2, .int r_10), (0, .ref (B + 93)), (1, .int x1)]) dX5_yearsTillWithout_49 rfl hx_12.symm (by decide) rfl rfl ?_
      refine f_goto C (t := 10) dX5_yearsTillWithout_52 (by decide) ?_
      refine f_lv C (lv2 := [(0, .ref (B + 93)), (1, .int x1), (2, .int r_10), (3, .int x3_11)]) [2, 3, 1, 0] rfl ?_
      exact hK10 _ _ _ h
    · replace h := Eq.mp (if_neg hq_7) h
      refine f_iload_n C (j := 3) dX5_yearsTillWithout_31 rfl rfl rfl ?_
      exact f_iret C dX5_yearsTillWithout_32 h
def w_X5_yearsTillWithout (x1 : Int32) (σ : Sto) (P : Int32 → Sto → Prop) : Prop :=
  isCity (gr σ 93 5) ∧ ∀ x2_2 : Int32, x2_2 = gi σ (gr σ 93 5) 14 → Lp (fun (K : Int32 × Int32 × Sto → Prop) s => w_X5_yearsTillWithout_10 K x1 s.1 s.2.1 s.2.2 P) (x2_2, 0, σ)
theorem s_X5_yearsTillWithout {B : Nat} {E : Nat → List (Nat × Value) → List Value → Sto → Prop} {P : Int32 → Sto → Prop} (C : Cy B E RX5 cX5_yearsTillWithout 4 (some .int) 3 77 (Zm (QFi P))) (x1 : Int32) (σ : Sto) (h : w_X5_yearsTillWithout x1 σ P) : E 0 [(0, .ref (B + 93)), (1, .int x1)] [] σ := by
  unfold w_X5_yearsTillWithout at h
  refine f_aload_n C (j := 0) dX5_yearsTillWithout_0 rfl rfl rfl ?_
  obtain ⟨hc_1, h⟩ := h
  refine f_getm C tF_X5_9 rfl o93 cn93_5 hc_1.z dX5_yearsTillWithout_1 rfl ?_
  refine f_geti C tF_X5_37 rfl hc_1.o dX5_yearsTillWithout_4 rfl ?_
  refine f_name (fun x2_2 hx_3 => ?_)
  replace h := h x2_2 hx_3
  refine f_istore_n C (lv2 := [(2, .int x2_2), (0, .ref (B + 93)), (1, .int x1)]) dX5_yearsTillWithout_7 rfl (by decide) rfl rfl ?_
  refine f_iconst C (v := 0) dX5_yearsTillWithout_8 kc0 rfl ?_
  refine f_istore_n C (lv2 := [(3, .int 0), (2, .int x2_2), (0, .ref (B + 93)), (1, .int x1)]) dX5_yearsTillWithout_9 rfl (by decide) rfl rfl ?_
  refine f_lv C (lv2 := [(0, .ref (B + 93)), (1, .int x1), (2, .int x2_2), (3, .int 0)]) [2, 3, 1, 0] rfl ?_
  exact Lp_sound (fun s : Int32 × Int32 × Sto => E 10 [(0, .ref (B + 93)), (1, .int x1), (2, .int s.1), (3, .int s.2.1)] [] s.2.2) h (fun K s hK h => s_X5_yearsTillWithout_10 C x1 s.1 s.2.1 K (fun x2 x3 σ hk => hK (x2, x3, σ) hk) s.2.2 h)
theorem c_X5_yearsTillWithout (x1 : Int32) (σ : Sto) (P : Int32 → Sto → Prop) (h : w_X5_yearsTillWithout x1 σ P) : Ct yX5_yearsTillWithout cX5_yearsTillWithout 4 (some .int) 3 77 (fun B => [.ref (B + 93), .int x1]) σ (QFi P) := Ct.of (by decide) (fun _ => Nat.le_of_ble_eq_true rfl) (fun B E C => s_X5_yearsTillWithout C x1 σ h)
def w_X5_keeps_12 (K12 : Int32 × Int32 × Sto → Prop) (x1 : Int32) (x2 : Int32) (x3 : Int32) (x4 : Int32) (x5 : Int32) (σ : Sto) (P : Int32 → Sto → Prop) : Prop :=
  (if x3 < x5 then P 1 σ else w_X6_without x4 σ (fun r_6 σ_5 => (if (x1 &&& (~~~r_6)) = 0 then isCity (gr σ_5 93 5) ∧ w_X0_goneNextYear x4 ((gi σ_5 (gr σ_5 93 5) 15) ||| x2) σ_5 (fun r_10 σ_9 => (if r_10 = x4 then P 1 σ_9 else ∀ x5_12 : Int32, x5_12 = x5 + 1 → K12 (r_10, x5_12, σ_9))) else P 0 σ_5)))
theorem s_X5_keeps_12 {B : Nat} {E : Nat → List (Nat × Value) → List Value → Sto → Prop} {P : Int32 → Sto → Prop} (C : Cy B E RX5 cX5_keeps 7 (some .boolean) 3 77 (Zm (QFi P))) (x1 : Int32) (x2 : Int32) (x3 : Int32) (x4 : Int32) (x5 : Int32) (K12 : Int32 × Int32 × Sto → Prop) (hK12 : ∀ (x4 : Int32) (x5 : Int32) (σ : Sto), K12 (x4, x5, σ) → E 12 [(0, .ref (B + 93)), (1, .int x1), (2, .int x2), (3, .int x3), (4, .int x4), (5, .int x5)] [] σ) (σ : Sto) (h : w_X5_keeps_12 K12 x1 x2 x3 x4 x5 σ P) : E 12 [(0, .ref (B + 93)), (1, .int x1), (2, .int x2), (3, .int x3), (4, .int x4), (5, .int x5)] [] σ := by
  unfold w_X5_keeps_12 at h
  refine f_iload C (j := 5) dX5_keeps_12 rfl rfl ?_
  refine f_iload_n C (j := 3) dX5_keeps_14 rfl rfl rfl ?_
  refine f_icmp_gt C (t := 75) dX5_keeps_15 (by decide) rfl (fun hq_4 => ?_) (fun hq_4 => ?_)
  · replace h := Eq.mp (if_pos hq_4) h
    refine f_iconst C (v := 1) dX5_keeps_75 kc1 rfl ?_
    exact f_zret C (Or.inr rfl) dX5_keeps_76 h
  · replace h := Eq.mp (if_neg hq_4) h
    refine f_iload_n C (j := 1) dX5_keeps_18 rfl rfl rfl ?_
    refine f_aload_n C (j := 0) dX5_keeps_19 rfl rfl rfl ?_
    refine f_getc C tF_X5_15 rfl o93 cs93_0 (by decide) dX5_keeps_20 rfl ?_
    refine f_iload C (j := 4) dX5_keeps_23 rfl rfl ?_
    refine f_callVi C (a := 88) (ci := 6) (As := fun B => [.int x4]) o88 rfl (c_X6_without  _ _ _ h) tM_X5_42 tI_X6_without tS_X6_without tN_X6 tC_X6_without 1 dd_X6_without rfl (by decide) (by decide) rfl (Nat.le_of_ble_eq_true rfl) dX5_keeps_25 rfl (fun r_6 σ_5 h => ?_)
    refine f_iconst C (v := (-1)) dX5_keeps_28 kcm1 rfl ?_
    refine f_inot C dX5_keeps_29 rfl ?_
    refine f_iand C dX5_keeps_30 rfl ?_
    refine f_if_eq C (t := 36) dX5_keeps_31 (by decide) rfl (fun hq_7 => ?_) (fun hq_7 => ?_)
    · replace h := Eq.mp (if_pos hq_7) h
      refine f_aload_n C (j := 0) dX5_keeps_36 rfl rfl rfl ?_
      refine f_getc C tF_X5_19 rfl o93 cs93_1 (by decide) dX5_keeps_37 rfl ?_
      refine f_iload C (j := 4) dX5_keeps_40 rfl rfl ?_
      refine f_aload_n C (j := 0) dX5_keeps_42 rfl rfl rfl ?_
      obtain ⟨hc_8, h⟩ := h
      refine f_getm C tF_X5_9 rfl o93 cn93_5 hc_8.z dX5_keeps_43 rfl ?_
      refine f_geti C tF_X5_48 rfl hc_8.o dX5_keeps_46 rfl ?_
      refine f_iload_n C (j := 2) dX5_keeps_49 rfl rfl rfl ?_
      refine f_ior C dX5_keeps_50 rfl ?_
      refine f_callVi C (a := 90) (ci := 0) (As := fun B => [.int x4, .int ((gi σ_5 (gr σ_5 93 5) 15) ||| x2)]) o90 rfl (c_X0_goneNextYear  _ _ _ _ h) tM_X5_51 tI_X0_goneNextYear tS_X0_goneNextYear tN_X0 tC_X0_goneNextYear 2 dd_X0_goneNextYear rfl (by decide) (by decide) rfl (Nat.le_of_ble_eq_true rfl) dX5_keeps_51 rfl (fun r_10 σ_9 h => ?_)
      refine f_istore C (lv2 := [(6, .int r_10), (0, .ref (B + 93)), (1, .int x1), (2, .int x2), (3, .int x3), (4, .int x4), (5, .int x5)]) dX5_keeps_54 (by decide) rfl rfl ?_
      refine f_iload C (j := 0) dX5_keeps_56 rfl rfl ?_
      refine f_iload C (j := 5) dX5_keeps_58 rfl rfl ?_
      refine f_icmp_ne C (t := 65) dX5_keeps_60 (by decide) rfl (fun hq_11 => ?_) (fun hq_11 => ?_)
      · replace h := Eq.mp (if_neg hq_11) h
        refine f_iload C (j := 0) dX5_keeps_65 rfl rfl ?_
        refine f_istore C (lv2 := [(4, .int r_10), (6, .int r_10), (0, .ref (B + 93)), (1, .int x1), (2, .int x2), (3, .int x3), (5, .int x5)]) dX5_keeps_67 (by decide) rfl rfl ?_
        obtain ⟨x5_12, hx_13⟩ : ∃ y : Int32, y = x5 + 1 := ⟨_, rfl⟩
        replace h := h x5_12 hx_13
        refine f_iinc C (j := 6) (v := x5_12) (lv2 := [(5, .int x5_12), (4, .int r_10), (6, .int r_10), (0, .ref (B + 93)), (1, .int x1), (2, .int x2), (3, .int x3)]) dX5_keeps_69 rfl hx_13.symm (by decide) rfl rfl ?_
        refine f_goto C (t := 12) dX5_keeps_72 (by decide) ?_
        refine f_lv C (lv2 := [(0, .ref (B + 93)), (1, .int x1), (2, .int x2), (3, .int x3), (4, .int r_10), (5, .int x5_12)]) [3, 4, 5, 6, 1, 0] rfl ?_
        exact hK12 _ _ _ h
      · replace h := Eq.mp (if_pos hq_11) h
        refine f_iconst C (v := 1) dX5_keeps_63 kc1 rfl ?_
        exact f_zret C (Or.inr rfl) dX5_keeps_64 h
    · replace h := Eq.mp (if_neg hq_7) h
      refine f_iconst C (v := 0) dX5_keeps_34 kc0 rfl ?_
      exact f_zret C (Or.inl rfl) dX5_keeps_35 h
def w_X5_keeps (x1 : Int32) (x2 : Int32) (x3 : Int32) (σ : Sto) (P : Int32 → Sto → Prop) : Prop :=
  isCity (gr σ 93 5) ∧ ∀ x4_2 : Int32, x4_2 = gi σ (gr σ 93 5) 14 → Lp (fun (K : Int32 × Int32 × Sto → Prop) s => w_X5_keeps_12 K x1 x2 x3 s.1 s.2.1 s.2.2 P) (x4_2, 0, σ)
theorem s_X5_keeps {B : Nat} {E : Nat → List (Nat × Value) → List Value → Sto → Prop} {P : Int32 → Sto → Prop} (C : Cy B E RX5 cX5_keeps 7 (some .boolean) 3 77 (Zm (QFi P))) (x1 : Int32) (x2 : Int32) (x3 : Int32) (σ : Sto) (h : w_X5_keeps x1 x2 x3 σ P) : E 0 [(0, .ref (B + 93)), (1, .int x1), (2, .int x2), (3, .int x3)] [] σ := by
  unfold w_X5_keeps at h
  refine f_aload_n C (j := 0) dX5_keeps_0 rfl rfl rfl ?_
  obtain ⟨hc_1, h⟩ := h
  refine f_getm C tF_X5_9 rfl o93 cn93_5 hc_1.z dX5_keeps_1 rfl ?_
  refine f_geti C tF_X5_37 rfl hc_1.o dX5_keeps_4 rfl ?_
  refine f_name (fun x4_2 hx_3 => ?_)
  replace h := h x4_2 hx_3
  refine f_istore C (lv2 := [(4, .int x4_2), (0, .ref (B + 93)), (1, .int x1), (2, .int x2), (3, .int x3)]) dX5_keeps_7 (by decide) rfl rfl ?_
  refine f_iconst C (v := 0) dX5_keeps_9 kc0 rfl ?_
  refine f_istore C (lv2 := [(5, .int 0), (4, .int x4_2), (0, .ref (B + 93)), (1, .int x1), (2, .int x2), (3, .int x3)]) dX5_keeps_10 (by decide) rfl rfl ?_
  refine f_lv C (lv2 := [(0, .ref (B + 93)), (1, .int x1), (2, .int x2), (3, .int x3), (4, .int x4_2), (5, .int 0)]) [2, 3, 4, 5, 1, 0] rfl ?_
  exact Lp_sound (fun s : Int32 × Int32 × Sto => E 12 [(0, .ref (B + 93)), (1, .int x1), (2, .int x2), (3, .int x3), (4, .int s.1), (5, .int s.2.1)] [] s.2.2) h (fun K s hK h => s_X5_keeps_12 C x1 x2 x3 s.1 s.2.1 K (fun x4 x5 σ hk => hK (x4, x5, σ) hk) s.2.2 h)
theorem c_X5_keeps (x1 : Int32) (x2 : Int32) (x3 : Int32) (σ : Sto) (P : Int32 → Sto → Prop) (h : w_X5_keeps x1 x2 x3 σ P) : Ct yX5_keeps cX5_keeps 7 (some .boolean) 3 77 (fun B => [.ref (B + 93), .int x1, .int x2, .int x3]) σ (QFi P) := Ct.of (by decide) (fun _ => Nat.le_of_ble_eq_true rfl) (fun B E C => s_X5_keeps C x1 x2 x3 σ h)
def w_X5_endsBy (x1 : Int32) (x2 : Int32) (σ : Sto) (P : Int32 → Sto → Prop) : Prop :=
  isCity (gr σ 93 5) ∧ w_X6_without ((gi σ (gr σ 93 5) 14) ||| x2) σ (fun r_3 σ_2 => (if (x1 &&& (~~~r_3)) = 0 then P 0 σ_2 else P 1 σ_2))
theorem s_X5_endsBy {B : Nat} {E : Nat → List (Nat × Value) → List Value → Sto → Prop} {P : Int32 → Sto → Prop} (C : Cy B E RX5 cX5_endsBy 3 (some .boolean) 2 49 (Zm (QFi P))) (x1 : Int32) (x2 : Int32) (σ : Sto) (h : w_X5_endsBy x1 x2 σ P) : E 0 [(0, .ref (B + 93)), (1, .int x1), (2, .int x2)] [] σ := by
  unfold w_X5_endsBy at h
  refine f_iload_n C (j := 1) dX5_endsBy_0 rfl rfl rfl ?_
  refine f_aload_n C (j := 0) dX5_endsBy_1 rfl rfl rfl ?_
  refine f_getc C tF_X5_15 rfl o93 cs93_0 (by decide) dX5_endsBy_2 rfl ?_
  refine f_aload_n C (j := 0) dX5_endsBy_5 rfl rfl rfl ?_
  obtain ⟨hc_1, h⟩ := h
  refine f_getm C tF_X5_9 rfl o93 cn93_5 hc_1.z dX5_endsBy_6 rfl ?_
  refine f_geti C tF_X5_37 rfl hc_1.o dX5_endsBy_9 rfl ?_
  refine f_iload_n C (j := 2) dX5_endsBy_12 rfl rfl rfl ?_
  refine f_ior C dX5_endsBy_13 rfl ?_
  refine f_callVi C (a := 88) (ci := 6) (As := fun B => [.int ((gi σ (gr σ 93 5) 14) ||| x2)]) o88 rfl (c_X6_without  _ _ _ h) tM_X5_42 tI_X6_without tS_X6_without tN_X6 tC_X6_without 1 dd_X6_without rfl (by decide) (by decide) rfl (Nat.le_of_ble_eq_true rfl) dX5_endsBy_14 rfl (fun r_3 σ_2 h => ?_)
  refine f_iconst C (v := (-1)) dX5_endsBy_17 kcm1 rfl ?_
  refine f_inot C dX5_endsBy_18 rfl ?_
  refine f_iand C dX5_endsBy_19 rfl ?_
  refine f_if_eq C (t := 27) dX5_endsBy_20 (by decide) rfl (fun hq_4 => ?_) (fun hq_4 => ?_)
  · replace h := Eq.mp (if_pos hq_4) h
    refine f_iconst C (v := 0) dX5_endsBy_27 kc0 rfl ?_
    exact f_zret C (Or.inl rfl) dX5_endsBy_28 h
  · replace h := Eq.mp (if_neg hq_4) h
    refine f_iconst C (v := 1) dX5_endsBy_23 kc1 rfl ?_
    refine f_goto C (t := 28) dX5_endsBy_24 (by decide) ?_
    exact f_zret C (Or.inr rfl) dX5_endsBy_28 h
theorem c_X5_endsBy (x1 : Int32) (x2 : Int32) (σ : Sto) (P : Int32 → Sto → Prop) (h : w_X5_endsBy x1 x2 σ P) : Ct yX5_endsBy cX5_endsBy 3 (some .boolean) 2 49 (fun B => [.ref (B + 93), .int x1, .int x2]) σ (QFi P) := Ct.of (by decide) (fun _ => Nat.le_of_ble_eq_true rfl) (fun B E C => s_X5_endsBy C x1 x2 σ h)
def w_X5_nextWithin (x0 : Int32) (x1 : Int32) (σ : Sto) (P : Int32 → Sto → Prop) : Prop :=
  P ((x0 - x1) &&& x1) σ
theorem s_X5_nextWithin {B : Nat} {E : Nat → List (Nat × Value) → List Value → Sto → Prop} {P : Int32 → Sto → Prop} (C : Cy B E RX5 cX5_nextWithin 2 (some .int) 0 0 (Zm (QFi P))) (x0 : Int32) (x1 : Int32) (σ : Sto) (h : w_X5_nextWithin x0 x1 σ P) : E 0 [(0, .int x0), (1, .int x1)] [] σ := by
  unfold w_X5_nextWithin at h
  refine f_iload_n C (j := 0) dX5_nextWithin_0 rfl rfl rfl ?_
  refine f_iload_n C (j := 1) dX5_nextWithin_1 rfl rfl rfl ?_
  refine f_isub C dX5_nextWithin_2 rfl ?_
  refine f_iload_n C (j := 1) dX5_nextWithin_3 rfl rfl rfl ?_
  refine f_iand C dX5_nextWithin_4 rfl ?_
  exact f_iret C dX5_nextWithin_5 h
theorem c_X5_nextWithin (x0 : Int32) (x1 : Int32) (σ : Sto) (P : Int32 → Sto → Prop) (h : w_X5_nextWithin x0 x1 σ P) : Ct yX5_nextWithin cX5_nextWithin 2 (some .int) 0 0 (fun B => [.int x0, .int x1]) σ (QFi P) := Ct.of (by decide) (fun _ => Nat.le_of_ble_eq_true rfl) (fun B E C => s_X5_nextWithin C x0 x1 σ h)
def w_X5_least_73 (K9 : Int32 × Sto → Prop) (K22 : Int32 × Int32 × Sto → Prop) (x1 : Int32) (x2 : Int32) (x3 : Int32) (x4 : Int32) (x5 : Int32) (x6 : Int32) (x7 : Int32) (σ : Sto) (P : Int32 → Sto → Prop) : Prop :=
  w_X5_nextWithin x6 x2 σ (fun r_11 σ_10 => ∀ x7_12 : Int32, x7_12 = x7 + 1 → K22 (r_11, x7_12, σ_10))
theorem s_X5_least_73 {B : Nat} {E : Nat → List (Nat × Value) → List Value → Sto → Prop} {P : Int32 → Sto → Prop} (C : Cy B E RX5 cX5_least 8 (some .int) 4 103 (Zm (QFi P))) (x1 : Int32) (x2 : Int32) (x3 : Int32) (x4 : Int32) (x5 : Int32) (x6 : Int32) (x7 : Int32) (K9 : Int32 × Sto → Prop) (K22 : Int32 × Int32 × Sto → Prop) (hK9 : ∀ (x5 : Int32) (σ : Sto), K9 (x5, σ) → E 9 [(0, .ref (B + 93)), (1, .int x1), (2, .int x2), (3, .int x3), (4, .int x4), (5, .int x5)] [] σ) (hK22 : ∀ (x6 : Int32) (x7 : Int32) (σ : Sto), K22 (x6, x7, σ) → E 22 [(0, .ref (B + 93)), (1, .int x1), (2, .int x2), (3, .int x3), (4, .int x4), (5, .int x5), (6, .int x6), (7, .int x7)] [] σ) (σ : Sto) (h : w_X5_least_73 K9 K22 x1 x2 x3 x4 x5 x6 x7 σ P) : E 73 [(0, .ref (B + 93)), (1, .int x1), (2, .int x2), (3, .int x3), (4, .int x4), (5, .int x5), (6, .int x6), (7, .int x7)] [] σ := by
  unfold w_X5_least_73 at h
  refine f_iload C (j := 6) dX5_least_73 rfl rfl ?_
  refine f_iload_n C (j := 2) dX5_least_75 rfl rfl rfl ?_
  refine f_callSi C (As := fun B => [.int x6, .int x2]) (c_X5_nextWithin  _ _ _ _ h) tM_X5_84 tT_X5_nextWithin tN_X5 tC_X5_nextWithin 2 dd_X5_nextWithin rfl (by decide) (by decide) rfl (Nat.le_of_ble_eq_true rfl) dX5_least_76 rfl (fun r_11 σ_10 h => ?_)
  refine f_istore C (lv2 := [(6, .int r_11), (0, .ref (B + 93)), (1, .int x1), (2, .int x2), (3, .int x3), (4, .int x4), (5, .int x5), (7, .int x7)]) dX5_least_79 (by decide) rfl rfl ?_
  obtain ⟨x7_12, hx_13⟩ : ∃ y : Int32, y = x7 + 1 := ⟨_, rfl⟩
  replace h := h x7_12 hx_13
  refine f_iinc C (j := 7) (v := x7_12) (lv2 := [(7, .int x7_12), (6, .int r_11), (0, .ref (B + 93)), (1, .int x1), (2, .int x2), (3, .int x3), (4, .int x4), (5, .int x5)]) dX5_least_81 rfl hx_13.symm (by decide) rfl rfl ?_
  refine f_goto C (t := 22) dX5_least_84 (by decide) ?_
  refine f_lv C (lv2 := [(0, .ref (B + 93)), (1, .int x1), (2, .int x2), (3, .int x3), (4, .int x4), (5, .int x5), (6, .int r_11), (7, .int x7_12)]) [2, 3, 4, 5, 6, 7, 1, 0] rfl ?_
  exact hK22 _ _ _ h
def w_X5_least_22 (K9 : Int32 × Sto → Prop) (K22 : Int32 × Int32 × Sto → Prop) (x1 : Int32) (x2 : Int32) (x3 : Int32) (x4 : Int32) (x5 : Int32) (x6 : Int32) (x7 : Int32) (σ : Sto) (P : Int32 → Sto → Prop) : Prop :=
  (if (1 <<< (x4 &&& 31)) ≤ x7 then ∀ x5_5 : Int32, x5_5 = x5 + 1 → K9 (x5_5, σ) else w_J6_bitCount_0f7a4 x6 σ (fun r_8 σ_7 => (if r_8 = x5 then (if x3 = (-1) then w_X5_endsBy x1 x6 σ_7 (fun r_19 σ_18 => (if r_19 = 0 then w_X5_least_73 K9 K22 x1 x2 x3 x4 x5 x6 x7 σ_18 P else P x6 σ_18)) else w_X5_keeps x1 x6 x3 σ_7 (fun r_16 σ_15 => (if r_16 = 0 then w_X5_least_73 K9 K22 x1 x2 x3 x4 x5 x6 x7 σ_15 P else P x6 σ_15))) else w_X5_least_73 K9 K22 x1 x2 x3 x4 x5 x6 x7 σ_7 P)))
theorem s_X5_least_22 {B : Nat} {E : Nat → List (Nat × Value) → List Value → Sto → Prop} {P : Int32 → Sto → Prop} (C : Cy B E RX5 cX5_least 8 (some .int) 4 103 (Zm (QFi P))) (x1 : Int32) (x2 : Int32) (x3 : Int32) (x4 : Int32) (x5 : Int32) (x6 : Int32) (x7 : Int32) (K9 : Int32 × Sto → Prop) (K22 : Int32 × Int32 × Sto → Prop) (hK9 : ∀ (x5 : Int32) (σ : Sto), K9 (x5, σ) → E 9 [(0, .ref (B + 93)), (1, .int x1), (2, .int x2), (3, .int x3), (4, .int x4), (5, .int x5)] [] σ) (hK22 : ∀ (x6 : Int32) (x7 : Int32) (σ : Sto), K22 (x6, x7, σ) → E 22 [(0, .ref (B + 93)), (1, .int x1), (2, .int x2), (3, .int x3), (4, .int x4), (5, .int x5), (6, .int x6), (7, .int x7)] [] σ) (σ : Sto) (h : w_X5_least_22 K9 K22 x1 x2 x3 x4 x5 x6 x7 σ P) : E 22 [(0, .ref (B + 93)), (1, .int x1), (2, .int x2), (3, .int x3), (4, .int x4), (5, .int x5), (6, .int x6), (7, .int x7)] [] σ := by
  unfold w_X5_least_22 at h
  refine f_iload C (j := 7) dX5_least_22 rfl rfl ?_
  refine f_iconst C (v := 1) dX5_least_24 kc1 rfl ?_
  refine f_iload C (j := 4) dX5_least_25 rfl rfl ?_
  refine f_ishl C dX5_least_27 rfl ?_
  refine f_icmp_ge C (t := 87) dX5_least_28 (by decide) rfl (fun hq_4 => ?_) (fun hq_4 => ?_)
  · replace h := Eq.mp (if_pos hq_4) h
    obtain ⟨x5_5, hx_6⟩ : ∃ y : Int32, y = x5 + 1 := ⟨_, rfl⟩
    replace h := h x5_5 hx_6
    refine f_iinc C (j := 5) (v := x5_5) (lv2 := [(5, .int x5_5), (0, .ref (B + 93)), (1, .int x1), (2, .int x2), (3, .int x3), (4, .int x4), (6, .int x6), (7, .int x7)]) dX5_least_87 rfl hx_6.symm (by decide) rfl rfl ?_
    refine f_goto C (t := 9) dX5_least_90 (by decide) ?_
    refine f_lv C (lv2 := [(0, .ref (B + 93)), (1, .int x1), (2, .int x2), (3, .int x3), (4, .int x4), (5, .int x5_5)]) [1, 2, 3, 4, 5, 0] rfl ?_
    exact hK9 _ _ h
  · replace h := Eq.mp (if_neg hq_4) h
    refine f_iload C (j := 6) dX5_least_31 rfl rfl ?_
    refine f_callSi C (As := fun B => [.int x6]) (c_J6_bitCount_0f7a4  _ _ _ h) tM_X5_75 tT_J6_bitCount_0f7a4 tN_J6 tC_J6_bitCount_0f7a4 1 dd_J6_bitCount_0f7a4 rfl (by decide) (by decide) rfl (Nat.le_of_ble_eq_true rfl) dX5_least_33 rfl (fun r_8 σ_7 h => ?_)
    refine f_iload C (j := 5) dX5_least_36 rfl rfl ?_
    refine f_icmp_ne C (t := 73) dX5_least_38 (by decide) rfl (fun hq_9 => ?_) (fun hq_9 => ?_)
    · replace h := Eq.mp (if_neg hq_9) h
      exact s_X5_least_73 C _ _ _ _ _ _ _  K9 K22 hK9 hK22 _ h
    · replace h := Eq.mp (if_pos hq_9) h
      refine f_iload_n C (j := 3) dX5_least_41 rfl rfl rfl ?_
      refine f_iconst C (v := (-1)) dX5_least_42 kcm1 rfl ?_
      refine f_icmp_ne C (t := 59) dX5_least_43 (by decide) rfl (fun hq_14 => ?_) (fun hq_14 => ?_)
      · replace h := Eq.mp (if_neg hq_14) h
        refine f_aload_n C (j := 0) dX5_least_59 rfl rfl rfl ?_
        refine f_iload_n C (j := 1) dX5_least_60 rfl rfl rfl ?_
        refine f_iload C (j := 6) dX5_least_61 rfl rfl ?_
        refine f_iload_n C (j := 3) dX5_least_63 rfl rfl rfl ?_
        refine f_callVi C (a := 93) (ci := 5) (As := fun B => [.int x1, .int x6, .int x3]) o93 rfl (c_X5_keeps  _ _ _ _ _ h) tM_X5_80 tI_X5_keeps tS_X5_keeps tN_X5 tC_X5_keeps 3 dd_X5_keeps rfl (by decide) (by decide) rfl (Nat.le_of_ble_eq_true rfl) dX5_least_64 rfl (fun r_16 σ_15 h => ?_)
        refine f_if_eq C (t := 73) dX5_least_67 (by decide) rfl (fun hq_17 => ?_) (fun hq_17 => ?_)
        · replace h := Eq.mp (if_pos hq_17) h
          exact s_X5_least_73 C _ _ _ _ _ _ _  K9 K22 hK9 hK22 _ h
        · replace h := Eq.mp (if_neg hq_17) h
          refine f_iload C (j := 6) dX5_least_70 rfl rfl ?_
          exact f_iret C dX5_least_72 h
      · replace h := Eq.mp (if_pos hq_14) h
        refine f_aload_n C (j := 0) dX5_least_46 rfl rfl rfl ?_
        refine f_iload_n C (j := 1) dX5_least_47 rfl rfl rfl ?_
        refine f_iload C (j := 6) dX5_least_48 rfl rfl ?_
        refine f_callVi C (a := 93) (ci := 5) (As := fun B => [.int x1, .int x6]) o93 rfl (c_X5_endsBy  _ _ _ _ h) tM_X5_57 tI_X5_endsBy tS_X5_endsBy tN_X5 tC_X5_endsBy 2 dd_X5_endsBy rfl (by decide) (by decide) rfl (Nat.le_of_ble_eq_true rfl) dX5_least_50 rfl (fun r_19 σ_18 h => ?_)
        refine f_if_eq C (t := 73) dX5_least_53 (by decide) rfl (fun hq_20 => ?_) (fun hq_20 => ?_)
        · replace h := Eq.mp (if_pos hq_20) h
          exact s_X5_least_73 C _ _ _ _ _ _ _  K9 K22 hK9 hK22 _ h
        · replace h := Eq.mp (if_neg hq_20) h
          refine f_goto C (t := 70) dX5_least_56 (by decide) ?_
          refine f_iload C (j := 6) dX5_least_70 rfl rfl ?_
          exact f_iret C dX5_least_72 h
def w_X5_least_9 (K9 : Int32 × Sto → Prop) (x1 : Int32) (x2 : Int32) (x3 : Int32) (x4 : Int32) (x5 : Int32) (σ : Sto) (P : Int32 → Sto → Prop) : Prop :=
  (if x4 < x5 then P (-1) σ else Lp (fun (K : Int32 × Int32 × Sto → Prop) s => w_X5_least_22 K9 K x1 x2 x3 x4 x5 s.1 s.2.1 s.2.2 P) (0, 0, σ))
theorem s_X5_least_9 {B : Nat} {E : Nat → List (Nat × Value) → List Value → Sto → Prop} {P : Int32 → Sto → Prop} (C : Cy B E RX5 cX5_least 8 (some .int) 4 103 (Zm (QFi P))) (x1 : Int32) (x2 : Int32) (x3 : Int32) (x4 : Int32) (x5 : Int32) (K9 : Int32 × Sto → Prop) (hK9 : ∀ (x5 : Int32) (σ : Sto), K9 (x5, σ) → E 9 [(0, .ref (B + 93)), (1, .int x1), (2, .int x2), (3, .int x3), (4, .int x4), (5, .int x5)] [] σ) (σ : Sto) (h : w_X5_least_9 K9 x1 x2 x3 x4 x5 σ P) : E 9 [(0, .ref (B + 93)), (1, .int x1), (2, .int x2), (3, .int x3), (4, .int x4), (5, .int x5)] [] σ := by
  unfold w_X5_least_9 at h
  refine f_iload C (j := 5) dX5_least_9 rfl rfl ?_
  refine f_iload C (j := 4) dX5_least_11 rfl rfl ?_
  refine f_icmp_gt C (t := 93) dX5_least_13 (by decide) rfl (fun hq_3 => ?_) (fun hq_3 => ?_)
  · replace h := Eq.mp (if_pos hq_3) h
    refine f_iconst C (v := (-1)) dX5_least_93 kcm1 rfl ?_
    exact f_iret C dX5_least_94 h
  · replace h := Eq.mp (if_neg hq_3) h
    refine f_iconst C (v := 0) dX5_least_16 kc0 rfl ?_
    refine f_istore C (lv2 := [(6, .int 0), (0, .ref (B + 93)), (1, .int x1), (2, .int x2), (3, .int x3), (4, .int x4), (5, .int x5)]) dX5_least_17 (by decide) rfl rfl ?_
    refine f_iconst C (v := 0) dX5_least_19 kc0 rfl ?_
    refine f_istore C (lv2 := [(7, .int 0), (6, .int 0), (0, .ref (B + 93)), (1, .int x1), (2, .int x2), (3, .int x3), (4, .int x4), (5, .int x5)]) dX5_least_20 (by decide) rfl rfl ?_
    refine f_lv C (lv2 := [(0, .ref (B + 93)), (1, .int x1), (2, .int x2), (3, .int x3), (4, .int x4), (5, .int x5), (6, .int 0), (7, .int 0)]) [2, 3, 4, 5, 6, 7, 1, 0] rfl ?_
    exact Lp_sound (fun s : Int32 × Int32 × Sto => E 22 [(0, .ref (B + 93)), (1, .int x1), (2, .int x2), (3, .int x3), (4, .int x4), (5, .int x5), (6, .int s.1), (7, .int s.2.1)] [] s.2.2) h (fun K s hK h => s_X5_least_22 C x1 x2 x3 x4 x5 s.1 s.2.1 K9 K hK9 (fun x6 x7 σ hk => hK (x6, x7, σ) hk) s.2.2 h)
def w_X5_least (x1 : Int32) (x2 : Int32) (x3 : Int32) (σ : Sto) (P : Int32 → Sto → Prop) : Prop :=
  w_J6_bitCount_0f7a4 x2 σ (fun r_2 σ_1 => Lp (fun (K : Int32 × Sto → Prop) s => w_X5_least_9 K x1 x2 x3 r_2 s.1 s.2 P) (0, σ_1))
theorem s_X5_least {B : Nat} {E : Nat → List (Nat × Value) → List Value → Sto → Prop} {P : Int32 → Sto → Prop} (C : Cy B E RX5 cX5_least 8 (some .int) 4 103 (Zm (QFi P))) (x1 : Int32) (x2 : Int32) (x3 : Int32) (σ : Sto) (h : w_X5_least x1 x2 x3 σ P) : E 0 [(0, .ref (B + 93)), (1, .int x1), (2, .int x2), (3, .int x3)] [] σ := by
  unfold w_X5_least at h
  refine f_iload_n C (j := 2) dX5_least_0 rfl rfl rfl ?_
  refine f_callSi C (As := fun B => [.int x2]) (c_J6_bitCount_0f7a4  _ _ _ h) tM_X5_75 tT_J6_bitCount_0f7a4 tN_J6 tC_J6_bitCount_0f7a4 1 dd_J6_bitCount_0f7a4 rfl (by decide) (by decide) rfl (Nat.le_of_ble_eq_true rfl) dX5_least_1 rfl (fun r_2 σ_1 h => ?_)
  refine f_istore C (lv2 := [(4, .int r_2), (0, .ref (B + 93)), (1, .int x1), (2, .int x2), (3, .int x3)]) dX5_least_4 (by decide) rfl rfl ?_
  refine f_iconst C (v := 0) dX5_least_6 kc0 rfl ?_
  refine f_istore C (lv2 := [(5, .int 0), (4, .int r_2), (0, .ref (B + 93)), (1, .int x1), (2, .int x2), (3, .int x3)]) dX5_least_7 (by decide) rfl rfl ?_
  refine f_lv C (lv2 := [(0, .ref (B + 93)), (1, .int x1), (2, .int x2), (3, .int x3), (4, .int r_2), (5, .int 0)]) [2, 3, 4, 5, 1, 0] rfl ?_
  exact Lp_sound (fun s : Int32 × Sto => E 9 [(0, .ref (B + 93)), (1, .int x1), (2, .int x2), (3, .int x3), (4, .int r_2), (5, .int s.1)] [] s.2) h (fun K s hK h => s_X5_least_9 C x1 x2 x3 r_2 s.1 K (fun x5 σ hk => hK (x5, σ) hk) s.2 h)
theorem c_X5_least (x1 : Int32) (x2 : Int32) (x3 : Int32) (σ : Sto) (P : Int32 → Sto → Prop) (h : w_X5_least x1 x2 x3 σ P) : Ct yX5_least cX5_least 8 (some .int) 4 103 (fun B => [.ref (B + 93), .int x1, .int x2, .int x3]) σ (QFi P) := Ct.of (by decide) (fun _ => Nat.le_of_ble_eq_true rfl) (fun B E C => s_X5_least C x1 x2 x3 σ h)
def w_X5_leastKeeping_25 (K25 : Int32 × Int32 × Sto → Prop) (x1 : Int32) (x2 : Int32) (x3 : Int32) (x4 : Int32) (x5 : Int32) (σ : Sto) (P : Int32 → Sto → Prop) : Prop :=
  isCity (gr σ 93 5) ∧ (if (gi σ (gr σ 93 5) 8) ≤ x5 then w_X5_least x1 x4 x2 σ (fun r_9 σ_8 => P r_9 σ_8) else (if ((x3 >>> (x5 &&& 31)) &&& 1) = 0 then ∀ x5_11 : Int32, x5_11 = x5 + 1 → K25 (x4, x5_11, σ) else w_X0_hatredOf x5 σ (fun r_14 σ_13 => (if r_14 ≤ 0 then ∀ x5_16 : Int32, x5_16 = x5 + 1 → K25 (x4, x5_16, σ_13) else ∀ x4_18 : Int32, x4_18 = x4 ||| (1 <<< (x5 &&& 31)) → ∀ x5_20 : Int32, x5_20 = x5 + 1 → K25 (x4_18, x5_20, σ_13)))))
theorem s_X5_leastKeeping_25 {B : Nat} {E : Nat → List (Nat × Value) → List Value → Sto → Prop} {P : Int32 → Sto → Prop} (C : Cy B E RX5 cX5_leastKeeping 6 (some .int) 5 130 (Zm (QFi P))) (x1 : Int32) (x2 : Int32) (x3 : Int32) (x4 : Int32) (x5 : Int32) (K25 : Int32 × Int32 × Sto → Prop) (hK25 : ∀ (x4 : Int32) (x5 : Int32) (σ : Sto), K25 (x4, x5, σ) → E 25 [(0, .ref (B + 93)), (1, .int x1), (2, .int x2), (3, .int x3), (4, .int x4), (5, .int x5)] [] σ) (σ : Sto) (h : w_X5_leastKeeping_25 K25 x1 x2 x3 x4 x5 σ P) : E 25 [(0, .ref (B + 93)), (1, .int x1), (2, .int x2), (3, .int x3), (4, .int x4), (5, .int x5)] [] σ := by
  unfold w_X5_leastKeeping_25 at h
  refine f_iload C (j := 5) dX5_leastKeeping_25 rfl rfl ?_
  refine f_aload_n C (j := 0) dX5_leastKeeping_27 rfl rfl rfl ?_
  obtain ⟨hc_6, h⟩ := h
  refine f_getm C tF_X5_9 rfl o93 cn93_5 hc_6.z dX5_leastKeeping_28 rfl ?_
  refine f_geti C tF_X5_65 rfl hc_6.o dX5_leastKeeping_31 rfl ?_
  refine f_icmp_ge C (t := 73) dX5_leastKeeping_34 (by decide) rfl (fun hq_7 => ?_) (fun hq_7 => ?_)
  · replace h := Eq.mp (if_pos hq_7) h
    refine f_aload_n C (j := 0) dX5_leastKeeping_73 rfl rfl rfl ?_
    refine f_iload_n C (j := 1) dX5_leastKeeping_74 rfl rfl rfl ?_
    refine f_iload C (j := 4) dX5_leastKeeping_75 rfl rfl ?_
    refine f_iload_n C (j := 2) dX5_leastKeeping_77 rfl rfl rfl ?_
    refine f_callVi C (a := 93) (ci := 5) (As := fun B => [.int x1, .int x4, .int x2]) o93 rfl (c_X5_least  _ _ _ _ _ h) tM_X5_71 tI_X5_least tS_X5_least tN_X5 tC_X5_least 3 dd_X5_least rfl (by decide) (by decide) rfl (Nat.le_of_ble_eq_true rfl) dX5_leastKeeping_78 rfl (fun r_9 σ_8 h => ?_)
    exact f_iret C dX5_leastKeeping_81 h
  · replace h := Eq.mp (if_neg hq_7) h
    refine f_iload_n C (j := 3) dX5_leastKeeping_37 rfl rfl rfl ?_
    refine f_iload C (j := 5) dX5_leastKeeping_38 rfl rfl ?_
    refine f_ishr C dX5_leastKeeping_40 rfl ?_
    refine f_iconst C (v := 1) dX5_leastKeeping_41 kc1 rfl ?_
    refine f_iand C dX5_leastKeeping_42 rfl ?_
    refine f_if_eq C (t := 67) dX5_leastKeeping_43 (by decide) rfl (fun hq_10 => ?_) (fun hq_10 => ?_)
    · replace h := Eq.mp (if_pos hq_10) h
      obtain ⟨x5_11, hx_12⟩ : ∃ y : Int32, y = x5 + 1 := ⟨_, rfl⟩
      replace h := h x5_11 hx_12
      refine f_iinc C (j := 5) (v := x5_11) (lv2 := [(5, .int x5_11), (0, .ref (B + 93)), (1, .int x1), (2, .int x2), (3, .int x3), (4, .int x4)]) dX5_leastKeeping_67 rfl hx_12.symm (by decide) rfl rfl ?_
      refine f_goto C (t := 25) dX5_leastKeeping_70 (by decide) ?_
      refine f_lv C (lv2 := [(0, .ref (B + 93)), (1, .int x1), (2, .int x2), (3, .int x3), (4, .int x4), (5, .int x5_11)]) [1, 2, 3, 4, 5, 0] rfl ?_
      exact hK25 _ _ _ h
    · replace h := Eq.mp (if_neg hq_10) h
      refine f_aload_n C (j := 0) dX5_leastKeeping_46 rfl rfl rfl ?_
      refine f_getc C tF_X5_19 rfl o93 cs93_1 (by decide) dX5_leastKeeping_47 rfl ?_
      refine f_iload C (j := 5) dX5_leastKeeping_50 rfl rfl ?_
      refine f_callVi C (a := 90) (ci := 0) (As := fun B => [.int x5]) o90 rfl (c_X0_hatredOf  _ _ _ h) tM_X5_68 tI_X0_hatredOf tS_X0_hatredOf tN_X0 tC_X0_hatredOf 1 dd_X0_hatredOf rfl (by decide) (by decide) rfl (Nat.le_of_ble_eq_true rfl) dX5_leastKeeping_52 rfl (fun r_14 σ_13 h => ?_)
      refine f_if_le C (t := 67) dX5_leastKeeping_55 (by decide) rfl (fun hq_15 => ?_) (fun hq_15 => ?_)
      · replace h := Eq.mp (if_pos hq_15) h
        obtain ⟨x5_16, hx_17⟩ : ∃ y : Int32, y = x5 + 1 := ⟨_, rfl⟩
        replace h := h x5_16 hx_17
        refine f_iinc C (j := 5) (v := x5_16) (lv2 := [(5, .int x5_16), (0, .ref (B + 93)), (1, .int x1), (2, .int x2), (3, .int x3), (4, .int x4)]) dX5_leastKeeping_67 rfl hx_17.symm (by decide) rfl rfl ?_
        refine f_goto C (t := 25) dX5_leastKeeping_70 (by decide) ?_
        refine f_lv C (lv2 := [(0, .ref (B + 93)), (1, .int x1), (2, .int x2), (3, .int x3), (4, .int x4), (5, .int x5_16)]) [1, 2, 3, 4, 5, 0] rfl ?_
        exact hK25 _ _ _ h
      · replace h := Eq.mp (if_neg hq_15) h
        refine f_iload C (j := 4) dX5_leastKeeping_58 rfl rfl ?_
        refine f_iconst C (v := 1) dX5_leastKeeping_60 kc1 rfl ?_
        refine f_iload C (j := 5) dX5_leastKeeping_61 rfl rfl ?_
        refine f_ishl C dX5_leastKeeping_63 rfl ?_
        refine f_ior C dX5_leastKeeping_64 rfl ?_
        refine f_name (fun x4_18 hx_19 => ?_)
        replace h := h x4_18 hx_19
        refine f_istore C (lv2 := [(4, .int x4_18), (0, .ref (B + 93)), (1, .int x1), (2, .int x2), (3, .int x3), (5, .int x5)]) dX5_leastKeeping_65 (by decide) rfl rfl ?_
        obtain ⟨x5_20, hx_21⟩ : ∃ y : Int32, y = x5 + 1 := ⟨_, rfl⟩
        replace h := h x5_20 hx_21
        refine f_iinc C (j := 5) (v := x5_20) (lv2 := [(5, .int x5_20), (4, .int x4_18), (0, .ref (B + 93)), (1, .int x1), (2, .int x2), (3, .int x3)]) dX5_leastKeeping_67 rfl hx_21.symm (by decide) rfl rfl ?_
        refine f_goto C (t := 25) dX5_leastKeeping_70 (by decide) ?_
        refine f_lv C (lv2 := [(0, .ref (B + 93)), (1, .int x1), (2, .int x2), (3, .int x3), (4, .int x4_18), (5, .int x5_20)]) [2, 3, 4, 5, 1, 0] rfl ?_
        exact hK25 _ _ _ h
def w_X5_leastKeeping (x1 : Int32) (x2 : Int32) (σ : Sto) (P : Int32 → Sto → Prop) : Prop :=
  w_X5_endsBy x1 0 σ (fun r_2 σ_1 => (if r_2 = 0 then w_X0_openNow σ_1 (fun r_5 σ_4 => Lp (fun (K : Int32 × Int32 × Sto → Prop) s => w_X5_leastKeeping_25 K x1 x2 r_5 s.1 s.2.1 s.2.2 P) (0, 0, σ_4)) else P (-1) σ_1))
theorem s_X5_leastKeeping {B : Nat} {E : Nat → List (Nat × Value) → List Value → Sto → Prop} {P : Int32 → Sto → Prop} (C : Cy B E RX5 cX5_leastKeeping 6 (some .int) 5 130 (Zm (QFi P))) (x1 : Int32) (x2 : Int32) (σ : Sto) (h : w_X5_leastKeeping x1 x2 σ P) : E 0 [(0, .ref (B + 93)), (1, .int x1), (2, .int x2)] [] σ := by
  unfold w_X5_leastKeeping at h
  refine f_aload_n C (j := 0) dX5_leastKeeping_0 rfl rfl rfl ?_
  refine f_iload_n C (j := 1) dX5_leastKeeping_1 rfl rfl rfl ?_
  refine f_iconst C (v := 0) dX5_leastKeeping_2 kc0 rfl ?_
  refine f_callVi C (a := 93) (ci := 5) (As := fun B => [.int x1, .int 0]) o93 rfl (c_X5_endsBy  _ _ _ _ h) tM_X5_57 tI_X5_endsBy tS_X5_endsBy tN_X5 tC_X5_endsBy 2 dd_X5_endsBy rfl (by decide) (by decide) rfl (Nat.le_of_ble_eq_true rfl) dX5_leastKeeping_3 rfl (fun r_2 σ_1 h => ?_)
  refine f_if_eq C (t := 11) dX5_leastKeeping_6 (by decide) rfl (fun hq_3 => ?_) (fun hq_3 => ?_)
  · replace h := Eq.mp (if_pos hq_3) h
    refine f_aload_n C (j := 0) dX5_leastKeeping_11 rfl rfl rfl ?_
    refine f_getc C tF_X5_19 rfl o93 cs93_1 (by decide) dX5_leastKeeping_12 rfl ?_
    refine f_callVi C (a := 90) (ci := 0) (As := fun B => []) o90 rfl (c_X0_openNow   _ _ h) tM_X5_61 tI_X0_openNow tS_X0_openNow tN_X0 tC_X0_openNow 0 dd_X0_openNow rfl (by decide) (by decide) rfl (Nat.le_of_ble_eq_true rfl) dX5_leastKeeping_15 rfl (fun r_5 σ_4 h => ?_)
    refine f_istore_n C (lv2 := [(3, .int r_5), (0, .ref (B + 93)), (1, .int x1), (2, .int x2)]) dX5_leastKeeping_18 rfl (by decide) rfl rfl ?_
    refine f_iconst C (v := 0) dX5_leastKeeping_19 kc0 rfl ?_
    refine f_istore C (lv2 := [(4, .int 0), (3, .int r_5), (0, .ref (B + 93)), (1, .int x1), (2, .int x2)]) dX5_leastKeeping_20 (by decide) rfl rfl ?_
    refine f_iconst C (v := 0) dX5_leastKeeping_22 kc0 rfl ?_
    refine f_istore C (lv2 := [(5, .int 0), (4, .int 0), (3, .int r_5), (0, .ref (B + 93)), (1, .int x1), (2, .int x2)]) dX5_leastKeeping_23 (by decide) rfl rfl ?_
    refine f_lv C (lv2 := [(0, .ref (B + 93)), (1, .int x1), (2, .int x2), (3, .int r_5), (4, .int 0), (5, .int 0)]) [3, 4, 5, 2, 1, 0] rfl ?_
    exact Lp_sound (fun s : Int32 × Int32 × Sto => E 25 [(0, .ref (B + 93)), (1, .int x1), (2, .int x2), (3, .int r_5), (4, .int s.1), (5, .int s.2.1)] [] s.2.2) h (fun K s hK h => s_X5_leastKeeping_25 C x1 x2 r_5 s.1 s.2.1 K (fun x4 x5 σ hk => hK (x4, x5, σ) hk) s.2.2 h)
  · replace h := Eq.mp (if_neg hq_3) h
    refine f_iconst C (v := (-1)) dX5_leastKeeping_9 kcm1 rfl ?_
    exact f_iret C dX5_leastKeeping_10 h
theorem c_X5_leastKeeping (x1 : Int32) (x2 : Int32) (σ : Sto) (P : Int32 → Sto → Prop) (h : w_X5_leastKeeping x1 x2 σ P) : Ct yX5_leastKeeping cX5_leastKeeping 6 (some .int) 5 130 (fun B => [.ref (B + 93), .int x1, .int x2]) σ (QFi P) := Ct.of (by decide) (fun _ => Nat.le_of_ble_eq_true rfl) (fun B E C => s_X5_leastKeeping C x1 x2 σ h)
def w_X5_leastEnding (x1 : Int32) (σ : Sto) (P : Int32 → Sto → Prop) : Prop :=
  w_X0_openNow σ (fun r_2 σ_1 => w_X5_endsBy x1 r_2 σ_1 (fun r_4 σ_3 => (if r_4 = 0 then P (-1) σ_3 else w_X5_least x1 r_2 (-1) σ_3 (fun r_7 σ_6 => P r_7 σ_6))))
theorem s_X5_leastEnding {B : Nat} {E : Nat → List (Nat × Value) → List Value → Sto → Prop} {P : Int32 → Sto → Prop} (C : Cy B E RX5 cX5_leastEnding 3 (some .int) 5 130 (Zm (QFi P))) (x1 : Int32) (σ : Sto) (h : w_X5_leastEnding x1 σ P) : E 0 [(0, .ref (B + 93)), (1, .int x1)] [] σ := by
  unfold w_X5_leastEnding at h
  refine f_aload_n C (j := 0) dX5_leastEnding_0 rfl rfl rfl ?_
  refine f_getc C tF_X5_19 rfl o93 cs93_1 (by decide) dX5_leastEnding_1 rfl ?_
  refine f_callVi C (a := 90) (ci := 0) (As := fun B => []) o90 rfl (c_X0_openNow   _ _ h) tM_X5_61 tI_X0_openNow tS_X0_openNow tN_X0 tC_X0_openNow 0 dd_X0_openNow rfl (by decide) (by decide) rfl (Nat.le_of_ble_eq_true rfl) dX5_leastEnding_4 rfl (fun r_2 σ_1 h => ?_)
  refine f_istore_n C (lv2 := [(2, .int r_2), (0, .ref (B + 93)), (1, .int x1)]) dX5_leastEnding_7 rfl (by decide) rfl rfl ?_
  refine f_aload_n C (j := 1) dX5_leastEnding_8 rfl rfl rfl ?_
  refine f_iload_n C (j := 2) dX5_leastEnding_9 rfl rfl rfl ?_
  refine f_iload_n C (j := 0) dX5_leastEnding_10 rfl rfl rfl ?_
  refine f_callVi C (a := 93) (ci := 5) (As := fun B => [.int x1, .int r_2]) o93 rfl (c_X5_endsBy  _ _ _ _ h) tM_X5_57 tI_X5_endsBy tS_X5_endsBy tN_X5 tC_X5_endsBy 2 dd_X5_endsBy rfl (by decide) (by decide) rfl (Nat.le_of_ble_eq_true rfl) dX5_leastEnding_11 rfl (fun r_4 σ_3 h => ?_)
  refine f_if_eq C (t := 27) dX5_leastEnding_14 (by decide) rfl (fun hq_5 => ?_) (fun hq_5 => ?_)
  · replace h := Eq.mp (if_pos hq_5) h
    refine f_iconst C (v := (-1)) dX5_leastEnding_27 kcm1 rfl ?_
    exact f_iret C dX5_leastEnding_28 h
  · replace h := Eq.mp (if_neg hq_5) h
    refine f_aload_n C (j := 1) dX5_leastEnding_17 rfl rfl rfl ?_
    refine f_iload_n C (j := 2) dX5_leastEnding_18 rfl rfl rfl ?_
    refine f_iload_n C (j := 0) dX5_leastEnding_19 rfl rfl rfl ?_
    refine f_iconst C (v := (-1)) dX5_leastEnding_20 kcm1 rfl ?_
    refine f_callVi C (a := 93) (ci := 5) (As := fun B => [.int x1, .int r_2, .int (-1)]) o93 rfl (c_X5_least  _ _ _ _ _ h) tM_X5_71 tI_X5_least tS_X5_least tN_X5 tC_X5_least 3 dd_X5_least rfl (by decide) (by decide) rfl (Nat.le_of_ble_eq_true rfl) dX5_leastEnding_21 rfl (fun r_7 σ_6 h => ?_)
    refine f_goto C (t := 28) dX5_leastEnding_24 (by decide) ?_
    exact f_iret C dX5_leastEnding_28 h
theorem c_X5_leastEnding (x1 : Int32) (σ : Sto) (P : Int32 → Sto → Prop) (h : w_X5_leastEnding x1 σ P) : Ct yX5_leastEnding cX5_leastEnding 3 (some .int) 5 130 (fun B => [.ref (B + 93), .int x1]) σ (QFi P) := Ct.of (by decide) (fun _ => Nat.le_of_ble_eq_true rfl) (fun B E C => s_X5_leastEnding C x1 σ h)
def w_X5_worthOfNext (x1 : Int32) (x2 : Int32) (σ : Sto) (P : Int32 → Sto → Prop) : Prop :=
  ∀ x3_1 : Int32, x3_1 = x1 ||| (1 <<< (x2 &&& 31)) → isCity (gr σ 93 5) ∧ w_X6_without ((gi σ (gr σ 93 5) 14) ||| x3_1) σ (fun r_5 σ_4 => w_X6_doable r_5 σ_4 (fun r_7 σ_6 => w_J6_bitCount_0f7a4 r_7 σ_6 (fun r_9 σ_8 => vp_in x3_1 4096 ∧ P (r_9 + (gi σ_8 87 (tn x3_1))) σ_8)))
theorem s_X5_worthOfNext {B : Nat} {E : Nat → List (Nat × Value) → List Value → Sto → Prop} {P : Int32 → Sto → Prop} (C : Cy B E RX5 cX5_worthOfNext 4 (some .int) 2 49 (Zm (QFi P))) (x1 : Int32) (x2 : Int32) (σ : Sto) (h : w_X5_worthOfNext x1 x2 σ P) : E 0 [(0, .ref (B + 93)), (1, .int x1), (2, .int x2)] [] σ := by
  unfold w_X5_worthOfNext at h
  refine f_iload_n C (j := 1) dX5_worthOfNext_0 rfl rfl rfl ?_
  refine f_iconst C (v := 1) dX5_worthOfNext_1 kc1 rfl ?_
  refine f_iload_n C (j := 2) dX5_worthOfNext_2 rfl rfl rfl ?_
  refine f_ishl C dX5_worthOfNext_3 rfl ?_
  refine f_ior C dX5_worthOfNext_4 rfl ?_
  refine f_name (fun x3_1 hx_2 => ?_)
  replace h := h x3_1 hx_2
  refine f_istore_n C (lv2 := [(3, .int x3_1), (0, .ref (B + 93)), (1, .int x1), (2, .int x2)]) dX5_worthOfNext_5 rfl (by decide) rfl rfl ?_
  refine f_aload_n C (j := 1) dX5_worthOfNext_6 rfl rfl rfl ?_
  refine f_getc C tF_X5_15 rfl o93 cs93_0 (by decide) dX5_worthOfNext_7 rfl ?_
  refine f_aload_n C (j := 1) dX5_worthOfNext_10 rfl rfl rfl ?_
  refine f_getc C tF_X5_15 rfl o93 cs93_0 (by decide) dX5_worthOfNext_11 rfl ?_
  refine f_aload_n C (j := 1) dX5_worthOfNext_14 rfl rfl rfl ?_
  obtain ⟨hc_3, h⟩ := h
  refine f_getm C tF_X5_9 rfl o93 cn93_5 hc_3.z dX5_worthOfNext_15 rfl ?_
  refine f_geti C tF_X5_37 rfl hc_3.o dX5_worthOfNext_18 rfl ?_
  refine f_iload_n C (j := 0) dX5_worthOfNext_21 rfl rfl rfl ?_
  refine f_ior C dX5_worthOfNext_22 rfl ?_
  refine f_callVi C (a := 88) (ci := 6) (As := fun B => [.int ((gi σ (gr σ 93 5) 14) ||| x3_1)]) o88 rfl (c_X6_without  _ _ _ h) tM_X5_42 tI_X6_without tS_X6_without tN_X6 tC_X6_without 1 dd_X6_without rfl (by decide) (by decide) rfl (Nat.le_of_ble_eq_true rfl) dX5_worthOfNext_23 rfl (fun r_5 σ_4 h => ?_)
  refine f_callVi C (a := 88) (ci := 6) (As := fun B => [.int r_5]) o88 rfl (c_X6_doable  _ _ _ h) tM_X5_93 tI_X6_doable tS_X6_doable tN_X6 tC_X6_doable 1 dd_X6_doable rfl (by decide) (by decide) rfl (Nat.le_of_ble_eq_true rfl) dX5_worthOfNext_26 rfl (fun r_7 σ_6 h => ?_)
  refine f_callSi C (As := fun B => [.int r_7]) (c_J6_bitCount_0f7a4  _ _ _ h) tM_X5_75 tT_J6_bitCount_0f7a4 tN_J6 tC_J6_bitCount_0f7a4 1 dd_J6_bitCount_0f7a4 rfl (by decide) (by decide) rfl (Nat.le_of_ble_eq_true rfl) dX5_worthOfNext_29 rfl (fun r_9 σ_8 h => ?_)
  refine f_aload_n C (j := 1) dX5_worthOfNext_32 rfl rfl rfl ?_
  refine f_getc C tF_X5_23 rfl o93 cs93_2 (by decide) dX5_worthOfNext_33 rfl ?_
  refine f_iload_n C (j := 0) dX5_worthOfNext_36 rfl rfl rfl ?_
  obtain ⟨hi_10, h⟩ := h
  refine f_iald C (j := tn x3_1) a87 hi_10 rfl dX5_worthOfNext_37 rfl ?_
  refine f_iadd C dX5_worthOfNext_38 rfl ?_
  exact f_iret C dX5_worthOfNext_39 h
theorem c_X5_worthOfNext (x1 : Int32) (x2 : Int32) (σ : Sto) (P : Int32 → Sto → Prop) (h : w_X5_worthOfNext x1 x2 σ P) : Ct yX5_worthOfNext cX5_worthOfNext 4 (some .int) 2 49 (fun B => [.ref (B + 93), .int x1, .int x2]) σ (QFi P) := Ct.of (by decide) (fun _ => Nat.le_of_ble_eq_true rfl) (fun B E C => s_X5_worthOfNext C x1 x2 σ h)
def w_X5_bestNext_8 (K8 : Int32 × Int32 × Int32 × Sto → Prop) (x1 : Int32) (x2 : Int32) (x3 : Int32) (x4 : Int32) (x5 : Int32) (σ : Sto) (P : Int32 → Sto → Prop) : Prop :=
  isCity (gr σ 93 5) ∧ (if (gi σ (gr σ 93 5) 8) ≤ x5 then P x3 σ else (if ((x1 >>> (x5 &&& 31)) &&& 1) = 0 then ∀ x5_4 : Int32, x5_4 = x5 + 1 → K8 (x3, x4, x5_4, σ) else (if ((x2 >>> (x5 &&& 31)) &&& 1) = 0 then w_X5_worthOfNext x2 x5 σ (fun r_10 σ_9 => (if r_10 ≤ x4 then ∀ x5_12 : Int32, x5_12 = x5 + 1 → K8 (x3, x4, x5_12, σ_9) else ∀ x5_14 : Int32, x5_14 = x5 + 1 → K8 (x5, r_10, x5_14, σ_9))) else ∀ x5_7 : Int32, x5_7 = x5 + 1 → K8 (x3, x4, x5_7, σ))))
theorem s_X5_bestNext_8 {B : Nat} {E : Nat → List (Nat × Value) → List Value → Sto → Prop} {P : Int32 → Sto → Prop} (C : Cy B E RX5 cX5_bestNext 7 (some .int) 3 72 (Zm (QFi P))) (x1 : Int32) (x2 : Int32) (x3 : Int32) (x4 : Int32) (x5 : Int32) (K8 : Int32 × Int32 × Int32 × Sto → Prop) (hK8 : ∀ (x3 : Int32) (x4 : Int32) (x5 : Int32) (σ : Sto), K8 (x3, x4, x5, σ) → E 8 [(0, .ref (B + 93)), (1, .int x1), (2, .int x2), (3, .int x3), (4, .int x4), (5, .int x5)] [] σ) (σ : Sto) (h : w_X5_bestNext_8 K8 x1 x2 x3 x4 x5 σ P) : E 8 [(0, .ref (B + 93)), (1, .int x1), (2, .int x2), (3, .int x3), (4, .int x4), (5, .int x5)] [] σ := by
  unfold w_X5_bestNext_8 at h
  refine f_iload C (j := 5) dX5_bestNext_8 rfl rfl ?_
  refine f_aload_n C (j := 0) dX5_bestNext_10 rfl rfl rfl ?_
  obtain ⟨hc_1, h⟩ := h
  refine f_getm C tF_X5_9 rfl o93 cn93_5 hc_1.z dX5_bestNext_11 rfl ?_
  refine f_geti C tF_X5_65 rfl hc_1.o dX5_bestNext_14 rfl ?_
  refine f_icmp_ge C (t := 67) dX5_bestNext_17 (by decide) rfl (fun hq_2 => ?_) (fun hq_2 => ?_)
  · replace h := Eq.mp (if_pos hq_2) h
    refine f_iload_n C (j := 3) dX5_bestNext_67 rfl rfl rfl ?_
    exact f_iret C dX5_bestNext_68 h
  · replace h := Eq.mp (if_neg hq_2) h
    refine f_iload_n C (j := 1) dX5_bestNext_20 rfl rfl rfl ?_
    refine f_iload C (j := 5) dX5_bestNext_21 rfl rfl ?_
    refine f_ishr C dX5_bestNext_23 rfl ?_
    refine f_iconst C (v := 1) dX5_bestNext_24 kc1 rfl ?_
    refine f_iand C dX5_bestNext_25 rfl ?_
    refine f_if_eq C (t := 61) dX5_bestNext_26 (by decide) rfl (fun hq_3 => ?_) (fun hq_3 => ?_)
    · replace h := Eq.mp (if_pos hq_3) h
      obtain ⟨x5_4, hx_5⟩ : ∃ y : Int32, y = x5 + 1 := ⟨_, rfl⟩
      replace h := h x5_4 hx_5
      refine f_iinc C (j := 5) (v := x5_4) (lv2 := [(5, .int x5_4), (0, .ref (B + 93)), (1, .int x1), (2, .int x2), (3, .int x3), (4, .int x4)]) dX5_bestNext_61 rfl hx_5.symm (by decide) rfl rfl ?_
      refine f_goto C (t := 8) dX5_bestNext_64 (by decide) ?_
      refine f_lv C (lv2 := [(0, .ref (B + 93)), (1, .int x1), (2, .int x2), (3, .int x3), (4, .int x4), (5, .int x5_4)]) [1, 2, 3, 4, 5, 0] rfl ?_
      exact hK8 _ _ _ _ h
    · replace h := Eq.mp (if_neg hq_3) h
      refine f_iload_n C (j := 2) dX5_bestNext_29 rfl rfl rfl ?_
      refine f_iload C (j := 5) dX5_bestNext_30 rfl rfl ?_
      refine f_ishr C dX5_bestNext_32 rfl ?_
      refine f_iconst C (v := 1) dX5_bestNext_33 kc1 rfl ?_
      refine f_iand C dX5_bestNext_34 rfl ?_
      refine f_if_ne C (t := 61) dX5_bestNext_35 (by decide) rfl (fun hq_6 => ?_) (fun hq_6 => ?_)
      · replace h := Eq.mp (if_neg hq_6) h
        obtain ⟨x5_7, hx_8⟩ : ∃ y : Int32, y = x5 + 1 := ⟨_, rfl⟩
        replace h := h x5_7 hx_8
        refine f_iinc C (j := 5) (v := x5_7) (lv2 := [(5, .int x5_7), (0, .ref (B + 93)), (1, .int x1), (2, .int x2), (3, .int x3), (4, .int x4)]) dX5_bestNext_61 rfl hx_8.symm (by decide) rfl rfl ?_
        refine f_goto C (t := 8) dX5_bestNext_64 (by decide) ?_
        refine f_lv C (lv2 := [(0, .ref (B + 93)), (1, .int x1), (2, .int x2), (3, .int x3), (4, .int x4), (5, .int x5_7)]) [1, 2, 3, 4, 5, 0] rfl ?_
        exact hK8 _ _ _ _ h
      · replace h := Eq.mp (if_pos hq_6) h
        refine f_aload_n C (j := 0) dX5_bestNext_38 rfl rfl rfl ?_
        refine f_iload_n C (j := 2) dX5_bestNext_39 rfl rfl rfl ?_
        refine f_iload C (j := 5) dX5_bestNext_40 rfl rfl ?_
        refine f_callVi C (a := 93) (ci := 5) (As := fun B => [.int x2, .int x5]) o93 rfl (c_X5_worthOfNext  _ _ _ _ h) tM_X5_90 tI_X5_worthOfNext tS_X5_worthOfNext tN_X5 tC_X5_worthOfNext 2 dd_X5_worthOfNext rfl (by decide) (by decide) rfl (Nat.le_of_ble_eq_true rfl) dX5_bestNext_42 rfl (fun r_10 σ_9 h => ?_)
        refine f_istore C (lv2 := [(6, .int r_10), (0, .ref (B + 93)), (1, .int x1), (2, .int x2), (3, .int x3), (4, .int x4), (5, .int x5)]) dX5_bestNext_45 (by decide) rfl rfl ?_
        refine f_iload C (j := 0) dX5_bestNext_47 rfl rfl ?_
        refine f_iload C (j := 5) dX5_bestNext_49 rfl rfl ?_
        refine f_icmp_le C (t := 61) dX5_bestNext_51 (by decide) rfl (fun hq_11 => ?_) (fun hq_11 => ?_)
        · replace h := Eq.mp (if_pos hq_11) h
          obtain ⟨x5_12, hx_13⟩ : ∃ y : Int32, y = x5 + 1 := ⟨_, rfl⟩
          replace h := h x5_12 hx_13
          refine f_iinc C (j := 6) (v := x5_12) (lv2 := [(5, .int x5_12), (6, .int r_10), (0, .ref (B + 93)), (1, .int x1), (2, .int x2), (3, .int x3), (4, .int x4)]) dX5_bestNext_61 rfl hx_13.symm (by decide) rfl rfl ?_
          refine f_goto C (t := 8) dX5_bestNext_64 (by decide) ?_
          refine f_lv C (lv2 := [(0, .ref (B + 93)), (1, .int x1), (2, .int x2), (3, .int x3), (4, .int x4), (5, .int x5_12)]) [2, 3, 4, 5, 6, 0] rfl ?_
          exact hK8 _ _ _ _ h
        · replace h := Eq.mp (if_neg hq_11) h
          refine f_iload C (j := 0) dX5_bestNext_54 rfl rfl ?_
          refine f_istore C (lv2 := [(4, .int r_10), (6, .int r_10), (0, .ref (B + 93)), (1, .int x1), (2, .int x2), (3, .int x3), (5, .int x5)]) dX5_bestNext_56 (by decide) rfl rfl ?_
          refine f_iload C (j := 6) dX5_bestNext_58 rfl rfl ?_
          refine f_istore_n C (lv2 := [(3, .int x5), (4, .int r_10), (6, .int r_10), (0, .ref (B + 93)), (1, .int x1), (2, .int x2), (5, .int x5)]) dX5_bestNext_60 rfl (by decide) rfl rfl ?_
          obtain ⟨x5_14, hx_15⟩ : ∃ y : Int32, y = x5 + 1 := ⟨_, rfl⟩
          replace h := h x5_14 hx_15
          refine f_iinc C (j := 6) (v := x5_14) (lv2 := [(5, .int x5_14), (3, .int x5), (4, .int r_10), (6, .int r_10), (0, .ref (B + 93)), (1, .int x1), (2, .int x2)]) dX5_bestNext_61 rfl hx_15.symm (by decide) rfl rfl ?_
          refine f_goto C (t := 8) dX5_bestNext_64 (by decide) ?_
          refine f_lv C (lv2 := [(0, .ref (B + 93)), (1, .int x1), (2, .int x2), (3, .int x5), (4, .int r_10), (5, .int x5_14)]) [4, 5, 6, 1, 2, 0] rfl ?_
          exact hK8 _ _ _ _ h
def w_X5_bestNext (x1 : Int32) (x2 : Int32) (σ : Sto) (P : Int32 → Sto → Prop) : Prop :=
  Lp (fun (K : Int32 × Int32 × Int32 × Sto → Prop) s => w_X5_bestNext_8 K x1 x2 s.1 s.2.1 s.2.2.1 s.2.2.2 P) (0, (-1), 0, σ)
theorem s_X5_bestNext {B : Nat} {E : Nat → List (Nat × Value) → List Value → Sto → Prop} {P : Int32 → Sto → Prop} (C : Cy B E RX5 cX5_bestNext 7 (some .int) 3 72 (Zm (QFi P))) (x1 : Int32) (x2 : Int32) (σ : Sto) (h : w_X5_bestNext x1 x2 σ P) : E 0 [(0, .ref (B + 93)), (1, .int x1), (2, .int x2)] [] σ := by
  unfold w_X5_bestNext at h
  refine f_iconst C (v := 0) dX5_bestNext_0 kc0 rfl ?_
  refine f_istore_n C (lv2 := [(3, .int 0), (0, .ref (B + 93)), (1, .int x1), (2, .int x2)]) dX5_bestNext_1 rfl (by decide) rfl rfl ?_
  refine f_iconst C (v := (-1)) dX5_bestNext_2 kcm1 rfl ?_
  refine f_istore C (lv2 := [(4, .int (-1)), (3, .int 0), (0, .ref (B + 93)), (1, .int x1), (2, .int x2)]) dX5_bestNext_3 (by decide) rfl rfl ?_
  refine f_iconst C (v := 0) dX5_bestNext_5 kc0 rfl ?_
  refine f_istore C (lv2 := [(5, .int 0), (4, .int (-1)), (3, .int 0), (0, .ref (B + 93)), (1, .int x1), (2, .int x2)]) dX5_bestNext_6 (by decide) rfl rfl ?_
  refine f_lv C (lv2 := [(0, .ref (B + 93)), (1, .int x1), (2, .int x2), (3, .int 0), (4, .int (-1)), (5, .int 0)]) [3, 4, 5, 2, 1, 0] rfl ?_
  exact Lp_sound (fun s : Int32 × Int32 × Int32 × Sto => E 8 [(0, .ref (B + 93)), (1, .int x1), (2, .int x2), (3, .int s.1), (4, .int s.2.1), (5, .int s.2.2.1)] [] s.2.2.2) h (fun K s hK h => s_X5_bestNext_8 C x1 x2 s.1 s.2.1 s.2.2.1 K (fun x3 x4 x5 σ hk => hK (x3, x4, x5, σ) hk) s.2.2.2 h)
theorem c_X5_bestNext (x1 : Int32) (x2 : Int32) (σ : Sto) (P : Int32 → Sto → Prop) (h : w_X5_bestNext x1 x2 σ P) : Ct yX5_bestNext cX5_bestNext 7 (some .int) 3 72 (fun B => [.ref (B + 93), .int x1, .int x2]) σ (QFi P) := Ct.of (by decide) (fun _ => Nat.le_of_ble_eq_true rfl) (fun B E C => s_X5_bestNext C x1 x2 σ h)
def w_X5_listFor_66 (K66 : Int32 × Int32 × Sto → Prop) (x1 : Int32) (x2 : Int32) (x3 : Int32) (x4 : Int32) (σ : Sto) (P : Int32 → Sto → Prop) : Prop :=
  (if x2 ≤ x4 then P (gi σ 87 0) σ else (if 6 ≤ x4 then P (gi σ 87 0) σ else w_X5_bestNext x1 x3 σ (fun r_7 σ_6 => vp_in x4 6 ∧ ∀ σ_9 : Sto, σ_9 = si σ_6 94 (tn x4) r_7 → ∀ σ_11 : Sto, σ_11 = si σ_9 93 4 ((gi σ_9 93 4) + 1) → ∀ x3_13 : Int32, x3_13 = x3 ||| (1 <<< ((gi σ_11 94 (tn x4)) &&& 31)) → ∀ x4_15 : Int32, x4_15 = x4 + 1 → K66 (x3_13, x4_15, σ_11))))
theorem s_X5_listFor_66 {B : Nat} {E : Nat → List (Nat × Value) → List Value → Sto → Prop} {P : Int32 → Sto → Prop} (C : Cy B E RX5 cX5_listFor 5 (some .int) 4 98 (Zm (QFi P))) (x1 : Int32) (x2 : Int32) (x3 : Int32) (x4 : Int32) (K66 : Int32 × Int32 × Sto → Prop) (hK66 : ∀ (x3 : Int32) (x4 : Int32) (σ : Sto), K66 (x3, x4, σ) → E 66 [(0, .ref (B + 93)), (1, .int x1), (2, .int x2), (3, .int x3), (4, .int x4)] [] σ) (σ : Sto) (h : w_X5_listFor_66 K66 x1 x2 x3 x4 σ P) : E 66 [(0, .ref (B + 93)), (1, .int x1), (2, .int x2), (3, .int x3), (4, .int x4)] [] σ := by
  unfold w_X5_listFor_66 at h
  refine f_iload C (j := 4) dX5_listFor_66 rfl rfl ?_
  refine f_iload_n C (j := 2) dX5_listFor_68 rfl rfl rfl ?_
  refine f_icmp_ge C (t := 120) dX5_listFor_69 (by decide) rfl (fun hq_4 => ?_) (fun hq_4 => ?_)
  · replace h := Eq.mp (if_pos hq_4) h
    refine f_aload_n C (j := 0) dX5_listFor_120 rfl rfl rfl ?_
    refine f_getc C tF_X5_23 rfl o93 cs93_2 (by decide) dX5_listFor_121 rfl ?_
    refine f_iconst C (v := 0) dX5_listFor_124 kc0 rfl ?_
    refine f_iald C (j := 0) a87 (vp_lit (by decide)) rfl dX5_listFor_125 rfl ?_
    exact f_iret C dX5_listFor_126 h
  · replace h := Eq.mp (if_neg hq_4) h
    refine f_iload C (j := 4) dX5_listFor_72 rfl rfl ?_
    refine f_bipush C (v := 6) dX5_listFor_74 kb6 rfl ?_
    refine f_icmp_ge C (t := 120) dX5_listFor_76 (by decide) rfl (fun hq_5 => ?_) (fun hq_5 => ?_)
    · replace h := Eq.mp (if_pos hq_5) h
      refine f_aload_n C (j := 0) dX5_listFor_120 rfl rfl rfl ?_
      refine f_getc C tF_X5_23 rfl o93 cs93_2 (by decide) dX5_listFor_121 rfl ?_
      refine f_iconst C (v := 0) dX5_listFor_124 kc0 rfl ?_
      refine f_iald C (j := 0) a87 (vp_lit (by decide)) rfl dX5_listFor_125 rfl ?_
      exact f_iret C dX5_listFor_126 h
    · replace h := Eq.mp (if_neg hq_5) h
      refine f_aload_n C (j := 0) dX5_listFor_79 rfl rfl rfl ?_
      refine f_getc C tF_X5_27 rfl o93 cs93_3 (by decide) dX5_listFor_80 rfl ?_
      refine f_iload C (j := 4) dX5_listFor_83 rfl rfl ?_
      refine f_aload_n C (j := 0) dX5_listFor_85 rfl rfl rfl ?_
      refine f_iload_n C (j := 1) dX5_listFor_86 rfl rfl rfl ?_
      refine f_iload_n C (j := 3) dX5_listFor_87 rfl rfl rfl ?_
      refine f_callVi C (a := 93) (ci := 5) (As := fun B => [.int x1, .int x3]) o93 rfl (c_X5_bestNext  _ _ _ _ h) tM_X5_87 tI_X5_bestNext tS_X5_bestNext tN_X5 tC_X5_bestNext 2 dd_X5_bestNext rfl (by decide) (by decide) rfl (Nat.le_of_ble_eq_true rfl) dX5_listFor_88 rfl (fun r_7 σ_6 h => ?_)
      obtain ⟨hi_8, h⟩ := h
      refine f_iast C (j := tn x4) a94 hi_8 rfl dX5_listFor_91 rfl ?_
      refine f_aload_n C (j := 0) dX5_listFor_92 rfl rfl rfl ?_
      refine f_dup C dX5_listFor_93 rfl rfl ?_
      refine f_names (fun σ_9 hσ_10 => ?_)
      replace h := h σ_9 hσ_10
      refine f_geti C tF_X5_30 rfl o93 dX5_listFor_94 rfl ?_
      refine f_iconst C (v := 1) dX5_listFor_97 kc1 rfl ?_
      refine f_iadd C dX5_listFor_98 rfl ?_
      refine f_puti C tF_X5_30 fm_5_4 rfl o93 dX5_listFor_99 rfl ?_
      refine f_iload_n C (j := 3) dX5_listFor_102 rfl rfl rfl ?_
      refine f_iconst C (v := 1) dX5_listFor_103 kc1 rfl ?_
      refine f_aload_n C (j := 0) dX5_listFor_104 rfl rfl rfl ?_
      refine f_getc C tF_X5_27 rfl o93 cs93_3 (by decide) dX5_listFor_105 rfl ?_
      refine f_iload C (j := 4) dX5_listFor_108 rfl rfl ?_
      refine f_names (fun σ_11 hσ_12 => ?_)
      replace h := h σ_11 hσ_12
      refine f_iald C (j := tn x4) a94 hi_8 rfl dX5_listFor_110 rfl ?_
      refine f_ishl C dX5_listFor_111 rfl ?_
      refine f_ior C dX5_listFor_112 rfl ?_
      refine f_name (fun x3_13 hx_14 => ?_)
      replace h := h x3_13 hx_14
      refine f_istore_n C (lv2 := [(3, .int x3_13), (0, .ref (B + 93)), (1, .int x1), (2, .int x2), (4, .int x4)]) dX5_listFor_113 rfl (by decide) rfl rfl ?_
      obtain ⟨x4_15, hx_16⟩ : ∃ y : Int32, y = x4 + 1 := ⟨_, rfl⟩
      replace h := h x4_15 hx_16
      refine f_iinc C (j := 4) (v := x4_15) (lv2 := [(4, .int x4_15), (3, .int x3_13), (0, .ref (B + 93)), (1, .int x1), (2, .int x2)]) dX5_listFor_114 rfl hx_16.symm (by decide) rfl rfl ?_
      refine f_goto C (t := 66) dX5_listFor_117 (by decide) ?_
      refine f_lv C (lv2 := [(0, .ref (B + 93)), (1, .int x1), (2, .int x2), (3, .int x3_13), (4, .int x4_15)]) [2, 3, 4, 1, 0] rfl ?_
      exact hK66 _ _ _ h
def w_X5_listFor_43 (K10 : Int32 × Int32 × Sto → Prop) (x1 : Int32) (x2 : Int32) (x3 : Int32) (x4 : Int32) (z0 : Int32) (z1 : Int32) (σ : Sto) (P : Int32 → Sto → Prop) : Prop :=
  vp_in z1 4096 ∧ ∀ x3_23 : Int32, x3_23 = (x3 - 1) &&& x1 → ∀ x4_25 : Int32, x4_25 = x4 + 1 → K10 (x3_23, x4_25, si σ 87 (tn z1) z0)
theorem s_X5_listFor_43 {B : Nat} {E : Nat → List (Nat × Value) → List Value → Sto → Prop} {P : Int32 → Sto → Prop} (C : Cy B E RX5 cX5_listFor 5 (some .int) 4 98 (Zm (QFi P))) (x1 : Int32) (x2 : Int32) (x3 : Int32) (x4 : Int32) (z0 : Int32) (z1 : Int32) (K10 : Int32 × Int32 × Sto → Prop) (hK10 : ∀ (x3 : Int32) (x4 : Int32) (σ : Sto), K10 (x3, x4, σ) → E 10 [(0, .ref (B + 93)), (1, .int x1), (2, .int x2), (3, .int x3), (4, .int x4)] [] σ) (σ : Sto) (h : w_X5_listFor_43 K10 x1 x2 x3 x4 z0 z1 σ P) : E 43 [(0, .ref (B + 93)), (1, .int x1), (2, .int x2), (3, .int x3), (4, .int x4)] [.int z0, .int z1, .ref (B + 87)] σ := by
  unfold w_X5_listFor_43 at h
  obtain ⟨hi_22, h⟩ := h
  refine f_iast C (j := tn z1) a87 hi_22 rfl dX5_listFor_43 rfl ?_
  refine f_iload_n C (j := 3) dX5_listFor_44 rfl rfl rfl ?_
  refine f_iconst C (v := 1) dX5_listFor_45 kc1 rfl ?_
  refine f_isub C dX5_listFor_46 rfl ?_
  refine f_iload_n C (j := 1) dX5_listFor_47 rfl rfl rfl ?_
  refine f_iand C dX5_listFor_48 rfl ?_
  refine f_name (fun x3_23 hx_24 => ?_)
  replace h := h x3_23 hx_24
  refine f_istore_n C (lv2 := [(3, .int x3_23), (0, .ref (B + 93)), (1, .int x1), (2, .int x2), (4, .int x4)]) dX5_listFor_49 rfl (by decide) rfl rfl ?_
  obtain ⟨x4_25, hx_26⟩ : ∃ y : Int32, y = x4 + 1 := ⟨_, rfl⟩
  replace h := h x4_25 hx_26
  refine f_iinc C (j := 4) (v := x4_25) (lv2 := [(4, .int x4_25), (3, .int x3_23), (0, .ref (B + 93)), (1, .int x1), (2, .int x2)]) dX5_listFor_50 rfl hx_26.symm (by decide) rfl rfl ?_
  refine f_goto C (t := 10) dX5_listFor_53 (by decide) ?_
  refine f_lv C (lv2 := [(0, .ref (B + 93)), (1, .int x1), (2, .int x2), (3, .int x3_23), (4, .int x4_25)]) [2, 3, 4, 1, 0] rfl ?_
  exact hK10 _ _ _ h
def w_X5_listFor_10 (K10 : Int32 × Int32 × Sto → Prop) (x1 : Int32) (x2 : Int32) (x3 : Int32) (x4 : Int32) (σ : Sto) (P : Int32 → Sto → Prop) : Prop :=
  (if (1 <<< (x2 &&& 31)) ≤ x4 then Lp (fun (K : Int32 × Int32 × Sto → Prop) s => w_X5_listFor_66 K x1 x2 s.1 s.2.1 s.2.2 P) (0, 0, si σ 93 4 0) else (if x3 = x1 then w_X5_listFor_43 K10 x1 x2 x3 x4 0 x3 σ P else w_X5_bestNext x1 x3 σ (fun r_19 σ_18 => w_X5_worthOfNext x3 r_19 σ_18 (fun r_21 σ_20 => w_X5_listFor_43 K10 x1 x2 x3 x4 r_21 x3 σ_20 P))))
theorem s_X5_listFor_10 {B : Nat} {E : Nat → List (Nat × Value) → List Value → Sto → Prop} {P : Int32 → Sto → Prop} (C : Cy B E RX5 cX5_listFor 5 (some .int) 4 98 (Zm (QFi P))) (x1 : Int32) (x2 : Int32) (x3 : Int32) (x4 : Int32) (K10 : Int32 × Int32 × Sto → Prop) (hK10 : ∀ (x3 : Int32) (x4 : Int32) (σ : Sto), K10 (x3, x4, σ) → E 10 [(0, .ref (B + 93)), (1, .int x1), (2, .int x2), (3, .int x3), (4, .int x4)] [] σ) (σ : Sto) (h : w_X5_listFor_10 K10 x1 x2 x3 x4 σ P) : E 10 [(0, .ref (B + 93)), (1, .int x1), (2, .int x2), (3, .int x3), (4, .int x4)] [] σ := by
  unfold w_X5_listFor_10 at h
  refine f_iload C (j := 4) dX5_listFor_10 rfl rfl ?_
  refine f_iconst C (v := 1) dX5_listFor_12 kc1 rfl ?_
  refine f_iload_n C (j := 2) dX5_listFor_13 rfl rfl rfl ?_
  refine f_ishl C dX5_listFor_14 rfl ?_
  refine f_icmp_ge C (t := 56) dX5_listFor_15 (by decide) rfl (fun hq_3 => ?_) (fun hq_3 => ?_)
  · replace h := Eq.mp (if_pos hq_3) h
    refine f_iconst C (v := 0) dX5_listFor_56 kc0 rfl ?_
    refine f_istore_n C (lv2 := [(3, .int 0), (0, .ref (B + 93)), (1, .int x1), (2, .int x2), (4, .int x4)]) dX5_listFor_57 rfl (by decide) rfl rfl ?_
    refine f_aload_n C (j := 1) dX5_listFor_58 rfl rfl rfl ?_
    refine f_iconst C (v := 0) dX5_listFor_59 kc0 rfl ?_
    refine f_puti C tF_X5_30 fm_5_4 rfl o93 dX5_listFor_60 rfl ?_
    refine f_iconst C (v := 0) dX5_listFor_63 kc0 rfl ?_
    refine f_istore C (lv2 := [(4, .int 0), (3, .int 0), (0, .ref (B + 93)), (1, .int x1), (2, .int x2)]) dX5_listFor_64 (by decide) rfl rfl ?_
    refine f_lv C (lv2 := [(0, .ref (B + 93)), (1, .int x1), (2, .int x2), (3, .int 0), (4, .int 0)]) [2, 3, 4, 1, 0] rfl ?_
    exact Lp_sound (fun s : Int32 × Int32 × Sto => E 66 [(0, .ref (B + 93)), (1, .int x1), (2, .int x2), (3, .int s.1), (4, .int s.2.1)] [] s.2.2) h (fun K s hK h => s_X5_listFor_66 C x1 x2 s.1 s.2.1 K (fun x3 x4 σ hk => hK (x3, x4, σ) hk) s.2.2 h)
  · replace h := Eq.mp (if_neg hq_3) h
    refine f_aload_n C (j := 0) dX5_listFor_18 rfl rfl rfl ?_
    refine f_getc C tF_X5_23 rfl o93 cs93_2 (by decide) dX5_listFor_19 rfl ?_
    refine f_iload_n C (j := 3) dX5_listFor_22 rfl rfl rfl ?_
    refine f_iload_n C (j := 3) dX5_listFor_23 rfl rfl rfl ?_
    refine f_iload_n C (j := 1) dX5_listFor_24 rfl rfl rfl ?_
    refine f_icmp_ne C (t := 32) dX5_listFor_25 (by decide) rfl (fun hq_17 => ?_) (fun hq_17 => ?_)
    · replace h := Eq.mp (if_neg hq_17) h
      refine f_aload_n C (j := 0) dX5_listFor_32 rfl rfl rfl ?_
      refine f_iload_n C (j := 3) dX5_listFor_33 rfl rfl rfl ?_
      refine f_aload_n C (j := 0) dX5_listFor_34 rfl rfl rfl ?_
      refine f_iload_n C (j := 1) dX5_listFor_35 rfl rfl rfl ?_
      refine f_iload_n C (j := 3) dX5_listFor_36 rfl rfl rfl ?_
      refine f_callVi C (a := 93) (ci := 5) (As := fun B => [.int x1, .int x3]) o93 rfl (c_X5_bestNext  _ _ _ _ h) tM_X5_87 tI_X5_bestNext tS_X5_bestNext tN_X5 tC_X5_bestNext 2 dd_X5_bestNext rfl (by decide) (by decide) rfl (Nat.le_of_ble_eq_true rfl) dX5_listFor_37 rfl (fun r_19 σ_18 h => ?_)
      refine f_callVi C (a := 93) (ci := 5) (As := fun B => [.int x3, .int r_19]) o93 rfl (c_X5_worthOfNext  _ _ _ _ h) tM_X5_90 tI_X5_worthOfNext tS_X5_worthOfNext tN_X5 tC_X5_worthOfNext 2 dd_X5_worthOfNext rfl (by decide) (by decide) rfl (Nat.le_of_ble_eq_true rfl) dX5_listFor_40 rfl (fun r_21 σ_20 h => ?_)
      exact s_X5_listFor_43 C _ _ _ _ _ _  K10 hK10 _ h
    · replace h := Eq.mp (if_pos hq_17) h
      refine f_iconst C (v := 0) dX5_listFor_28 kc0 rfl ?_
      refine f_goto C (t := 43) dX5_listFor_29 (by decide) ?_
      exact s_X5_listFor_43 C _ _ _ _ _ _  K10 hK10 _ h
def w_X5_listFor (x1 : Int32) (σ : Sto) (P : Int32 → Sto → Prop) : Prop :=
  w_J6_bitCount_0f7a4 x1 σ (fun r_2 σ_1 => Lp (fun (K : Int32 × Int32 × Sto → Prop) s => w_X5_listFor_10 K x1 r_2 s.1 s.2.1 s.2.2 P) (x1, 0, σ_1))
theorem s_X5_listFor {B : Nat} {E : Nat → List (Nat × Value) → List Value → Sto → Prop} {P : Int32 → Sto → Prop} (C : Cy B E RX5 cX5_listFor 5 (some .int) 4 98 (Zm (QFi P))) (x1 : Int32) (σ : Sto) (h : w_X5_listFor x1 σ P) : E 0 [(0, .ref (B + 93)), (1, .int x1)] [] σ := by
  unfold w_X5_listFor at h
  refine f_iload_n C (j := 1) dX5_listFor_0 rfl rfl rfl ?_
  refine f_callSi C (As := fun B => [.int x1]) (c_J6_bitCount_0f7a4  _ _ _ h) tM_X5_75 tT_J6_bitCount_0f7a4 tN_J6 tC_J6_bitCount_0f7a4 1 dd_J6_bitCount_0f7a4 rfl (by decide) (by decide) rfl (Nat.le_of_ble_eq_true rfl) dX5_listFor_1 rfl (fun r_2 σ_1 h => ?_)
  refine f_istore_n C (lv2 := [(2, .int r_2), (0, .ref (B + 93)), (1, .int x1)]) dX5_listFor_4 rfl (by decide) rfl rfl ?_
  refine f_iload_n C (j := 2) dX5_listFor_5 rfl rfl rfl ?_
  refine f_istore_n C (lv2 := [(3, .int x1), (2, .int r_2), (0, .ref (B + 93)), (1, .int x1)]) dX5_listFor_6 rfl (by decide) rfl rfl ?_
  refine f_iconst C (v := 0) dX5_listFor_7 kc0 rfl ?_
  refine f_istore C (lv2 := [(4, .int 0), (3, .int x1), (2, .int r_2), (0, .ref (B + 93)), (1, .int x1)]) dX5_listFor_8 (by decide) rfl rfl ?_
  refine f_lv C (lv2 := [(0, .ref (B + 93)), (1, .int x1), (2, .int r_2), (3, .int x1), (4, .int 0)]) [3, 4, 2, 1, 0] rfl ?_
  exact Lp_sound (fun s : Int32 × Int32 × Sto => E 10 [(0, .ref (B + 93)), (1, .int x1), (2, .int r_2), (3, .int s.1), (4, .int s.2.1)] [] s.2.2) h (fun K s hK h => s_X5_listFor_10 C x1 r_2 s.1 s.2.1 K (fun x3 x4 σ hk => hK (x3, x4, σ) hk) s.2.2 h)
theorem c_X5_listFor (x1 : Int32) (σ : Sto) (P : Int32 → Sto → Prop) (h : w_X5_listFor x1 σ P) : Ct yX5_listFor cX5_listFor 5 (some .int) 4 98 (fun B => [.ref (B + 93), .int x1]) σ (QFi P) := Ct.of (by decide) (fun _ => Nat.le_of_ble_eq_true rfl) (fun B E C => s_X5_listFor C x1 σ h)
def w_X5_startGame (x1 : Int32) (σ : Sto) (P : Sto → Prop) : Prop :=
  w_J7_fill_53178 87 4096 99 (si σ 93 6 x1) (fun σ_1 => P σ_1)
theorem s_X5_startGame {B : Nat} {E : Nat → List (Nat × Value) → List Value → Sto → Prop} {P : Sto → Prop} (C : Cy B E RX5 cX5_startGame 2 none 1 23 (Zm (QFv P))) (x1 : Int32) (σ : Sto) (h : w_X5_startGame x1 σ P) : E 0 [(0, .ref (B + 93)), (1, .int x1)] [] σ := by
  unfold w_X5_startGame at h
  refine f_aload_n C (j := 0) dX5_startGame_0 rfl rfl rfl ?_
  refine f_iload_n C (j := 1) dX5_startGame_1 rfl rfl rfl ?_
  refine f_puti C tF_X5_34 fm_5_6 rfl o93 dX5_startGame_2 rfl ?_
  refine f_aload_n C (j := 0) dX5_startGame_5 rfl rfl rfl ?_
  refine f_getc C tF_X5_23 rfl o93 cs93_2 (by decide) dX5_startGame_6 rfl ?_
  refine f_bipush C (v := 99) dX5_startGame_9 kb99 rfl ?_
  refine f_callSv C (As := fun B => [.ref (B + 87), .int 99]) (c_J7_fill_53178  _ _ _ _ _ h) tM_X5_96 tT_J7_fill_53178 tN_J7 tC_J7_fill_53178 2 dd_J7_fill_53178 rfl (by decide) (by decide) rfl (Nat.le_of_ble_eq_true rfl) dX5_startGame_11 rfl (fun σ_1 h => ?_)
  exact f_vret C dX5_startGame_14 h
theorem c_X5_startGame (x1 : Int32) (σ : Sto) (P : Sto → Prop) (h : w_X5_startGame x1 σ P) : Ct yX5_startGame cX5_startGame 2 none 1 23 (fun B => [.ref (B + 93), .int x1]) σ (QFv P) := Ct.of (by decide) (fun _ => Nat.le_of_ble_eq_true rfl) (fun B E C => s_X5_startGame C x1 σ h)
def w_X5_score (x1 : Int32) (σ : Sto) (P : Int32 → Sto → Prop) : Prop :=
  w_X6_doable x1 σ (fun r_2 σ_1 => w_J6_bitCount_0f7a4 (r_2 &&& (gi σ_1 93 6)) σ_1 (fun r_4 σ_3 => w_J6_bitCount_0f7a4 (r_2 &&& (~~~(gi σ_3 93 6))) σ_3 (fun r_6 σ_5 => P (r_4 - r_6) σ_5)))
theorem s_X5_score {B : Nat} {E : Nat → List (Nat × Value) → List Value → Sto → Prop} {P : Int32 → Sto → Prop} (C : Cy B E RX5 cX5_score 3 (some .int) 1 23 (Zm (QFi P))) (x1 : Int32) (σ : Sto) (h : w_X5_score x1 σ P) : E 0 [(0, .ref (B + 93)), (1, .int x1)] [] σ := by
  unfold w_X5_score at h
  refine f_aload_n C (j := 0) dX5_score_0 rfl rfl rfl ?_
  refine f_getc C tF_X5_15 rfl o93 cs93_0 (by decide) dX5_score_1 rfl ?_
  refine f_iload_n C (j := 1) dX5_score_4 rfl rfl rfl ?_
  refine f_callVi C (a := 88) (ci := 6) (As := fun B => [.int x1]) o88 rfl (c_X6_doable  _ _ _ h) tM_X5_93 tI_X6_doable tS_X6_doable tN_X6 tC_X6_doable 1 dd_X6_doable rfl (by decide) (by decide) rfl (Nat.le_of_ble_eq_true rfl) dX5_score_5 rfl (fun r_2 σ_1 h => ?_)
  refine f_istore_n C (lv2 := [(2, .int r_2), (0, .ref (B + 93)), (1, .int x1)]) dX5_score_8 rfl (by decide) rfl rfl ?_
  refine f_iload_n C (j := 0) dX5_score_9 rfl rfl rfl ?_
  refine f_aload_n C (j := 1) dX5_score_10 rfl rfl rfl ?_
  refine f_geti C tF_X5_34 rfl o93 dX5_score_11 rfl ?_
  refine f_iand C dX5_score_14 rfl ?_
  refine f_callSi C (As := fun B => [.int (r_2 &&& (gi σ_1 93 6))]) (c_J6_bitCount_0f7a4  _ _ _ h) tM_X5_75 tT_J6_bitCount_0f7a4 tN_J6 tC_J6_bitCount_0f7a4 1 dd_J6_bitCount_0f7a4 rfl (by decide) (by decide) rfl (Nat.le_of_ble_eq_true rfl) dX5_score_15 rfl (fun r_4 σ_3 h => ?_)
  refine f_iload_n C (j := 0) dX5_score_18 rfl rfl rfl ?_
  refine f_aload_n C (j := 1) dX5_score_19 rfl rfl rfl ?_
  refine f_geti C tF_X5_34 rfl o93 dX5_score_20 rfl ?_
  refine f_iconst C (v := (-1)) dX5_score_23 kcm1 rfl ?_
  refine f_inot C dX5_score_24 rfl ?_
  refine f_iand C dX5_score_25 rfl ?_
  refine f_callSi C (As := fun B => [.int (r_2 &&& (~~~(gi σ_3 93 6)))]) (c_J6_bitCount_0f7a4  _ _ _ h) tM_X5_75 tT_J6_bitCount_0f7a4 tN_J6 tC_J6_bitCount_0f7a4 1 dd_J6_bitCount_0f7a4 rfl (by decide) (by decide) rfl (Nat.le_of_ble_eq_true rfl) dX5_score_26 rfl (fun r_6 σ_5 h => ?_)
  refine f_isub C dX5_score_29 rfl ?_
  exact f_iret C dX5_score_30 h
theorem c_X5_score (x1 : Int32) (σ : Sto) (P : Int32 → Sto → Prop) (h : w_X5_score x1 σ P) : Ct yX5_score cX5_score 3 (some .int) 1 23 (fun B => [.ref (B + 93), .int x1]) σ (QFi P) := Ct.of (by decide) (fun _ => Nat.le_of_ble_eq_true rfl) (fun B E C => s_X5_score C x1 σ h)
def w_X5_play_33 (rec : Int32 → Int32 → Int32 → Sto → (Int32 → Sto → Prop) → Prop) (x4 : Int32) (σ : Sto) (P : Int32 → Sto → Prop) : Prop :=
  w_X5_score x4 σ (fun r_8 σ_7 => P r_8 σ_7)
theorem s_X5_play_33 {B : Nat} {E : Nat → List (Nat × Value) → List Value → Sto → Prop} (rec : Int32 → Int32 → Int32 → Sto → (Int32 → Sto → Prop) → Prop) (n : Nat) (hrec : ∀ (x1 : Int32) (x2 : Int32) (x3 : Int32) (σ : Sto) (P : Int32 → Sto → Prop), rec x1 x2 x3 σ P → Ct yX5_play cX5_play 9 (some .int) (2 + n) (49 + n * 28) (fun B => [.ref (B + 93), .int x1, .int x2, .int x3]) σ (QFi P)) {P : Int32 → Sto → Prop} (C : Cy B E RX5 cX5_play 9 (some .int) (2 + (n + 1)) (49 + (n + 1) * 28) (Zm (QFi P))) (x4 : Int32) (σ : Sto) (h : w_X5_play_33 rec x4 σ P) : E 33 [(0, .ref (B + 93)), (4, .int x4)] [] σ := by
  unfold w_X5_play_33 at h
  refine f_aload_n C (j := 0) dX5_play_33 rfl rfl rfl ?_
  refine f_iload C (j := 1) dX5_play_34 rfl rfl ?_
  refine f_callVi C (a := 93) (ci := 5) (As := fun B => [.int x4]) o93 rfl (c_X5_score  _ _ _ h) tM_X5_110 tI_X5_score tS_X5_score tN_X5 tC_X5_score 1 dd_X5_score rfl (by omega) (by omega) rfl (Nat.le_of_ble_eq_true rfl) dX5_play_36 rfl (fun r_8 σ_7 h => ?_)
  exact f_iret C dX5_play_39 h
def w_X5_play_115 (rec : Int32 → Int32 → Int32 → Sto → (Int32 → Sto → Prop) → Prop) (K74 : Int32 × Int32 × Sto → Prop) (x1 : Int32) (x2 : Int32) (x3 : Int32) (x5 : Int32) (x6 : Int32) (x7 : Int32) (z0 : Int32) (z1 : Int32) (z2 : Int32) (σ : Sto) (P : Int32 → Sto → Prop) : Prop :=
  rec z2 z1 z0 σ (fun r_21 σ_20 => (if x3 = 0 then ∀ x6_23 : Int32, x6_23 = (if r_21 < x6 then r_21 else x6) → ∀ x7_25 : Int32, x7_25 = x7 + 1 → K74 (x6_23, x7_25, σ_20) else ∀ x6_27 : Int32, x6_27 = (if x6 < r_21 then r_21 else x6) → ∀ x7_29 : Int32, x7_29 = x7 + 1 → K74 (x6_27, x7_29, σ_20)))
theorem s_X5_play_115 {B : Nat} {E : Nat → List (Nat × Value) → List Value → Sto → Prop} (rec : Int32 → Int32 → Int32 → Sto → (Int32 → Sto → Prop) → Prop) (n : Nat) (hrec : ∀ (x1 : Int32) (x2 : Int32) (x3 : Int32) (σ : Sto) (P : Int32 → Sto → Prop), rec x1 x2 x3 σ P → Ct yX5_play cX5_play 9 (some .int) (2 + n) (49 + n * 28) (fun B => [.ref (B + 93), .int x1, .int x2, .int x3]) σ (QFi P)) {P : Int32 → Sto → Prop} (C : Cy B E RX5 cX5_play 9 (some .int) (2 + (n + 1)) (49 + (n + 1) * 28) (Zm (QFi P))) (x1 : Int32) (x2 : Int32) (x3 : Int32) (x5 : Int32) (x6 : Int32) (x7 : Int32) (z0 : Int32) (z1 : Int32) (z2 : Int32) (K74 : Int32 × Int32 × Sto → Prop) (hK74 : ∀ (x6 : Int32) (x7 : Int32) (σ : Sto), K74 (x6, x7, σ) → E 74 [(0, .ref (B + 93)), (1, .int x1), (2, .int x2), (3, .int x3), (5, .int x5), (6, .int x6), (7, .int x7)] [] σ) (σ : Sto) (h : w_X5_play_115 rec K74 x1 x2 x3 x5 x6 x7 z0 z1 z2 σ P) : E 115 [(0, .ref (B + 93)), (1, .int x1), (2, .int x2), (3, .int x3), (5, .int x5), (6, .int x6), (7, .int x7)] [.int z0, .int z1, .int z2, .ref (B + 93)] σ := by
  unfold w_X5_play_115 at h
  refine f_callVi C (a := 93) (ci := 5) (As := fun B => [.int z2, .int z1, .int z0]) o93 rfl (hrec _ _ _ _ _ h) tM_X5_106 tI_X5_play tS_X5_play tN_X5 tC_X5_play 3 dd_X5_play rfl (by omega) (by omega) rfl (Nat.le_of_ble_eq_true rfl) dX5_play_115 rfl (fun r_21 σ_20 h => ?_)
  refine f_istore C (lv2 := [(8, .int r_21), (0, .ref (B + 93)), (1, .int x1), (2, .int x2), (3, .int x3), (5, .int x5), (6, .int x6), (7, .int x7)]) dX5_play_118 (by decide) rfl rfl ?_
  refine f_iload_n C (j := 4) dX5_play_120 rfl rfl rfl ?_
  refine f_if_eq C (t := 134) dX5_play_121 (by decide) rfl (fun hq_22 => ?_) (fun hq_22 => ?_)
  · replace h := Eq.mp (if_pos hq_22) h
    refine f_iload C (j := 6) dX5_play_134 rfl rfl ?_
    refine f_iload C (j := 0) dX5_play_136 rfl rfl ?_
    refine f_mmin C tM_X5_118 tT_J9_min_7cf53 tN_J9 tC_J9_min_7cf53 (by omega) (by omega) (Nat.le_of_ble_eq_true rfl) dX5_play_138 rfl ?_
    refine f_name (fun x6_23 hx_24 => ?_)
    replace h := h x6_23 hx_24
    refine f_istore C (lv2 := [(6, .int x6_23), (8, .int r_21), (0, .ref (B + 93)), (1, .int x1), (2, .int x2), (3, .int x3), (5, .int x5), (7, .int x7)]) dX5_play_141 (by decide) rfl rfl ?_
    obtain ⟨x7_25, hx_26⟩ : ∃ y : Int32, y = x7 + 1 := ⟨_, rfl⟩
    replace h := h x7_25 hx_26
    refine f_iinc C (j := 7) (v := x7_25) (lv2 := [(7, .int x7_25), (6, .int x6_23), (8, .int r_21), (0, .ref (B + 93)), (1, .int x1), (2, .int x2), (3, .int x3), (5, .int x5)]) dX5_play_143 rfl hx_26.symm (by decide) rfl rfl ?_
    refine f_goto C (t := 74) dX5_play_146 (by decide) ?_
    refine f_lv C (lv2 := [(0, .ref (B + 93)), (1, .int x1), (2, .int x2), (3, .int x3), (5, .int x5), (6, .int x6_23), (7, .int x7_25)]) [3, 4, 5, 6, 7, 1, 0] rfl ?_
    exact hK74 _ _ _ h
  · replace h := Eq.mp (if_neg hq_22) h
    refine f_iload C (j := 6) dX5_play_124 rfl rfl ?_
    refine f_iload C (j := 0) dX5_play_126 rfl rfl ?_
    refine f_mmax C tM_X5_113 tT_J9_max_7cf53 tN_J9 tC_J9_max_7cf53 (by omega) (by omega) (Nat.le_of_ble_eq_true rfl) dX5_play_128 rfl ?_
    refine f_goto C (t := 141) dX5_play_131 (by decide) ?_
    refine f_name (fun x6_27 hx_28 => ?_)
    replace h := h x6_27 hx_28
    refine f_istore C (lv2 := [(6, .int x6_27), (8, .int r_21), (0, .ref (B + 93)), (1, .int x1), (2, .int x2), (3, .int x3), (5, .int x5), (7, .int x7)]) dX5_play_141 (by decide) rfl rfl ?_
    obtain ⟨x7_29, hx_30⟩ : ∃ y : Int32, y = x7 + 1 := ⟨_, rfl⟩
    replace h := h x7_29 hx_30
    refine f_iinc C (j := 7) (v := x7_29) (lv2 := [(7, .int x7_29), (6, .int x6_27), (8, .int r_21), (0, .ref (B + 93)), (1, .int x1), (2, .int x2), (3, .int x3), (5, .int x5)]) dX5_play_143 rfl hx_30.symm (by decide) rfl rfl ?_
    refine f_goto C (t := 74) dX5_play_146 (by decide) ?_
    refine f_lv C (lv2 := [(0, .ref (B + 93)), (1, .int x1), (2, .int x2), (3, .int x3), (5, .int x5), (6, .int x6_27), (7, .int x7_29)]) [3, 4, 5, 6, 7, 1, 0] rfl ?_
    exact hK74 _ _ _ h
def w_X5_play_74 (rec : Int32 → Int32 → Int32 → Sto → (Int32 → Sto → Prop) → Prop) (K74 : Int32 × Int32 × Sto → Prop) (x1 : Int32) (x2 : Int32) (x3 : Int32) (x5 : Int32) (x6 : Int32) (x7 : Int32) (σ : Sto) (P : Int32 → Sto → Prop) : Prop :=
  isCity (gr σ 93 5) ∧ (if (gi σ (gr σ 93 5) 8) ≤ x7 then vp_in x1 4096 ∧ P x6 (si σ 87 (tn x1) x6) else (if ((x5 >>> (x7 &&& 31)) &&& 1) = 0 then ∀ x7_17 : Int32, x7_17 = x7 + 1 → K74 (x6, x7_17, σ) else (if x3 = 0 then w_X5_play_115 rec K74 x1 x2 x3 x5 x6 x7 1 (x2 - 1) (x1 ||| (1 <<< (x7 &&& 31))) σ P else w_X5_play_115 rec K74 x1 x2 x3 x5 x6 x7 0 (x2 - 1) (x1 ||| (1 <<< (x7 &&& 31))) σ P)))
theorem s_X5_play_74 {B : Nat} {E : Nat → List (Nat × Value) → List Value → Sto → Prop} (rec : Int32 → Int32 → Int32 → Sto → (Int32 → Sto → Prop) → Prop) (n : Nat) (hrec : ∀ (x1 : Int32) (x2 : Int32) (x3 : Int32) (σ : Sto) (P : Int32 → Sto → Prop), rec x1 x2 x3 σ P → Ct yX5_play cX5_play 9 (some .int) (2 + n) (49 + n * 28) (fun B => [.ref (B + 93), .int x1, .int x2, .int x3]) σ (QFi P)) {P : Int32 → Sto → Prop} (C : Cy B E RX5 cX5_play 9 (some .int) (2 + (n + 1)) (49 + (n + 1) * 28) (Zm (QFi P))) (x1 : Int32) (x2 : Int32) (x3 : Int32) (x5 : Int32) (x6 : Int32) (x7 : Int32) (K74 : Int32 × Int32 × Sto → Prop) (hK74 : ∀ (x6 : Int32) (x7 : Int32) (σ : Sto), K74 (x6, x7, σ) → E 74 [(0, .ref (B + 93)), (1, .int x1), (2, .int x2), (3, .int x3), (5, .int x5), (6, .int x6), (7, .int x7)] [] σ) (σ : Sto) (h : w_X5_play_74 rec K74 x1 x2 x3 x5 x6 x7 σ P) : E 74 [(0, .ref (B + 93)), (1, .int x1), (2, .int x2), (3, .int x3), (5, .int x5), (6, .int x6), (7, .int x7)] [] σ := by
  unfold w_X5_play_74 at h
  refine f_iload C (j := 6) dX5_play_74 rfl rfl ?_
  refine f_aload_n C (j := 0) dX5_play_76 rfl rfl rfl ?_
  obtain ⟨hc_13, h⟩ := h
  refine f_getm C tF_X5_9 rfl o93 cn93_5 hc_13.z dX5_play_77 rfl ?_
  refine f_geti C tF_X5_65 rfl hc_13.o dX5_play_80 rfl ?_
  refine f_icmp_ge C (t := 149) dX5_play_83 (by decide) rfl (fun hq_14 => ?_) (fun hq_14 => ?_)
  · replace h := Eq.mp (if_pos hq_14) h
    refine f_aload_n C (j := 0) dX5_play_149 rfl rfl rfl ?_
    refine f_getc C tF_X5_23 rfl o93 cs93_2 (by decide) dX5_play_150 rfl ?_
    refine f_iload_n C (j := 1) dX5_play_153 rfl rfl rfl ?_
    refine f_iload C (j := 5) dX5_play_154 rfl rfl ?_
    obtain ⟨hi_15, h⟩ := h
    refine f_iast C (j := tn x1) a87 hi_15 rfl dX5_play_156 rfl ?_
    refine f_iload C (j := 5) dX5_play_157 rfl rfl ?_
    exact f_iret C dX5_play_159 h
  · replace h := Eq.mp (if_neg hq_14) h
    refine f_iload C (j := 4) dX5_play_86 rfl rfl ?_
    refine f_iload C (j := 6) dX5_play_88 rfl rfl ?_
    refine f_ishr C dX5_play_90 rfl ?_
    refine f_iconst C (v := 1) dX5_play_91 kc1 rfl ?_
    refine f_iand C dX5_play_92 rfl ?_
    refine f_if_eq C (t := 143) dX5_play_93 (by decide) rfl (fun hq_16 => ?_) (fun hq_16 => ?_)
    · replace h := Eq.mp (if_pos hq_16) h
      obtain ⟨x7_17, hx_18⟩ : ∃ y : Int32, y = x7 + 1 := ⟨_, rfl⟩
      replace h := h x7_17 hx_18
      refine f_iinc C (j := 6) (v := x7_17) (lv2 := [(7, .int x7_17), (0, .ref (B + 93)), (1, .int x1), (2, .int x2), (3, .int x3), (5, .int x5), (6, .int x6)]) dX5_play_143 rfl hx_18.symm (by decide) rfl rfl ?_
      refine f_goto C (t := 74) dX5_play_146 (by decide) ?_
      refine f_lv C (lv2 := [(0, .ref (B + 93)), (1, .int x1), (2, .int x2), (3, .int x3), (5, .int x5), (6, .int x6), (7, .int x7_17)]) [1, 2, 3, 4, 5, 6, 0] rfl ?_
      exact hK74 _ _ _ h
    · replace h := Eq.mp (if_neg hq_16) h
      refine f_aload_n C (j := 0) dX5_play_96 rfl rfl rfl ?_
      refine f_iload_n C (j := 1) dX5_play_97 rfl rfl rfl ?_
      refine f_iconst C (v := 1) dX5_play_98 kc1 rfl ?_
      refine f_iload C (j := 6) dX5_play_99 rfl rfl ?_
      refine f_ishl C dX5_play_101 rfl ?_
      refine f_ior C dX5_play_102 rfl ?_
      refine f_iload_n C (j := 2) dX5_play_103 rfl rfl rfl ?_
      refine f_iconst C (v := 1) dX5_play_104 kc1 rfl ?_
      refine f_isub C dX5_play_105 rfl ?_
      refine f_iload_n C (j := 3) dX5_play_106 rfl rfl rfl ?_
      refine f_if_ne C (t := 114) dX5_play_107 (by decide) rfl (fun hq_19 => ?_) (fun hq_19 => ?_)
      · replace h := Eq.mp (if_neg hq_19) h
        refine f_iconst C (v := 0) dX5_play_114 kc0 rfl ?_
        exact s_X5_play_115 (rec := rec) n hrec C _ _ _ _ _ _ _ _ _  K74 hK74 _ h
      · replace h := Eq.mp (if_pos hq_19) h
        refine f_iconst C (v := 1) dX5_play_110 kc1 rfl ?_
        refine f_goto C (t := 115) dX5_play_111 (by decide) ?_
        exact s_X5_play_115 (rec := rec) n hrec C _ _ _ _ _ _ _ _ _  K74 hK74 _ h
def w_X5_play_e (rec : Int32 → Int32 → Int32 → Sto → (Int32 → Sto → Prop) → Prop) (x1 : Int32) (x2 : Int32) (x3 : Int32) (σ : Sto) (P : Int32 → Sto → Prop) : Prop :=
  w_X6_without x1 σ (fun r_2 σ_1 => isCity (gr σ_1 93 5) ∧ ∀ x5_4 : Int32, x5_4 = r_2 &&& (~~~(gi σ_1 (gr σ_1 93 5) 15)) → (if x2 ≤ 0 then w_X5_play_33 rec r_2 σ_1 P else (if x5_4 = 0 then w_X5_play_33 rec r_2 σ_1 P else vp_in x1 4096 ∧ (if (gi σ_1 87 (tn x1)) = 99 then (if x3 = 0 then Lp (fun (K : Int32 × Int32 × Sto → Prop) s => w_X5_play_74 rec K x1 x2 x3 x5_4 s.1 s.2.1 s.2.2 P) (99, 0, σ_1) else Lp (fun (K : Int32 × Int32 × Sto → Prop) s => w_X5_play_74 rec K x1 x2 x3 x5_4 s.1 s.2.1 s.2.2 P) ((-99), 0, σ_1)) else P (gi σ_1 87 (tn x1)) σ_1))))
theorem s_X5_play_e {B : Nat} {E : Nat → List (Nat × Value) → List Value → Sto → Prop} (rec : Int32 → Int32 → Int32 → Sto → (Int32 → Sto → Prop) → Prop) (n : Nat) (hrec : ∀ (x1 : Int32) (x2 : Int32) (x3 : Int32) (σ : Sto) (P : Int32 → Sto → Prop), rec x1 x2 x3 σ P → Ct yX5_play cX5_play 9 (some .int) (2 + n) (49 + n * 28) (fun B => [.ref (B + 93), .int x1, .int x2, .int x3]) σ (QFi P)) {P : Int32 → Sto → Prop} (C : Cy B E RX5 cX5_play 9 (some .int) (2 + (n + 1)) (49 + (n + 1) * 28) (Zm (QFi P))) (x1 : Int32) (x2 : Int32) (x3 : Int32) (σ : Sto) (h : w_X5_play_e rec x1 x2 x3 σ P) : E 0 [(0, .ref (B + 93)), (1, .int x1), (2, .int x2), (3, .int x3)] [] σ := by
  unfold w_X5_play_e at h
  refine f_aload_n C (j := 0) dX5_play_0 rfl rfl rfl ?_
  refine f_getc C tF_X5_15 rfl o93 cs93_0 (by decide) dX5_play_1 rfl ?_
  refine f_iload_n C (j := 1) dX5_play_4 rfl rfl rfl ?_
  refine f_callVi C (a := 88) (ci := 6) (As := fun B => [.int x1]) o88 rfl (c_X6_without  _ _ _ h) tM_X5_42 tI_X6_without tS_X6_without tN_X6 tC_X6_without 1 dd_X6_without rfl (by omega) (by omega) rfl (Nat.le_of_ble_eq_true rfl) dX5_play_5 rfl (fun r_2 σ_1 h => ?_)
  refine f_istore C (lv2 := [(4, .int r_2), (0, .ref (B + 93)), (1, .int x1), (2, .int x2), (3, .int x3)]) dX5_play_8 (by decide) rfl rfl ?_
  refine f_iload C (j := 0) dX5_play_10 rfl rfl ?_
  refine f_aload_n C (j := 1) dX5_play_12 rfl rfl rfl ?_
  obtain ⟨hc_3, h⟩ := h
  refine f_getm C tF_X5_9 rfl o93 cn93_5 hc_3.z dX5_play_13 rfl ?_
  refine f_geti C tF_X5_48 rfl hc_3.o dX5_play_16 rfl ?_
  refine f_iconst C (v := (-1)) dX5_play_19 kcm1 rfl ?_
  refine f_inot C dX5_play_20 rfl ?_
  refine f_iand C dX5_play_21 rfl ?_
  refine f_name (fun x5_4 hx_5 => ?_)
  replace h := h x5_4 hx_5
  refine f_istore C (lv2 := [(5, .int x5_4), (4, .int r_2), (0, .ref (B + 93)), (1, .int x1), (2, .int x2), (3, .int x3)]) dX5_play_22 (by decide) rfl rfl ?_
  refine f_iload_n C (j := 4) dX5_play_24 rfl rfl rfl ?_
  refine f_if_le C (t := 33) dX5_play_25 (by decide) rfl (fun hq_6 => ?_) (fun hq_6 => ?_)
  · replace h := Eq.mp (if_pos hq_6) h
    refine f_lv C (lv2 := [(0, .ref (B + 93)), (4, .int r_2)]) [2, 1] rfl ?_
    exact s_X5_play_33 (rec := rec) n hrec C _  _ h
  · replace h := Eq.mp (if_neg hq_6) h
    refine f_iload C (j := 0) dX5_play_28 rfl rfl ?_
    refine f_if_ne C (t := 40) dX5_play_30 (by decide) rfl (fun hq_9 => ?_) (fun hq_9 => ?_)
    · replace h := Eq.mp (if_neg hq_9) h
      refine f_aload_n C (j := 2) dX5_play_40 rfl rfl rfl ?_
      refine f_getc C tF_X5_23 rfl o93 cs93_2 (by decide) dX5_play_41 rfl ?_
      refine f_iload_n C (j := 3) dX5_play_44 rfl rfl rfl ?_
      obtain ⟨hi_10, h⟩ := h
      refine f_iald C (j := tn x1) a87 hi_10 rfl dX5_play_45 rfl ?_
      refine f_bipush C (v := 99) dX5_play_46 kb99 rfl ?_
      refine f_icmp_eq C (t := 58) dX5_play_48 (by decide) rfl (fun hq_11 => ?_) (fun hq_11 => ?_)
      · replace h := Eq.mp (if_pos hq_11) h
        refine f_iload_n C (j := 5) dX5_play_58 rfl rfl rfl ?_
        refine f_if_eq C (t := 67) dX5_play_59 (by decide) rfl (fun hq_12 => ?_) (fun hq_12 => ?_)
        · replace h := Eq.mp (if_pos hq_12) h
          refine f_bipush C (v := 99) dX5_play_67 kb99 rfl ?_
          refine f_istore C (lv2 := [(6, .int 99), (5, .int x5_4), (4, .int r_2), (0, .ref (B + 93)), (1, .int x1), (2, .int x2), (3, .int x3)]) dX5_play_69 (by decide) rfl rfl ?_
          refine f_iconst C (v := 0) dX5_play_71 kc0 rfl ?_
          refine f_istore C (lv2 := [(7, .int 0), (6, .int 99), (5, .int x5_4), (4, .int r_2), (0, .ref (B + 93)), (1, .int x1), (2, .int x2), (3, .int x3)]) dX5_play_72 (by decide) rfl rfl ?_
          refine f_lv C (lv2 := [(0, .ref (B + 93)), (1, .int x1), (2, .int x2), (3, .int x3), (5, .int x5_4), (6, .int 99), (7, .int 0)]) [4, 5, 6, 7, 2, 1, 0] rfl ?_
          exact Lp_sound (fun s : Int32 × Int32 × Sto => E 74 [(0, .ref (B + 93)), (1, .int x1), (2, .int x2), (3, .int x3), (5, .int x5_4), (6, .int s.1), (7, .int s.2.1)] [] s.2.2) h (fun K s hK h => s_X5_play_74 (rec := rec) n hrec C x1 x2 x3 x5_4 s.1 s.2.1 K (fun x6 x7 σ hk => hK (x6, x7, σ) hk) s.2.2 h)
        · replace h := Eq.mp (if_neg hq_12) h
          refine f_bipush C (v := (-99)) dX5_play_62 kbm99 rfl ?_
          refine f_goto C (t := 69) dX5_play_64 (by decide) ?_
          refine f_istore C (lv2 := [(6, .int (-99)), (5, .int x5_4), (4, .int r_2), (0, .ref (B + 93)), (1, .int x1), (2, .int x2), (3, .int x3)]) dX5_play_69 (by decide) rfl rfl ?_
          refine f_iconst C (v := 0) dX5_play_71 kc0 rfl ?_
          refine f_istore C (lv2 := [(7, .int 0), (6, .int (-99)), (5, .int x5_4), (4, .int r_2), (0, .ref (B + 93)), (1, .int x1), (2, .int x2), (3, .int x3)]) dX5_play_72 (by decide) rfl rfl ?_
          refine f_lv C (lv2 := [(0, .ref (B + 93)), (1, .int x1), (2, .int x2), (3, .int x3), (5, .int x5_4), (6, .int (-99)), (7, .int 0)]) [4, 5, 6, 7, 2, 1, 0] rfl ?_
          exact Lp_sound (fun s : Int32 × Int32 × Sto => E 74 [(0, .ref (B + 93)), (1, .int x1), (2, .int x2), (3, .int x3), (5, .int x5_4), (6, .int s.1), (7, .int s.2.1)] [] s.2.2) h (fun K s hK h => s_X5_play_74 (rec := rec) n hrec C x1 x2 x3 x5_4 s.1 s.2.1 K (fun x6 x7 σ hk => hK (x6, x7, σ) hk) s.2.2 h)
      · replace h := Eq.mp (if_neg hq_11) h
        refine f_aload_n C (j := 2) dX5_play_51 rfl rfl rfl ?_
        refine f_getc C tF_X5_23 rfl o93 cs93_2 (by decide) dX5_play_52 rfl ?_
        refine f_iload_n C (j := 3) dX5_play_55 rfl rfl rfl ?_
        refine f_iald C (j := tn x1) a87 hi_10 rfl dX5_play_56 rfl ?_
        exact f_iret C dX5_play_57 h
    · replace h := Eq.mp (if_pos hq_9) h
      refine f_lv C (lv2 := [(0, .ref (B + 93)), (4, .int r_2)]) [2, 1] rfl ?_
      exact s_X5_play_33 (rec := rec) n hrec C _  _ h
def w_X5_play : Nat → Int32 → Int32 → Int32 → Sto → (Int32 → Sto → Prop) → Prop
  | 0 => fun _ _ _ _ _ => False
  | n + 1 => fun x1 x2 x3 σ P => w_X5_play_e (w_X5_play n) x1 x2 x3 σ P
theorem c_X5_play (n : Nat) (x1 : Int32) (x2 : Int32) (x3 : Int32) (σ : Sto) (P : Int32 → Sto → Prop) (h : w_X5_play n x1 x2 x3 σ P) : Ct yX5_play cX5_play 9 (some .int) (2 + n) (49 + n * 28) (fun B => [.ref (B + 93), .int x1, .int x2, .int x3]) σ (QFi P) := by
  induction n generalizing x1 x2 x3 σ P with
  | zero => exact h.elim
  | succ n ih => exact Ct.of (by decide) (fun _ => Nat.le_of_ble_eq_true rfl) (fun B E C => s_X5_play_e (rec := w_X5_play n) n ih C x1 x2 x3 σ h)
def w_X5_worthOfGame (x1 : Int32) (x2 : Int32) (σ : Sto) (P : Int32 → Sto → Prop) : Prop :=
  w_X5_startGame x1 σ (fun σ_1 => isCity (gr σ_1 93 5) ∧ w_X5_play 16 (gi σ_1 (gr σ_1 93 5) 14) x2 1 σ_1 (fun r_5 σ_4 => P r_5 σ_4))
theorem s_X5_worthOfGame {B : Nat} {E : Nat → List (Nat × Value) → List Value → Sto → Prop} {P : Int32 → Sto → Prop} (C : Cy B E RX5 cX5_worthOfGame 3 (some .int) 19 525 (Zm (QFi P))) (x1 : Int32) (x2 : Int32) (σ : Sto) (h : w_X5_worthOfGame x1 x2 σ P) : E 0 [(0, .ref (B + 93)), (1, .int x1), (2, .int x2)] [] σ := by
  unfold w_X5_worthOfGame at h
  refine f_aload_n C (j := 0) dX5_worthOfGame_0 rfl rfl rfl ?_
  refine f_iload_n C (j := 1) dX5_worthOfGame_1 rfl rfl rfl ?_
  refine f_callVv C (a := 93) (ci := 5) (As := fun B => [.int x1]) o93 rfl (c_X5_startGame  _ _ _ h) tM_X5_102 tI_X5_startGame tS_X5_startGame tN_X5 tC_X5_startGame 1 dd_X5_startGame rfl (by decide) (by decide) rfl (Nat.le_of_ble_eq_true rfl) dX5_worthOfGame_2 rfl (fun σ_1 h => ?_)
  refine f_aload_n C (j := 0) dX5_worthOfGame_5 rfl rfl rfl ?_
  refine f_aload_n C (j := 0) dX5_worthOfGame_6 rfl rfl rfl ?_
  obtain ⟨hc_3, h⟩ := h
  refine f_getm C tF_X5_9 rfl o93 cn93_5 hc_3.z dX5_worthOfGame_7 rfl ?_
  refine f_geti C tF_X5_37 rfl hc_3.o dX5_worthOfGame_10 rfl ?_
  refine f_iload_n C (j := 2) dX5_worthOfGame_13 rfl rfl rfl ?_
  refine f_iconst C (v := 1) dX5_worthOfGame_14 kc1 rfl ?_
  refine f_callVi C (a := 93) (ci := 5) (As := fun B => [.int (gi σ_1 (gr σ_1 93 5) 14), .int x2, .int 1]) o93 rfl (c_X5_play 16 _ _ _ _ _ h) tM_X5_106 tI_X5_play tS_X5_play tN_X5 tC_X5_play 3 dd_X5_play rfl (by decide) (by decide) rfl (Nat.le_of_ble_eq_true rfl) dX5_worthOfGame_15 rfl (fun r_5 σ_4 h => ?_)
  exact f_iret C dX5_worthOfGame_18 h
theorem c_X5_worthOfGame (x1 : Int32) (x2 : Int32) (σ : Sto) (P : Int32 → Sto → Prop) (h : w_X5_worthOfGame x1 x2 σ P) : Ct yX5_worthOfGame cX5_worthOfGame 3 (some .int) 19 525 (fun B => [.ref (B + 93), .int x1, .int x2]) σ (QFi P) := Ct.of (by decide) (fun _ => Nat.le_of_ble_eq_true rfl) (fun B E C => s_X5_worthOfGame C x1 x2 σ h)
def w_X5_bestOpening_23 (K23 : Int32 × Int32 × Int32 × Sto → Prop) (x2 : Int32) (x3 : Int32) (x4 : Int32) (x5 : Int32) (x6 : Int32) (σ : Sto) (P : Int32 → Sto → Prop) : Prop :=
  isCity (gr σ 93 5) ∧ (if (gi σ (gr σ 93 5) 8) ≤ x6 then P x4 σ else (if ((x3 >>> (x6 &&& 31)) &&& 1) = 0 then ∀ x6_8 : Int32, x6_8 = x6 + 1 → K23 (x4, x5, x6_8, σ) else w_X5_play 16 ((gi σ (gr σ 93 5) 14) ||| (1 <<< (x6 &&& 31))) (x2 - 1) 0 σ (fun r_11 σ_10 => (if r_11 ≤ x5 then ∀ x6_13 : Int32, x6_13 = x6 + 1 → K23 (x4, x5, x6_13, σ_10) else ∀ x6_15 : Int32, x6_15 = x6 + 1 → K23 (x6, r_11, x6_15, σ_10)))))
theorem s_X5_bestOpening_23 {B : Nat} {E : Nat → List (Nat × Value) → List Value → Sto → Prop} {P : Int32 → Sto → Prop} (C : Cy B E RX5 cX5_bestOpening 8 (some .int) 19 525 (Zm (QFi P))) (x2 : Int32) (x3 : Int32) (x4 : Int32) (x5 : Int32) (x6 : Int32) (K23 : Int32 × Int32 × Int32 × Sto → Prop) (hK23 : ∀ (x4 : Int32) (x5 : Int32) (x6 : Int32) (σ : Sto), K23 (x4, x5, x6, σ) → E 23 [(0, .ref (B + 93)), (2, .int x2), (3, .int x3), (4, .int x4), (5, .int x5), (6, .int x6)] [] σ) (σ : Sto) (h : w_X5_bestOpening_23 K23 x2 x3 x4 x5 x6 σ P) : E 23 [(0, .ref (B + 93)), (2, .int x2), (3, .int x3), (4, .int x4), (5, .int x5), (6, .int x6)] [] σ := by
  unfold w_X5_bestOpening_23 at h
  refine f_iload C (j := 5) dX5_bestOpening_23 rfl rfl ?_
  refine f_aload_n C (j := 0) dX5_bestOpening_25 rfl rfl rfl ?_
  obtain ⟨hc_5, h⟩ := h
  refine f_getm C tF_X5_9 rfl o93 cn93_5 hc_5.z dX5_bestOpening_26 rfl ?_
  refine f_geti C tF_X5_65 rfl hc_5.o dX5_bestOpening_29 rfl ?_
  refine f_icmp_ge C (t := 87) dX5_bestOpening_32 (by decide) rfl (fun hq_6 => ?_) (fun hq_6 => ?_)
  · replace h := Eq.mp (if_pos hq_6) h
    refine f_iload C (j := 3) dX5_bestOpening_87 rfl rfl ?_
    exact f_iret C dX5_bestOpening_89 h
  · replace h := Eq.mp (if_neg hq_6) h
    refine f_iload_n C (j := 2) dX5_bestOpening_35 rfl rfl rfl ?_
    refine f_iload C (j := 5) dX5_bestOpening_36 rfl rfl ?_
    refine f_ishr C dX5_bestOpening_38 rfl ?_
    refine f_iconst C (v := 1) dX5_bestOpening_39 kc1 rfl ?_
    refine f_iand C dX5_bestOpening_40 rfl ?_
    refine f_if_eq C (t := 81) dX5_bestOpening_41 (by decide) rfl (fun hq_7 => ?_) (fun hq_7 => ?_)
    · replace h := Eq.mp (if_pos hq_7) h
      obtain ⟨x6_8, hx_9⟩ : ∃ y : Int32, y = x6 + 1 := ⟨_, rfl⟩
      replace h := h x6_8 hx_9
      refine f_iinc C (j := 5) (v := x6_8) (lv2 := [(6, .int x6_8), (0, .ref (B + 93)), (2, .int x2), (3, .int x3), (4, .int x4), (5, .int x5)]) dX5_bestOpening_81 rfl hx_9.symm (by decide) rfl rfl ?_
      refine f_goto C (t := 23) dX5_bestOpening_84 (by decide) ?_
      refine f_lv C (lv2 := [(0, .ref (B + 93)), (2, .int x2), (3, .int x3), (4, .int x4), (5, .int x5), (6, .int x6_8)]) [1, 2, 3, 4, 5, 0] rfl ?_
      exact hK23 _ _ _ _ h
    · replace h := Eq.mp (if_neg hq_7) h
      refine f_aload_n C (j := 0) dX5_bestOpening_44 rfl rfl rfl ?_
      refine f_aload_n C (j := 0) dX5_bestOpening_45 rfl rfl rfl ?_
      refine f_getm C tF_X5_9 rfl o93 cn93_5 hc_5.z dX5_bestOpening_46 rfl ?_
      refine f_geti C tF_X5_37 rfl hc_5.o dX5_bestOpening_49 rfl ?_
      refine f_iconst C (v := 1) dX5_bestOpening_52 kc1 rfl ?_
      refine f_iload C (j := 5) dX5_bestOpening_53 rfl rfl ?_
      refine f_ishl C dX5_bestOpening_55 rfl ?_
      refine f_ior C dX5_bestOpening_56 rfl ?_
      refine f_iload_n C (j := 1) dX5_bestOpening_57 rfl rfl rfl ?_
      refine f_iconst C (v := 1) dX5_bestOpening_58 kc1 rfl ?_
      refine f_isub C dX5_bestOpening_59 rfl ?_
      refine f_iconst C (v := 0) dX5_bestOpening_60 kc0 rfl ?_
      refine f_callVi C (a := 93) (ci := 5) (As := fun B => [.int ((gi σ (gr σ 93 5) 14) ||| (1 <<< (x6 &&& 31))), .int (x2 - 1), .int 0]) o93 rfl (c_X5_play 16 _ _ _ _ _ h) tM_X5_106 tI_X5_play tS_X5_play tN_X5 tC_X5_play 3 dd_X5_play rfl (by decide) (by decide) rfl (Nat.le_of_ble_eq_true rfl) dX5_bestOpening_61 rfl (fun r_11 σ_10 h => ?_)
      refine f_istore C (lv2 := [(7, .int r_11), (0, .ref (B + 93)), (2, .int x2), (3, .int x3), (4, .int x4), (5, .int x5), (6, .int x6)]) dX5_bestOpening_64 (by decide) rfl rfl ?_
      refine f_iload C (j := 0) dX5_bestOpening_66 rfl rfl ?_
      refine f_iload C (j := 5) dX5_bestOpening_68 rfl rfl ?_
      refine f_icmp_le C (t := 81) dX5_bestOpening_70 (by decide) rfl (fun hq_12 => ?_) (fun hq_12 => ?_)
      · replace h := Eq.mp (if_pos hq_12) h
        obtain ⟨x6_13, hx_14⟩ : ∃ y : Int32, y = x6 + 1 := ⟨_, rfl⟩
        replace h := h x6_13 hx_14
        refine f_iinc C (j := 6) (v := x6_13) (lv2 := [(6, .int x6_13), (7, .int r_11), (0, .ref (B + 93)), (2, .int x2), (3, .int x3), (4, .int x4), (5, .int x5)]) dX5_bestOpening_81 rfl hx_14.symm (by decide) rfl rfl ?_
        refine f_goto C (t := 23) dX5_bestOpening_84 (by decide) ?_
        refine f_lv C (lv2 := [(0, .ref (B + 93)), (2, .int x2), (3, .int x3), (4, .int x4), (5, .int x5), (6, .int x6_13)]) [2, 3, 4, 5, 6, 0] rfl ?_
        exact hK23 _ _ _ _ h
      · replace h := Eq.mp (if_neg hq_12) h
        refine f_iload C (j := 0) dX5_bestOpening_73 rfl rfl ?_
        refine f_istore C (lv2 := [(5, .int r_11), (7, .int r_11), (0, .ref (B + 93)), (2, .int x2), (3, .int x3), (4, .int x4), (6, .int x6)]) dX5_bestOpening_75 (by decide) rfl rfl ?_
        refine f_iload C (j := 6) dX5_bestOpening_77 rfl rfl ?_
        refine f_istore C (lv2 := [(4, .int x6), (5, .int r_11), (7, .int r_11), (0, .ref (B + 93)), (2, .int x2), (3, .int x3), (6, .int x6)]) dX5_bestOpening_79 (by decide) rfl rfl ?_
        obtain ⟨x6_15, hx_16⟩ : ∃ y : Int32, y = x6 + 1 := ⟨_, rfl⟩
        replace h := h x6_15 hx_16
        refine f_iinc C (j := 6) (v := x6_15) (lv2 := [(6, .int x6_15), (4, .int x6), (5, .int r_11), (7, .int r_11), (0, .ref (B + 93)), (2, .int x2), (3, .int x3)]) dX5_bestOpening_81 rfl hx_16.symm (by decide) rfl rfl ?_
        refine f_goto C (t := 23) dX5_bestOpening_84 (by decide) ?_
        refine f_lv C (lv2 := [(0, .ref (B + 93)), (2, .int x2), (3, .int x3), (4, .int x6), (5, .int r_11), (6, .int x6_15)]) [4, 5, 6, 1, 2, 0] rfl ?_
        exact hK23 _ _ _ _ h
def w_X5_bestOpening (x1 : Int32) (x2 : Int32) (σ : Sto) (P : Int32 → Sto → Prop) : Prop :=
  w_X5_startGame x1 σ (fun σ_1 => w_X0_openNow σ_1 (fun r_4 σ_3 => Lp (fun (K : Int32 × Int32 × Int32 × Sto → Prop) s => w_X5_bestOpening_23 K x2 r_4 s.1 s.2.1 s.2.2.1 s.2.2.2 P) ((-1), (-99), 0, σ_3)))
theorem s_X5_bestOpening {B : Nat} {E : Nat → List (Nat × Value) → List Value → Sto → Prop} {P : Int32 → Sto → Prop} (C : Cy B E RX5 cX5_bestOpening 8 (some .int) 19 525 (Zm (QFi P))) (x1 : Int32) (x2 : Int32) (σ : Sto) (h : w_X5_bestOpening x1 x2 σ P) : E 0 [(0, .ref (B + 93)), (1, .int x1), (2, .int x2)] [] σ := by
  unfold w_X5_bestOpening at h
  refine f_aload_n C (j := 0) dX5_bestOpening_0 rfl rfl rfl ?_
  refine f_iload_n C (j := 1) dX5_bestOpening_1 rfl rfl rfl ?_
  refine f_callVv C (a := 93) (ci := 5) (As := fun B => [.int x1]) o93 rfl (c_X5_startGame  _ _ _ h) tM_X5_102 tI_X5_startGame tS_X5_startGame tN_X5 tC_X5_startGame 1 dd_X5_startGame rfl (by decide) (by decide) rfl (Nat.le_of_ble_eq_true rfl) dX5_bestOpening_2 rfl (fun σ_1 h => ?_)
  refine f_aload_n C (j := 0) dX5_bestOpening_5 rfl rfl rfl ?_
  refine f_getc C tF_X5_19 rfl o93 cs93_1 (by decide) dX5_bestOpening_6 rfl ?_
  refine f_callVi C (a := 90) (ci := 0) (As := fun B => []) o90 rfl (c_X0_openNow   _ _ h) tM_X5_61 tI_X0_openNow tS_X0_openNow tN_X0 tC_X0_openNow 0 dd_X0_openNow rfl (by decide) (by decide) rfl (Nat.le_of_ble_eq_true rfl) dX5_bestOpening_9 rfl (fun r_4 σ_3 h => ?_)
  refine f_istore_n C (lv2 := [(3, .int r_4), (0, .ref (B + 93)), (1, .int x1), (2, .int x2)]) dX5_bestOpening_12 rfl (by decide) rfl rfl ?_
  refine f_iconst C (v := (-1)) dX5_bestOpening_13 kcm1 rfl ?_
  refine f_istore C (lv2 := [(4, .int (-1)), (3, .int r_4), (0, .ref (B + 93)), (1, .int x1), (2, .int x2)]) dX5_bestOpening_14 (by decide) rfl rfl ?_
  refine f_bipush C (v := (-99)) dX5_bestOpening_16 kbm99 rfl ?_
  refine f_istore C (lv2 := [(5, .int (-99)), (4, .int (-1)), (3, .int r_4), (0, .ref (B + 93)), (1, .int x1), (2, .int x2)]) dX5_bestOpening_18 (by decide) rfl rfl ?_
  refine f_iconst C (v := 0) dX5_bestOpening_20 kc0 rfl ?_
  refine f_istore C (lv2 := [(6, .int 0), (5, .int (-99)), (4, .int (-1)), (3, .int r_4), (0, .ref (B + 93)), (1, .int x1), (2, .int x2)]) dX5_bestOpening_21 (by decide) rfl rfl ?_
  refine f_lv C (lv2 := [(0, .ref (B + 93)), (2, .int x2), (3, .int r_4), (4, .int (-1)), (5, .int (-99)), (6, .int 0)]) [4, 6, 3, 2, 1, 0] rfl ?_
  exact Lp_sound (fun s : Int32 × Int32 × Int32 × Sto => E 23 [(0, .ref (B + 93)), (2, .int x2), (3, .int r_4), (4, .int s.1), (5, .int s.2.1), (6, .int s.2.2.1)] [] s.2.2.2) h (fun K s hK h => s_X5_bestOpening_23 C x2 r_4 s.1 s.2.1 s.2.2.1 K (fun x4 x5 x6 σ hk => hK (x4, x5, x6, σ) hk) s.2.2.2 h)
theorem c_X5_bestOpening (x1 : Int32) (x2 : Int32) (σ : Sto) (P : Int32 → Sto → Prop) (h : w_X5_bestOpening x1 x2 σ P) : Ct yX5_bestOpening cX5_bestOpening 8 (some .int) 19 525 (fun B => [.ref (B + 93), .int x1, .int x2]) σ (QFi P) := Ct.of (by decide) (fun _ => Nat.le_of_ble_eq_true rfl) (fun B E C => s_X5_bestOpening C x1 x2 σ h)
def w_X5_leastMakingAll_5 (K5 : Int32 × Int32 × Sto → Prop) (x1 : Int32) (x2 : Int32) (x3 : Int32) (x4 : Int32) (σ : Sto) (P : Int32 → Sto → Prop) : Prop :=
  isCity (gr σ 93 5) ∧ (if (gi σ (gr σ 93 5) 9) ≤ x4 then P x3 σ else vp_in x4 16 ∧ ∀ x5_4 : Int32, x5_4 = 1 <<< ((gi σ ((gr σ 93 5) + 3) (tn x4)) &&& 31) → ∀ x6_6 : Int32, x6_6 = x1 &&& (~~~x5_4) → (if (x1 &&& x5_4) = 0 then ∀ x4_9 : Int32, x4_9 = x4 + 1 → K5 (x3, x4_9, σ) else vp_in x6_6 4096 ∧ (if (gi σ 87 (tn x6_6)) = (-1) then ∀ x4_13 : Int32, x4_13 = x4 + 1 → K5 (x3, x4_13, σ) else (if ((gi σ ((gr σ 93 5) + 4) (tn x4)) &&& (~~~(x6_6 ||| x2))) = 0 then ∀ x7_18 : Int32, x7_18 = (gi σ 87 (tn x6_6)) ||| (1 <<< (x4 &&& 31)) → (if x3 = (-1) then ∀ x4_25 : Int32, x4_25 = x4 + 1 → K5 (x7_18, x4_25, σ) else ∀ x3_21 : Int32, x3_21 = (if x7_18 < x3 then x7_18 else x3) → ∀ x4_23 : Int32, x4_23 = x4 + 1 → K5 (x3_21, x4_23, σ)) else ∀ x4_16 : Int32, x4_16 = x4 + 1 → K5 (x3, x4_16, σ)))))
theorem s_X5_leastMakingAll_5 {B : Nat} {E : Nat → List (Nat × Value) → List Value → Sto → Prop} {P : Int32 → Sto → Prop} (C : Cy B E RX5 cX5_leastMakingAll 8 (some .int) 1 21 (Zm (QFi P))) (x1 : Int32) (x2 : Int32) (x3 : Int32) (x4 : Int32) (K5 : Int32 × Int32 × Sto → Prop) (hK5 : ∀ (x3 : Int32) (x4 : Int32) (σ : Sto), K5 (x3, x4, σ) → E 5 [(0, .ref (B + 93)), (1, .int x1), (2, .int x2), (3, .int x3), (4, .int x4)] [] σ) (σ : Sto) (h : w_X5_leastMakingAll_5 K5 x1 x2 x3 x4 σ P) : E 5 [(0, .ref (B + 93)), (1, .int x1), (2, .int x2), (3, .int x3), (4, .int x4)] [] σ := by
  unfold w_X5_leastMakingAll_5 at h
  refine f_iload C (j := 4) dX5_leastMakingAll_5 rfl rfl ?_
  refine f_aload_n C (j := 0) dX5_leastMakingAll_7 rfl rfl rfl ?_
  obtain ⟨hc_1, h⟩ := h
  refine f_getm C tF_X5_9 rfl o93 cn93_5 hc_1.z dX5_leastMakingAll_8 rfl ?_
  refine f_geti C tF_X5_130 rfl hc_1.o dX5_leastMakingAll_11 rfl ?_
  refine f_icmp_ge C (t := 114) dX5_leastMakingAll_14 (by decide) rfl (fun hq_2 => ?_) (fun hq_2 => ?_)
  · replace h := Eq.mp (if_pos hq_2) h
    refine f_iload_n C (j := 3) dX5_leastMakingAll_114 rfl rfl rfl ?_
    exact f_iret C dX5_leastMakingAll_115 h
  · replace h := Eq.mp (if_neg hq_2) h
    refine f_iconst C (v := 1) dX5_leastMakingAll_17 kc1 rfl ?_
    refine f_aload_n C (j := 0) dX5_leastMakingAll_18 rfl rfl rfl ?_
    refine f_getm C tF_X5_9 rfl o93 cn93_5 hc_1.z dX5_leastMakingAll_19 rfl ?_
    refine f_getc C tF_X5_133 rfl hc_1.o hc_1.c2 (Nat.succ_ne_zero _) dX5_leastMakingAll_22 rfl ?_
    refine f_iload C (j := 4) dX5_leastMakingAll_25 rfl rfl ?_
    obtain ⟨hi_3, h⟩ := h
    refine f_iald C (j := tn x4) hc_1.a2 hi_3 rfl dX5_leastMakingAll_27 rfl ?_
    refine f_ishl C dX5_leastMakingAll_28 rfl ?_
    refine f_name (fun x5_4 hx_5 => ?_)
    replace h := h x5_4 hx_5
    refine f_istore C (lv2 := [(5, .int x5_4), (0, .ref (B + 93)), (1, .int x1), (2, .int x2), (3, .int x3), (4, .int x4)]) dX5_leastMakingAll_29 (by decide) rfl rfl ?_
    refine f_iload_n C (j := 2) dX5_leastMakingAll_31 rfl rfl rfl ?_
    refine f_iload C (j := 0) dX5_leastMakingAll_32 rfl rfl ?_
    refine f_iconst C (v := (-1)) dX5_leastMakingAll_34 kcm1 rfl ?_
    refine f_inot C dX5_leastMakingAll_35 rfl ?_
    refine f_iand C dX5_leastMakingAll_36 rfl ?_
    refine f_name (fun x6_6 hx_7 => ?_)
    replace h := h x6_6 hx_7
    refine f_istore C (lv2 := [(6, .int x6_6), (5, .int x5_4), (0, .ref (B + 93)), (1, .int x1), (2, .int x2), (3, .int x3), (4, .int x4)]) dX5_leastMakingAll_37 (by decide) rfl rfl ?_
    refine f_iload_n C (j := 3) dX5_leastMakingAll_39 rfl rfl rfl ?_
    refine f_iload C (j := 1) dX5_leastMakingAll_40 rfl rfl ?_
    refine f_iand C dX5_leastMakingAll_42 rfl ?_
    refine f_if_eq C (t := 108) dX5_leastMakingAll_43 (by decide) rfl (fun hq_8 => ?_) (fun hq_8 => ?_)
    · replace h := Eq.mp (if_pos hq_8) h
      obtain ⟨x4_9, hx_10⟩ : ∃ y : Int32, y = x4 + 1 := ⟨_, rfl⟩
      replace h := h x4_9 hx_10
      refine f_iinc C (j := 6) (v := x4_9) (lv2 := [(4, .int x4_9), (6, .int x6_6), (5, .int x5_4), (0, .ref (B + 93)), (1, .int x1), (2, .int x2), (3, .int x3)]) dX5_leastMakingAll_108 rfl hx_10.symm (by decide) rfl rfl ?_
      refine f_goto C (t := 5) dX5_leastMakingAll_111 (by decide) ?_
      refine f_lv C (lv2 := [(0, .ref (B + 93)), (1, .int x1), (2, .int x2), (3, .int x3), (4, .int x4_9)]) [3, 4, 5, 6, 0] rfl ?_
      exact hK5 _ _ _ h
    · replace h := Eq.mp (if_neg hq_8) h
      refine f_aload_n C (j := 2) dX5_leastMakingAll_46 rfl rfl rfl ?_
      refine f_getc C tF_X5_23 rfl o93 cs93_2 (by decide) dX5_leastMakingAll_47 rfl ?_
      refine f_iload C (j := 0) dX5_leastMakingAll_50 rfl rfl ?_
      obtain ⟨hi_11, h⟩ := h
      refine f_iald C (j := tn x6_6) a87 hi_11 rfl dX5_leastMakingAll_52 rfl ?_
      refine f_iconst C (v := (-1)) dX5_leastMakingAll_53 kcm1 rfl ?_
      refine f_icmp_eq C (t := 108) dX5_leastMakingAll_54 (by decide) rfl (fun hq_12 => ?_) (fun hq_12 => ?_)
      · replace h := Eq.mp (if_pos hq_12) h
        obtain ⟨x4_13, hx_14⟩ : ∃ y : Int32, y = x4 + 1 := ⟨_, rfl⟩
        replace h := h x4_13 hx_14
        refine f_iinc C (j := 6) (v := x4_13) (lv2 := [(4, .int x4_13), (6, .int x6_6), (5, .int x5_4), (0, .ref (B + 93)), (1, .int x1), (2, .int x2), (3, .int x3)]) dX5_leastMakingAll_108 rfl hx_14.symm (by decide) rfl rfl ?_
        refine f_goto C (t := 5) dX5_leastMakingAll_111 (by decide) ?_
        refine f_lv C (lv2 := [(0, .ref (B + 93)), (1, .int x1), (2, .int x2), (3, .int x3), (4, .int x4_13)]) [3, 4, 5, 6, 0] rfl ?_
        exact hK5 _ _ _ h
      · replace h := Eq.mp (if_neg hq_12) h
        refine f_aload_n C (j := 2) dX5_leastMakingAll_57 rfl rfl rfl ?_
        refine f_getm C tF_X5_9 rfl o93 cn93_5 hc_1.z dX5_leastMakingAll_58 rfl ?_
        refine f_getc C tF_X5_136 rfl hc_1.o hc_1.c3 (Nat.succ_ne_zero _) dX5_leastMakingAll_61 rfl ?_
        refine f_iload C (j := 6) dX5_leastMakingAll_64 rfl rfl ?_
        refine f_iald C (j := tn x4) hc_1.a3 hi_3 rfl dX5_leastMakingAll_66 rfl ?_
        refine f_iload C (j := 0) dX5_leastMakingAll_67 rfl rfl ?_
        refine f_iload_n C (j := 4) dX5_leastMakingAll_69 rfl rfl rfl ?_
        refine f_ior C dX5_leastMakingAll_70 rfl ?_
        refine f_iconst C (v := (-1)) dX5_leastMakingAll_71 kcm1 rfl ?_
        refine f_inot C dX5_leastMakingAll_72 rfl ?_
        refine f_iand C dX5_leastMakingAll_73 rfl ?_
        refine f_if_ne C (t := 108) dX5_leastMakingAll_74 (by decide) rfl (fun hq_15 => ?_) (fun hq_15 => ?_)
        · replace h := Eq.mp (if_neg hq_15) h
          obtain ⟨x4_16, hx_17⟩ : ∃ y : Int32, y = x4 + 1 := ⟨_, rfl⟩
          replace h := h x4_16 hx_17
          refine f_iinc C (j := 6) (v := x4_16) (lv2 := [(4, .int x4_16), (6, .int x6_6), (5, .int x5_4), (0, .ref (B + 93)), (1, .int x1), (2, .int x2), (3, .int x3)]) dX5_leastMakingAll_108 rfl hx_17.symm (by decide) rfl rfl ?_
          refine f_goto C (t := 5) dX5_leastMakingAll_111 (by decide) ?_
          refine f_lv C (lv2 := [(0, .ref (B + 93)), (1, .int x1), (2, .int x2), (3, .int x3), (4, .int x4_16)]) [3, 4, 5, 6, 0] rfl ?_
          exact hK5 _ _ _ h
        · replace h := Eq.mp (if_pos hq_15) h
          refine f_aload_n C (j := 2) dX5_leastMakingAll_77 rfl rfl rfl ?_
          refine f_getc C tF_X5_23 rfl o93 cs93_2 (by decide) dX5_leastMakingAll_78 rfl ?_
          refine f_iload C (j := 0) dX5_leastMakingAll_81 rfl rfl ?_
          refine f_iald C (j := tn x6_6) a87 hi_11 rfl dX5_leastMakingAll_83 rfl ?_
          refine f_iconst C (v := 1) dX5_leastMakingAll_84 kc1 rfl ?_
          refine f_iload C (j := 6) dX5_leastMakingAll_85 rfl rfl ?_
          refine f_ishl C dX5_leastMakingAll_87 rfl ?_
          refine f_ior C dX5_leastMakingAll_88 rfl ?_
          refine f_name (fun x7_18 hx_19 => ?_)
          replace h := h x7_18 hx_19
          refine f_istore C (lv2 := [(7, .int x7_18), (6, .int x6_6), (5, .int x5_4), (0, .ref (B + 93)), (1, .int x1), (2, .int x2), (3, .int x3), (4, .int x4)]) dX5_leastMakingAll_89 (by decide) rfl rfl ?_
          refine f_iload_n C (j := 6) dX5_leastMakingAll_91 rfl rfl rfl ?_
          refine f_iconst C (v := (-1)) dX5_leastMakingAll_92 kcm1 rfl ?_
          refine f_icmp_ne C (t := 101) dX5_leastMakingAll_93 (by decide) rfl (fun hq_20 => ?_) (fun hq_20 => ?_)
          · replace h := Eq.mp (if_neg hq_20) h
            refine f_iload_n C (j := 6) dX5_leastMakingAll_101 rfl rfl rfl ?_
            refine f_iload C (j := 0) dX5_leastMakingAll_102 rfl rfl ?_
            refine f_mmin C tM_X5_118 tT_J9_min_7cf53 tN_J9 tC_J9_min_7cf53 (by decide) (by decide) (Nat.le_of_ble_eq_true rfl) dX5_leastMakingAll_104 rfl ?_
            refine f_name (fun x3_21 hx_22 => ?_)
            replace h := h x3_21 hx_22
            refine f_istore_n C (lv2 := [(3, .int x3_21), (7, .int x7_18), (6, .int x6_6), (5, .int x5_4), (0, .ref (B + 93)), (1, .int x1), (2, .int x2), (4, .int x4)]) dX5_leastMakingAll_107 rfl (by decide) rfl rfl ?_
            obtain ⟨x4_23, hx_24⟩ : ∃ y : Int32, y = x4 + 1 := ⟨_, rfl⟩
            replace h := h x4_23 hx_24
            refine f_iinc C (j := 7) (v := x4_23) (lv2 := [(4, .int x4_23), (3, .int x3_21), (7, .int x7_18), (6, .int x6_6), (5, .int x5_4), (0, .ref (B + 93)), (1, .int x1), (2, .int x2)]) dX5_leastMakingAll_108 rfl hx_24.symm (by decide) rfl rfl ?_
            refine f_goto C (t := 5) dX5_leastMakingAll_111 (by decide) ?_
            refine f_lv C (lv2 := [(0, .ref (B + 93)), (1, .int x1), (2, .int x2), (3, .int x3_21), (4, .int x4_23)]) [5, 6, 7, 1, 0] rfl ?_
            exact hK5 _ _ _ h
          · replace h := Eq.mp (if_pos hq_20) h
            refine f_iload C (j := 0) dX5_leastMakingAll_96 rfl rfl ?_
            refine f_goto C (t := 107) dX5_leastMakingAll_98 (by decide) ?_
            refine f_istore_n C (lv2 := [(3, .int x7_18), (7, .int x7_18), (6, .int x6_6), (5, .int x5_4), (0, .ref (B + 93)), (1, .int x1), (2, .int x2), (4, .int x4)]) dX5_leastMakingAll_107 rfl (by decide) rfl rfl ?_
            obtain ⟨x4_25, hx_26⟩ : ∃ y : Int32, y = x4 + 1 := ⟨_, rfl⟩
            replace h := h x4_25 hx_26
            refine f_iinc C (j := 7) (v := x4_25) (lv2 := [(4, .int x4_25), (3, .int x7_18), (7, .int x7_18), (6, .int x6_6), (5, .int x5_4), (0, .ref (B + 93)), (1, .int x1), (2, .int x2)]) dX5_leastMakingAll_108 rfl hx_26.symm (by decide) rfl rfl ?_
            refine f_goto C (t := 5) dX5_leastMakingAll_111 (by decide) ?_
            refine f_lv C (lv2 := [(0, .ref (B + 93)), (1, .int x1), (2, .int x2), (3, .int x7_18), (4, .int x4_25)]) [5, 6, 7, 1, 0] rfl ?_
            exact hK5 _ _ _ h
def w_X5_leastMakingAll (x1 : Int32) (x2 : Int32) (σ : Sto) (P : Int32 → Sto → Prop) : Prop :=
  Lp (fun (K : Int32 × Int32 × Sto → Prop) s => w_X5_leastMakingAll_5 K x1 x2 s.1 s.2.1 s.2.2 P) ((-1), 0, σ)
theorem s_X5_leastMakingAll {B : Nat} {E : Nat → List (Nat × Value) → List Value → Sto → Prop} {P : Int32 → Sto → Prop} (C : Cy B E RX5 cX5_leastMakingAll 8 (some .int) 1 21 (Zm (QFi P))) (x1 : Int32) (x2 : Int32) (σ : Sto) (h : w_X5_leastMakingAll x1 x2 σ P) : E 0 [(0, .ref (B + 93)), (1, .int x1), (2, .int x2)] [] σ := by
  unfold w_X5_leastMakingAll at h
  refine f_iconst C (v := (-1)) dX5_leastMakingAll_0 kcm1 rfl ?_
  refine f_istore_n C (lv2 := [(3, .int (-1)), (0, .ref (B + 93)), (1, .int x1), (2, .int x2)]) dX5_leastMakingAll_1 rfl (by decide) rfl rfl ?_
  refine f_iconst C (v := 0) dX5_leastMakingAll_2 kc0 rfl ?_
  refine f_istore C (lv2 := [(4, .int 0), (3, .int (-1)), (0, .ref (B + 93)), (1, .int x1), (2, .int x2)]) dX5_leastMakingAll_3 (by decide) rfl rfl ?_
  refine f_lv C (lv2 := [(0, .ref (B + 93)), (1, .int x1), (2, .int x2), (3, .int (-1)), (4, .int 0)]) [2, 3, 4, 1, 0] rfl ?_
  exact Lp_sound (fun s : Int32 × Int32 × Sto => E 5 [(0, .ref (B + 93)), (1, .int x1), (2, .int x2), (3, .int s.1), (4, .int s.2.1)] [] s.2.2) h (fun K s hK h => s_X5_leastMakingAll_5 C x1 x2 s.1 s.2.1 K (fun x3 x4 σ hk => hK (x3, x4, σ) hk) s.2.2 h)
theorem c_X5_leastMakingAll (x1 : Int32) (x2 : Int32) (σ : Sto) (P : Int32 → Sto → Prop) (h : w_X5_leastMakingAll x1 x2 σ P) : Ct yX5_leastMakingAll cX5_leastMakingAll 8 (some .int) 1 21 (fun B => [.ref (B + 93), .int x1, .int x2]) σ (QFi P) := Ct.of (by decide) (fun _ => Nat.le_of_ble_eq_true rfl) (fun B E C => s_X5_leastMakingAll C x1 x2 σ h)
def w_X5_leastMaking_164 (K72 : Int32 × Int32 × Int32 × Int32 × Sto → Prop) (x1 : Int32) (x2 : Int32) (x3 : Int32) (x4 : Int32) (x7 : Int32) (x8 : Int32) (x9 : Int32) (σ : Sto) (P : Int32 → Sto → Prop) : Prop :=
  vp_in x7 4096 ∧ ∀ x5_27 : Int32, x5_27 = gi σ 87 (tn x7) → ∀ x8_29 : Int32, x8_29 = x8 + 1 → K72 (x5_27, x9, x7, x8_29, σ)
theorem s_X5_leastMaking_164 {B : Nat} {E : Nat → List (Nat × Value) → List Value → Sto → Prop} {P : Int32 → Sto → Prop} (C : Cy B E RX5 cX5_leastMaking 10 (some .int) 3 69 (Zm (QFi P))) (x1 : Int32) (x2 : Int32) (x3 : Int32) (x4 : Int32) (x7 : Int32) (x8 : Int32) (x9 : Int32) (K72 : Int32 × Int32 × Int32 × Int32 × Sto → Prop) (hK72 : ∀ (x5 : Int32) (x6 : Int32) (x7 : Int32) (x8 : Int32) (σ : Sto), K72 (x5, x6, x7, x8, σ) → E 72 [(0, .ref (B + 93)), (1, .int x1), (2, .int x2), (3, .int x3), (4, .int x4), (5, .int x5), (6, .int x6), (7, .int x7), (8, .int x8)] [] σ) (σ : Sto) (h : w_X5_leastMaking_164 K72 x1 x2 x3 x4 x7 x8 x9 σ P) : E 164 [(0, .ref (B + 93)), (1, .int x1), (2, .int x2), (3, .int x3), (4, .int x4), (7, .int x7), (8, .int x8), (9, .int x9)] [] σ := by
  unfold w_X5_leastMaking_164 at h
  refine f_iload C (j := 7) dX5_leastMaking_164 rfl rfl ?_
  refine f_istore C (lv2 := [(6, .int x9), (0, .ref (B + 93)), (1, .int x1), (2, .int x2), (3, .int x3), (4, .int x4), (7, .int x7), (8, .int x8), (9, .int x9)]) dX5_leastMaking_166 (by decide) rfl rfl ?_
  refine f_aload_n C (j := 1) dX5_leastMaking_168 rfl rfl rfl ?_
  refine f_getc C tF_X5_23 rfl o93 cs93_2 (by decide) dX5_leastMaking_169 rfl ?_
  refine f_iload C (j := 6) dX5_leastMaking_172 rfl rfl ?_
  obtain ⟨hi_26, h⟩ := h
  refine f_iald C (j := tn x7) a87 hi_26 rfl dX5_leastMaking_174 rfl ?_
  refine f_name (fun x5_27 hx_28 => ?_)
  replace h := h x5_27 hx_28
  refine f_istore C (lv2 := [(5, .int x5_27), (6, .int x9), (0, .ref (B + 93)), (1, .int x1), (2, .int x2), (3, .int x3), (4, .int x4), (7, .int x7), (8, .int x8), (9, .int x9)]) dX5_leastMaking_175 (by decide) rfl rfl ?_
  obtain ⟨x8_29, hx_30⟩ : ∃ y : Int32, y = x8 + 1 := ⟨_, rfl⟩
  replace h := h x8_29 hx_30
  refine f_iinc C (j := 8) (v := x8_29) (lv2 := [(8, .int x8_29), (5, .int x5_27), (6, .int x9), (0, .ref (B + 93)), (1, .int x1), (2, .int x2), (3, .int x3), (4, .int x4), (7, .int x7), (9, .int x9)]) dX5_leastMaking_177 rfl hx_30.symm (by decide) rfl rfl ?_
  refine f_goto C (t := 72) dX5_leastMaking_180 (by decide) ?_
  refine f_lv C (lv2 := [(0, .ref (B + 93)), (1, .int x1), (2, .int x2), (3, .int x3), (4, .int x4), (5, .int x5_27), (6, .int x9), (7, .int x7), (8, .int x8_29)]) [3, 4, 5, 6, 7, 1, 2, 8, 0] rfl ?_
  exact hK72 _ _ _ _ _ h
def w_X5_leastMaking_72 (K72 : Int32 × Int32 × Int32 × Int32 × Sto → Prop) (x1 : Int32) (x2 : Int32) (x3 : Int32) (x4 : Int32) (x5 : Int32) (x6 : Int32) (x7 : Int32) (x8 : Int32) (σ : Sto) (P : Int32 → Sto → Prop) : Prop :=
  (if x4 ≤ x8 then P x5 σ else w_X5_nextWithin x7 x3 σ (fun r_13 σ_12 => w_X5_leastMakingAll r_13 (x2 &&& (~~~(gi σ_12 88 2))) σ_12 (fun r_15 σ_14 => vp_in r_13 4096 ∧ w_J6_bitCount_0f7a4 r_13 (si σ_14 87 (tn r_13) r_15) (fun r_18 σ_17 => (if (gi σ_17 87 (tn r_13)) = (-1) then ∀ x8_20 : Int32, x8_20 = x8 + 1 → K72 (x5, x6, r_13, x8_20, σ_17) else (if ((r_13 >>> (x1 &&& 31)) &&& 1) = 0 then ∀ x8_23 : Int32, x8_23 = x8 + 1 → K72 (x5, x6, r_13, x8_23, σ_17) else (if r_18 < x6 then w_X5_leastMaking_164 K72 x1 x2 x3 x4 r_13 x8 r_18 σ_17 P else (if r_18 = x6 then (if x5 ≤ (gi σ_17 87 (tn r_13)) then ∀ x8_35 : Int32, x8_35 = x8 + 1 → K72 (x5, x6, r_13, x8_35, σ_17) else w_X5_leastMaking_164 K72 x1 x2 x3 x4 r_13 x8 r_18 σ_17 P) else ∀ x8_32 : Int32, x8_32 = x8 + 1 → K72 (x5, x6, r_13, x8_32, σ_17)))))))))
theorem s_X5_leastMaking_72 {B : Nat} {E : Nat → List (Nat × Value) → List Value → Sto → Prop} {P : Int32 → Sto → Prop} (C : Cy B E RX5 cX5_leastMaking 10 (some .int) 3 69 (Zm (QFi P))) (x1 : Int32) (x2 : Int32) (x3 : Int32) (x4 : Int32) (x5 : Int32) (x6 : Int32) (x7 : Int32) (x8 : Int32) (K72 : Int32 × Int32 × Int32 × Int32 × Sto → Prop) (hK72 : ∀ (x5 : Int32) (x6 : Int32) (x7 : Int32) (x8 : Int32) (σ : Sto), K72 (x5, x6, x7, x8, σ) → E 72 [(0, .ref (B + 93)), (1, .int x1), (2, .int x2), (3, .int x3), (4, .int x4), (5, .int x5), (6, .int x6), (7, .int x7), (8, .int x8)] [] σ) (σ : Sto) (h : w_X5_leastMaking_72 K72 x1 x2 x3 x4 x5 x6 x7 x8 σ P) : E 72 [(0, .ref (B + 93)), (1, .int x1), (2, .int x2), (3, .int x3), (4, .int x4), (5, .int x5), (6, .int x6), (7, .int x7), (8, .int x8)] [] σ := by
  unfold w_X5_leastMaking_72 at h
  refine f_iload C (j := 8) dX5_leastMaking_72 rfl rfl ?_
  refine f_iload C (j := 4) dX5_leastMaking_74 rfl rfl ?_
  refine f_icmp_ge C (t := 183) dX5_leastMaking_76 (by decide) rfl (fun hq_11 => ?_) (fun hq_11 => ?_)
  · replace h := Eq.mp (if_pos hq_11) h
    refine f_iload C (j := 5) dX5_leastMaking_183 rfl rfl ?_
    exact f_iret C dX5_leastMaking_185 h
  · replace h := Eq.mp (if_neg hq_11) h
    refine f_iload C (j := 7) dX5_leastMaking_79 rfl rfl ?_
    refine f_iload_n C (j := 3) dX5_leastMaking_81 rfl rfl rfl ?_
    refine f_callSi C (As := fun B => [.int x7, .int x3]) (c_X5_nextWithin  _ _ _ _ h) tM_X5_84 tT_X5_nextWithin tN_X5 tC_X5_nextWithin 2 dd_X5_nextWithin rfl (by decide) (by decide) rfl (Nat.le_of_ble_eq_true rfl) dX5_leastMaking_82 rfl (fun r_13 σ_12 h => ?_)
    refine f_istore C (lv2 := [(7, .int r_13), (0, .ref (B + 93)), (1, .int x1), (2, .int x2), (3, .int x3), (4, .int x4), (5, .int x5), (6, .int x6), (8, .int x8)]) dX5_leastMaking_85 (by decide) rfl rfl ?_
    refine f_aload_n C (j := 1) dX5_leastMaking_87 rfl rfl rfl ?_
    refine f_getc C tF_X5_23 rfl o93 cs93_2 (by decide) dX5_leastMaking_88 rfl ?_
    refine f_iload C (j := 0) dX5_leastMaking_91 rfl rfl ?_
    refine f_aload_n C (j := 1) dX5_leastMaking_93 rfl rfl rfl ?_
    refine f_iload C (j := 0) dX5_leastMaking_94 rfl rfl ?_
    refine f_iload_n C (j := 3) dX5_leastMaking_96 rfl rfl rfl ?_
    refine f_aload_n C (j := 1) dX5_leastMaking_97 rfl rfl rfl ?_
    refine f_getc C tF_X5_15 rfl o93 cs93_0 (by decide) dX5_leastMaking_98 rfl ?_
    refine f_geti C tF_X5_124 rfl o88 dX5_leastMaking_101 rfl ?_
    refine f_iconst C (v := (-1)) dX5_leastMaking_104 kcm1 rfl ?_
    refine f_inot C dX5_leastMaking_105 rfl ?_
    refine f_iand C dX5_leastMaking_106 rfl ?_
    refine f_callVi C (a := 93) (ci := 5) (As := fun B => [.int r_13, .int (x2 &&& (~~~(gi σ_12 88 2)))]) o93 rfl (c_X5_leastMakingAll  _ _ _ _ h) tM_X5_127 tI_X5_leastMakingAll tS_X5_leastMakingAll tN_X5 tC_X5_leastMakingAll 2 dd_X5_leastMakingAll rfl (by decide) (by decide) rfl (Nat.le_of_ble_eq_true rfl) dX5_leastMaking_107 rfl (fun r_15 σ_14 h => ?_)
    obtain ⟨hi_16, h⟩ := h
    refine f_iast C (j := tn r_13) a87 hi_16 rfl dX5_leastMaking_110 rfl ?_
    refine f_iload C (j := 0) dX5_leastMaking_111 rfl rfl ?_
    refine f_callSi C (As := fun B => [.int r_13]) (c_J6_bitCount_0f7a4  _ _ _ h) tM_X5_75 tT_J6_bitCount_0f7a4 tN_J6 tC_J6_bitCount_0f7a4 1 dd_J6_bitCount_0f7a4 rfl (by decide) (by decide) rfl (Nat.le_of_ble_eq_true rfl) dX5_leastMaking_113 rfl (fun r_18 σ_17 h => ?_)
    refine f_istore C (lv2 := [(9, .int r_18), (7, .int r_13), (0, .ref (B + 93)), (1, .int x1), (2, .int x2), (3, .int x3), (4, .int x4), (5, .int x5), (6, .int x6), (8, .int x8)]) dX5_leastMaking_116 (by decide) rfl rfl ?_
    refine f_aload_n C (j := 2) dX5_leastMaking_118 rfl rfl rfl ?_
    refine f_getc C tF_X5_23 rfl o93 cs93_2 (by decide) dX5_leastMaking_119 rfl ?_
    refine f_iload C (j := 1) dX5_leastMaking_122 rfl rfl ?_
    refine f_iald C (j := tn r_13) a87 hi_16 rfl dX5_leastMaking_124 rfl ?_
    refine f_iconst C (v := (-1)) dX5_leastMaking_125 kcm1 rfl ?_
    refine f_icmp_eq C (t := 177) dX5_leastMaking_126 (by decide) rfl (fun hq_19 => ?_) (fun hq_19 => ?_)
    · replace h := Eq.mp (if_pos hq_19) h
      obtain ⟨x8_20, hx_21⟩ : ∃ y : Int32, y = x8 + 1 := ⟨_, rfl⟩
      replace h := h x8_20 hx_21
      refine f_iinc C (j := 9) (v := x8_20) (lv2 := [(8, .int x8_20), (9, .int r_18), (7, .int r_13), (0, .ref (B + 93)), (1, .int x1), (2, .int x2), (3, .int x3), (4, .int x4), (5, .int x5), (6, .int x6)]) dX5_leastMaking_177 rfl hx_21.symm (by decide) rfl rfl ?_
      refine f_goto C (t := 72) dX5_leastMaking_180 (by decide) ?_
      refine f_lv C (lv2 := [(0, .ref (B + 93)), (1, .int x1), (2, .int x2), (3, .int x3), (4, .int x4), (5, .int x5), (6, .int x6), (7, .int r_13), (8, .int x8_20)]) [3, 4, 5, 6, 7, 8, 9, 2, 0] rfl ?_
      exact hK72 _ _ _ _ _ h
    · replace h := Eq.mp (if_neg hq_19) h
      refine f_iload C (j := 1) dX5_leastMaking_129 rfl rfl ?_
      refine f_iload_n C (j := 3) dX5_leastMaking_131 rfl rfl rfl ?_
      refine f_ishr C dX5_leastMaking_132 rfl ?_
      refine f_iconst C (v := 1) dX5_leastMaking_133 kc1 rfl ?_
      refine f_iand C dX5_leastMaking_134 rfl ?_
      refine f_if_eq C (t := 177) dX5_leastMaking_135 (by decide) rfl (fun hq_22 => ?_) (fun hq_22 => ?_)
      · replace h := Eq.mp (if_pos hq_22) h
        obtain ⟨x8_23, hx_24⟩ : ∃ y : Int32, y = x8 + 1 := ⟨_, rfl⟩
        replace h := h x8_23 hx_24
        refine f_iinc C (j := 9) (v := x8_23) (lv2 := [(8, .int x8_23), (9, .int r_18), (7, .int r_13), (0, .ref (B + 93)), (1, .int x1), (2, .int x2), (3, .int x3), (4, .int x4), (5, .int x5), (6, .int x6)]) dX5_leastMaking_177 rfl hx_24.symm (by decide) rfl rfl ?_
        refine f_goto C (t := 72) dX5_leastMaking_180 (by decide) ?_
        refine f_lv C (lv2 := [(0, .ref (B + 93)), (1, .int x1), (2, .int x2), (3, .int x3), (4, .int x4), (5, .int x5), (6, .int x6), (7, .int r_13), (8, .int x8_23)]) [3, 4, 5, 6, 7, 8, 9, 2, 0] rfl ?_
        exact hK72 _ _ _ _ _ h
      · replace h := Eq.mp (if_neg hq_22) h
        refine f_iload C (j := 0) dX5_leastMaking_138 rfl rfl ?_
        refine f_iload C (j := 8) dX5_leastMaking_140 rfl rfl ?_
        refine f_icmp_lt C (t := 164) dX5_leastMaking_142 (by decide) rfl (fun hq_25 => ?_) (fun hq_25 => ?_)
        · replace h := Eq.mp (if_pos hq_25) h
          refine f_lv C (lv2 := [(0, .ref (B + 93)), (1, .int x1), (2, .int x2), (3, .int x3), (4, .int x4), (7, .int r_13), (8, .int x8), (9, .int r_18)]) [2, 3, 4, 5, 6, 1, 9, 0] rfl ?_
          exact s_X5_leastMaking_164 C _ _ _ _ _ _ _  K72 hK72 _ h
        · replace h := Eq.mp (if_neg hq_25) h
          refine f_iload C (j := 0) dX5_leastMaking_145 rfl rfl ?_
          refine f_iload C (j := 8) dX5_leastMaking_147 rfl rfl ?_
          refine f_icmp_ne C (t := 177) dX5_leastMaking_149 (by decide) rfl (fun hq_31 => ?_) (fun hq_31 => ?_)
          · replace h := Eq.mp (if_neg hq_31) h
            obtain ⟨x8_32, hx_33⟩ : ∃ y : Int32, y = x8 + 1 := ⟨_, rfl⟩
            replace h := h x8_32 hx_33
            refine f_iinc C (j := 9) (v := x8_32) (lv2 := [(8, .int x8_32), (9, .int r_18), (7, .int r_13), (0, .ref (B + 93)), (1, .int x1), (2, .int x2), (3, .int x3), (4, .int x4), (5, .int x5), (6, .int x6)]) dX5_leastMaking_177 rfl hx_33.symm (by decide) rfl rfl ?_
            refine f_goto C (t := 72) dX5_leastMaking_180 (by decide) ?_
            refine f_lv C (lv2 := [(0, .ref (B + 93)), (1, .int x1), (2, .int x2), (3, .int x3), (4, .int x4), (5, .int x5), (6, .int x6), (7, .int r_13), (8, .int x8_32)]) [3, 4, 5, 6, 7, 8, 9, 2, 0] rfl ?_
            exact hK72 _ _ _ _ _ h
          · replace h := Eq.mp (if_pos hq_31) h
            refine f_aload_n C (j := 2) dX5_leastMaking_152 rfl rfl rfl ?_
            refine f_getc C tF_X5_23 rfl o93 cs93_2 (by decide) dX5_leastMaking_153 rfl ?_
            refine f_iload C (j := 1) dX5_leastMaking_156 rfl rfl ?_
            refine f_iald C (j := tn r_13) a87 hi_16 rfl dX5_leastMaking_158 rfl ?_
            refine f_iload C (j := 7) dX5_leastMaking_159 rfl rfl ?_
            refine f_icmp_ge C (t := 177) dX5_leastMaking_161 (by decide) rfl (fun hq_34 => ?_) (fun hq_34 => ?_)
            · replace h := Eq.mp (if_pos hq_34) h
              obtain ⟨x8_35, hx_36⟩ : ∃ y : Int32, y = x8 + 1 := ⟨_, rfl⟩
              replace h := h x8_35 hx_36
              refine f_iinc C (j := 9) (v := x8_35) (lv2 := [(8, .int x8_35), (9, .int r_18), (7, .int r_13), (0, .ref (B + 93)), (1, .int x1), (2, .int x2), (3, .int x3), (4, .int x4), (5, .int x5), (6, .int x6)]) dX5_leastMaking_177 rfl hx_36.symm (by decide) rfl rfl ?_
              refine f_goto C (t := 72) dX5_leastMaking_180 (by decide) ?_
              refine f_lv C (lv2 := [(0, .ref (B + 93)), (1, .int x1), (2, .int x2), (3, .int x3), (4, .int x4), (5, .int x5), (6, .int x6), (7, .int r_13), (8, .int x8_35)]) [3, 4, 5, 6, 7, 8, 9, 2, 0] rfl ?_
              exact hK72 _ _ _ _ _ h
            · replace h := Eq.mp (if_neg hq_34) h
              refine f_lv C (lv2 := [(0, .ref (B + 93)), (1, .int x1), (2, .int x2), (3, .int x3), (4, .int x4), (7, .int r_13), (8, .int x8), (9, .int r_18)]) [2, 3, 4, 5, 6, 1, 9, 0] rfl ?_
              exact s_X5_leastMaking_164 C _ _ _ _ _ _ _  K72 hK72 _ h
def w_X5_leastMaking (x1 : Int32) (σ : Sto) (P : Int32 → Sto → Prop) : Prop :=
  w_X6_atPresent σ (fun r_2 σ_1 => (if ((r_2 >>> (x1 &&& 31)) &&& 1) = 0 then P (-1) σ_1 else (if (((gi σ_1 88 2) >>> (x1 &&& 31)) &&& 1) = 0 then P 0 σ_1 else ∀ x3_5 : Int32, x3_5 = r_2 &&& (gi σ_1 88 2) → w_J6_bitCount_0f7a4 x3_5 σ_1 (fun r_8 σ_7 => ∀ x4_9 : Int32, x4_9 = 1 <<< (r_8 &&& 31) → Lp (fun (K : Int32 × Int32 × Int32 × Int32 × Sto → Prop) s => w_X5_leastMaking_72 K x1 r_2 x3_5 x4_9 s.1 s.2.1 s.2.2.1 s.2.2.2.1 s.2.2.2.2 P) ((-1), 13, 0, 1, si σ_7 87 0 0)))))
theorem s_X5_leastMaking {B : Nat} {E : Nat → List (Nat × Value) → List Value → Sto → Prop} {P : Int32 → Sto → Prop} (C : Cy B E RX5 cX5_leastMaking 10 (some .int) 3 69 (Zm (QFi P))) (x1 : Int32) (σ : Sto) (h : w_X5_leastMaking x1 σ P) : E 0 [(0, .ref (B + 93)), (1, .int x1)] [] σ := by
  unfold w_X5_leastMaking at h
  refine f_aload_n C (j := 0) dX5_leastMaking_0 rfl rfl rfl ?_
  refine f_getc C tF_X5_15 rfl o93 cs93_0 (by decide) dX5_leastMaking_1 rfl ?_
  refine f_callVi C (a := 88) (ci := 6) (As := fun B => []) o88 rfl (c_X6_atPresent   _ _ h) tM_X5_121 tI_X6_atPresent tS_X6_atPresent tN_X6 tC_X6_atPresent 0 dd_X6_atPresent rfl (by decide) (by decide) rfl (Nat.le_of_ble_eq_true rfl) dX5_leastMaking_4 rfl (fun r_2 σ_1 h => ?_)
  refine f_istore_n C (lv2 := [(2, .int r_2), (0, .ref (B + 93)), (1, .int x1)]) dX5_leastMaking_7 rfl (by decide) rfl rfl ?_
  refine f_iload_n C (j := 0) dX5_leastMaking_8 rfl rfl rfl ?_
  refine f_iload_n C (j := 2) dX5_leastMaking_9 rfl rfl rfl ?_
  refine f_ishr C dX5_leastMaking_10 rfl ?_
  refine f_iconst C (v := 1) dX5_leastMaking_11 kc1 rfl ?_
  refine f_iand C dX5_leastMaking_12 rfl ?_
  refine f_if_ne C (t := 18) dX5_leastMaking_13 (by decide) rfl (fun hq_3 => ?_) (fun hq_3 => ?_)
  · replace h := Eq.mp (if_neg hq_3) h
    refine f_aload_n C (j := 1) dX5_leastMaking_18 rfl rfl rfl ?_
    refine f_getc C tF_X5_15 rfl o93 cs93_0 (by decide) dX5_leastMaking_19 rfl ?_
    refine f_geti C tF_X5_124 rfl o88 dX5_leastMaking_22 rfl ?_
    refine f_iload_n C (j := 2) dX5_leastMaking_25 rfl rfl rfl ?_
    refine f_ishr C dX5_leastMaking_26 rfl ?_
    refine f_iconst C (v := 1) dX5_leastMaking_27 kc1 rfl ?_
    refine f_iand C dX5_leastMaking_28 rfl ?_
    refine f_if_ne C (t := 34) dX5_leastMaking_29 (by decide) rfl (fun hq_4 => ?_) (fun hq_4 => ?_)
    · replace h := Eq.mp (if_neg hq_4) h
      refine f_iload_n C (j := 0) dX5_leastMaking_34 rfl rfl rfl ?_
      refine f_aload_n C (j := 1) dX5_leastMaking_35 rfl rfl rfl ?_
      refine f_getc C tF_X5_15 rfl o93 cs93_0 (by decide) dX5_leastMaking_36 rfl ?_
      refine f_geti C tF_X5_124 rfl o88 dX5_leastMaking_39 rfl ?_
      refine f_iand C dX5_leastMaking_42 rfl ?_
      refine f_name (fun x3_5 hx_6 => ?_)
      replace h := h x3_5 hx_6
      refine f_istore_n C (lv2 := [(3, .int x3_5), (2, .int r_2), (0, .ref (B + 93)), (1, .int x1)]) dX5_leastMaking_43 rfl (by decide) rfl rfl ?_
      refine f_iconst C (v := 1) dX5_leastMaking_44 kc1 rfl ?_
      refine f_iload_n C (j := 0) dX5_leastMaking_45 rfl rfl rfl ?_
      refine f_callSi C (As := fun B => [.int x3_5]) (c_J6_bitCount_0f7a4  _ _ _ h) tM_X5_75 tT_J6_bitCount_0f7a4 tN_J6 tC_J6_bitCount_0f7a4 1 dd_J6_bitCount_0f7a4 rfl (by decide) (by decide) rfl (Nat.le_of_ble_eq_true rfl) dX5_leastMaking_46 rfl (fun r_8 σ_7 h => ?_)
      refine f_ishl C dX5_leastMaking_49 rfl ?_
      refine f_name (fun x4_9 hx_10 => ?_)
      replace h := h x4_9 hx_10
      refine f_istore C (lv2 := [(4, .int x4_9), (3, .int x3_5), (2, .int r_2), (0, .ref (B + 93)), (1, .int x1)]) dX5_leastMaking_50 (by decide) rfl rfl ?_
      refine f_iconst C (v := (-1)) dX5_leastMaking_52 kcm1 rfl ?_
      refine f_istore C (lv2 := [(5, .int (-1)), (4, .int x4_9), (3, .int x3_5), (2, .int r_2), (0, .ref (B + 93)), (1, .int x1)]) dX5_leastMaking_53 (by decide) rfl rfl ?_
      refine f_bipush C (v := 13) dX5_leastMaking_55 kb13 rfl ?_
      refine f_istore C (lv2 := [(6, .int 13), (5, .int (-1)), (4, .int x4_9), (3, .int x3_5), (2, .int r_2), (0, .ref (B + 93)), (1, .int x1)]) dX5_leastMaking_57 (by decide) rfl rfl ?_
      refine f_iconst C (v := 0) dX5_leastMaking_59 kc0 rfl ?_
      refine f_istore C (lv2 := [(7, .int 0), (6, .int 13), (5, .int (-1)), (4, .int x4_9), (3, .int x3_5), (2, .int r_2), (0, .ref (B + 93)), (1, .int x1)]) dX5_leastMaking_60 (by decide) rfl rfl ?_
      refine f_aload_n C (j := 6) dX5_leastMaking_62 rfl rfl rfl ?_
      refine f_getc C tF_X5_23 rfl o93 cs93_2 (by decide) dX5_leastMaking_63 rfl ?_
      refine f_iconst C (v := 0) dX5_leastMaking_66 kc0 rfl ?_
      refine f_iconst C (v := 0) dX5_leastMaking_67 kc0 rfl ?_
      refine f_iast C (j := 0) a87 (vp_lit (by decide)) rfl dX5_leastMaking_68 rfl ?_
      refine f_iconst C (v := 1) dX5_leastMaking_69 kc1 rfl ?_
      refine f_istore C (lv2 := [(8, .int 1), (7, .int 0), (6, .int 13), (5, .int (-1)), (4, .int x4_9), (3, .int x3_5), (2, .int r_2), (0, .ref (B + 93)), (1, .int x1)]) dX5_leastMaking_70 (by decide) rfl rfl ?_
      refine f_lv C (lv2 := [(0, .ref (B + 93)), (1, .int x1), (2, .int r_2), (3, .int x3_5), (4, .int x4_9), (5, .int (-1)), (6, .int 13), (7, .int 0), (8, .int 1)]) [7, 8, 6, 5, 4, 3, 2, 1, 0] rfl ?_
      exact Lp_sound (fun s : Int32 × Int32 × Int32 × Int32 × Sto => E 72 [(0, .ref (B + 93)), (1, .int x1), (2, .int r_2), (3, .int x3_5), (4, .int x4_9), (5, .int s.1), (6, .int s.2.1), (7, .int s.2.2.1), (8, .int s.2.2.2.1)] [] s.2.2.2.2) h (fun K s hK h => s_X5_leastMaking_72 C x1 r_2 x3_5 x4_9 s.1 s.2.1 s.2.2.1 s.2.2.2.1 K (fun x5 x6 x7 x8 σ hk => hK (x5, x6, x7, x8, σ) hk) s.2.2.2.2 h)
    · replace h := Eq.mp (if_pos hq_4) h
      refine f_iconst C (v := 0) dX5_leastMaking_32 kc0 rfl ?_
      exact f_iret C dX5_leastMaking_33 h
  · replace h := Eq.mp (if_pos hq_3) h
    refine f_iconst C (v := (-1)) dX5_leastMaking_16 kcm1 rfl ?_
    exact f_iret C dX5_leastMaking_17 h
theorem c_X5_leastMaking (x1 : Int32) (σ : Sto) (P : Int32 → Sto → Prop) (h : w_X5_leastMaking x1 σ P) : Ct yX5_leastMaking cX5_leastMaking 10 (some .int) 3 69 (fun B => [.ref (B + 93), .int x1]) σ (QFi P) := Ct.of (by decide) (fun _ => Nat.le_of_ble_eq_true rfl) (fun B E C => s_X5_leastMaking C x1 σ h)
def w_X6_turnTo_22 (K22 : Int32 × Sto → Prop) (x2 : Int32) (σ : Sto) (P : Sto → Prop) : Prop :=
  isCity (gr σ 88 1) ∧ (if (gi σ (gr σ 88 1) 9) ≤ x2 then P σ else vp_in x2 16 ∧ ∀ x2_7 : Int32, x2_7 = x2 + 1 → K22 (x2_7, si σ 88 2 ((gi σ 88 2) ||| (1 <<< ((gi σ ((gr σ 88 1) + 3) (tn x2)) &&& 31)))))
theorem s_X6_turnTo_22 {B : Nat} {E : Nat → List (Nat × Value) → List Value → Sto → Prop} {P : Sto → Prop} (C : Cy B E RX6 cX6_turnTo 3 none 0 0 (Zm (QFv P))) (x2 : Int32) (K22 : Int32 × Sto → Prop) (hK22 : ∀ (x2 : Int32) (σ : Sto), K22 (x2, σ) → E 22 [(0, .ref (B + 88)), (2, .int x2)] [] σ) (σ : Sto) (h : w_X6_turnTo_22 K22 x2 σ P) : E 22 [(0, .ref (B + 88)), (2, .int x2)] [] σ := by
  unfold w_X6_turnTo_22 at h
  refine f_iload_n C (j := 1) dX6_turnTo_22 rfl rfl rfl ?_
  refine f_aload_n C (j := 0) dX6_turnTo_23 rfl rfl rfl ?_
  obtain ⟨hc_4, h⟩ := h
  refine f_getm C tF_X6_15 rfl o88 cn88_1 hc_4.z dX6_turnTo_24 rfl ?_
  refine f_geti C tF_X6_26 rfl hc_4.o dX6_turnTo_27 rfl ?_
  refine f_icmp_ge C (t := 59) dX6_turnTo_30 (by decide) rfl (fun hq_5 => ?_) (fun hq_5 => ?_)
  · replace h := Eq.mp (if_pos hq_5) h
    exact f_vret C dX6_turnTo_59 h
  · replace h := Eq.mp (if_neg hq_5) h
    refine f_aload_n C (j := 0) dX6_turnTo_33 rfl rfl rfl ?_
    refine f_dup C dX6_turnTo_34 rfl rfl ?_
    refine f_geti C tF_X6_19 rfl o88 dX6_turnTo_35 rfl ?_
    refine f_iconst C (v := 1) dX6_turnTo_38 kc1 rfl ?_
    refine f_aload_n C (j := 0) dX6_turnTo_39 rfl rfl rfl ?_
    refine f_getm C tF_X6_15 rfl o88 cn88_1 hc_4.z dX6_turnTo_40 rfl ?_
    refine f_getc C tF_X6_31 rfl hc_4.o hc_4.c2 (Nat.succ_ne_zero _) dX6_turnTo_43 rfl ?_
    refine f_iload_n C (j := 1) dX6_turnTo_46 rfl rfl rfl ?_
    obtain ⟨hi_6, h⟩ := h
    refine f_iald C (j := tn x2) hc_4.a2 hi_6 rfl dX6_turnTo_47 rfl ?_
    refine f_ishl C dX6_turnTo_48 rfl ?_
    refine f_ior C dX6_turnTo_49 rfl ?_
    refine f_puti C tF_X6_19 fm_6_2 rfl o88 dX6_turnTo_50 rfl ?_
    obtain ⟨x2_7, hx_8⟩ : ∃ y : Int32, y = x2 + 1 := ⟨_, rfl⟩
    replace h := h x2_7 hx_8
    refine f_iinc C (j := 1) (v := x2_7) (lv2 := [(2, .int x2_7), (0, .ref (B + 88))]) dX6_turnTo_53 rfl hx_8.symm (by decide) rfl rfl ?_
    refine f_goto C (t := 22) dX6_turnTo_56 (by decide) ?_
    refine f_lv C (lv2 := [(0, .ref (B + 88)), (2, .int x2_7)]) [1, 0] rfl ?_
    exact hK22 _ _ h
def w_X6_turnTo (a1 : Nat) (σ : Sto) (P : Sto → Prop) : Prop :=
  isCity a1 ∧ ∀ σ_2 : Sto, σ_2 = sr σ 88 1 a1 → Lp (fun (K : Int32 × Sto → Prop) s => w_X6_turnTo_22 K s.1 s.2 P) (0, si (si σ_2 88 3 ((gi σ_2 88 3) + 1)) 88 2 0)
theorem s_X6_turnTo {B : Nat} {E : Nat → List (Nat × Value) → List Value → Sto → Prop} {P : Sto → Prop} (C : Cy B E RX6 cX6_turnTo 3 none 0 0 (Zm (QFv P))) (a1 : Nat) (σ : Sto) (h : w_X6_turnTo a1 σ P) : E 0 [(0, .ref (B + 88)), (1, .ref (B + a1))] [] σ := by
  unfold w_X6_turnTo at h
  refine f_aload_n C (j := 0) dX6_turnTo_0 rfl rfl rfl ?_
  refine f_aload_n C (j := 1) dX6_turnTo_1 rfl rfl rfl ?_
  obtain ⟨hc_1, h⟩ := h
  refine f_putr C tF_X6_15 fm_6_1 rfl hc_1.z cn88_1 o88 dX6_turnTo_2 rfl ?_
  refine f_aload_n C (j := 0) dX6_turnTo_5 rfl rfl rfl ?_
  refine f_dup C dX6_turnTo_6 rfl rfl ?_
  refine f_names (fun σ_2 hσ_3 => ?_)
  replace h := h σ_2 hσ_3
  refine f_geti C tF_X6_23 rfl o88 dX6_turnTo_7 rfl ?_
  refine f_iconst C (v := 1) dX6_turnTo_10 kc1 rfl ?_
  refine f_iadd C dX6_turnTo_11 rfl ?_
  refine f_puti C tF_X6_23 fm_6_3 rfl o88 dX6_turnTo_12 rfl ?_
  refine f_aload_n C (j := 0) dX6_turnTo_15 rfl rfl rfl ?_
  refine f_iconst C (v := 0) dX6_turnTo_16 kc0 rfl ?_
  refine f_puti C tF_X6_19 fm_6_2 rfl o88 dX6_turnTo_17 rfl ?_
  refine f_iconst C (v := 0) dX6_turnTo_20 kc0 rfl ?_
  refine f_istore_n C (lv2 := [(2, .int 0), (0, .ref (B + 88)), (1, .ref (B + a1))]) dX6_turnTo_21 rfl (by decide) rfl rfl ?_
  refine f_lv C (lv2 := [(0, .ref (B + 88)), (2, .int 0)]) [1, 0] rfl ?_
  exact Lp_sound (fun s : Int32 × Sto => E 22 [(0, .ref (B + 88)), (2, .int s.1)] [] s.2) h (fun K s hK h => s_X6_turnTo_22 C s.1 K (fun x2 σ hk => hK (x2, σ) hk) s.2 h)
theorem c_X6_turnTo (a1 : Nat) (σ : Sto) (P : Sto → Prop) (h : w_X6_turnTo a1 σ P) : Ct yX6_turnTo cX6_turnTo 3 none 0 0 (fun B => [.ref (B + 88), .ref (B + a1)]) σ (QFv P) := Ct.of (by decide) (fun _ => Nat.le_of_ble_eq_true rfl) (fun B E C => s_X6_turnTo C a1 σ h)
def w_X8_readEnd (σ : Sto) (P : Int32 → Sto → Prop) : Prop :=
  (if 0 < (gi σ 42 2) then w_X9_advance (si σ 42 2 ((gi σ 42 2) - 1)) (fun σ_2 => isStory (gr σ_2 42 4) ∧ vp_in (gi σ_2 (gr σ_2 42 4) 7) 60 ∧ ∀ σ_6 : Sto, σ_6 = si σ_2 ((gr σ_2 42 4) + 1) (tn (gi σ_2 (gr σ_2 42 4) 7)) 10 → isStory (gr σ_6 42 4) ∧ vp_in (gi σ_6 42 2) 3 ∧ vp_in (gi σ_6 (gr σ_6 42 4) 7) 60 ∧ ∀ σ_11 : Sto, σ_11 = si σ_6 ((gr σ_6 42 4) + 5) (tn (gi σ_6 (gr σ_6 42 4) 7)) (gi σ_6 43 (tn (gi σ_6 42 2))) → isStory (gr σ_11 42 4) ∧ vp_in (gi σ_11 42 2) 3 ∧ vp_in (gi σ_11 43 (tn (gi σ_11 42 2))) 60 ∧ P 1 (si σ_11 ((gr σ_11 42 4) + 5) (tn (gi σ_11 43 (tn (gi σ_11 42 2)))) (gi σ_11 (gr σ_11 42 4) 7))) else w_X9_fail 2 σ (fun r_17 σ_16 => (r_17 = 0 ∨ r_17 = 1) ∧ P r_17 σ_16))
theorem s_X8_readEnd {B : Nat} {E : Nat → List (Nat × Value) → List Value → Sto → Prop} {P : Int32 → Sto → Prop} (C : Cy B E RX8 cX8_readEnd 1 (some .boolean) 2 41 (Zm (QFi P))) (σ : Sto) (h : w_X8_readEnd σ P) : E 0 [(0, .ref (B + 42))] [] σ := by
  unfold w_X8_readEnd at h
  refine f_aload_n C (j := 0) dX8_readEnd_0 rfl rfl rfl ?_
  refine f_geti C tF_X8_19 rfl o42 dX8_readEnd_1 rfl ?_
  refine f_if_gt C (t := 16) dX8_readEnd_4 (by decide) rfl (fun hq_1 => ?_) (fun hq_1 => ?_)
  · replace h := Eq.mp (if_pos hq_1) h
    refine f_aload_n C (j := 0) dX8_readEnd_16 rfl rfl rfl ?_
    refine f_dup C dX8_readEnd_17 rfl rfl ?_
    refine f_geti C tF_X8_19 rfl o42 dX8_readEnd_18 rfl ?_
    refine f_iconst C (v := 1) dX8_readEnd_21 kc1 rfl ?_
    refine f_isub C dX8_readEnd_22 rfl ?_
    refine f_puti C tF_X8_19 fm_8_2 rfl o42 dX8_readEnd_23 rfl ?_
    refine f_aload_n C (j := 0) dX8_readEnd_26 rfl rfl rfl ?_
    refine f_getc C tF_X8_9 rfl o42 cs42_0 (by decide) dX8_readEnd_27 rfl ?_
    refine f_callVv C (a := 10) (ci := 9) (As := fun B => []) o10 rfl (c_X9_advance   _ _ h) tM_X8_76 tI_X9_advance tS_X9_advance tN_X9 tC_X9_advance 0 dd_X9_advance rfl (by decide) (by decide) rfl (Nat.le_of_ble_eq_true rfl) dX8_readEnd_30 rfl (fun σ_2 h => ?_)
    refine f_aload_n C (j := 0) dX8_readEnd_33 rfl rfl rfl ?_
    obtain ⟨hs_4, h⟩ := h
    refine f_getm C tF_X8_33 rfl o42 cn42_4 hs_4.z dX8_readEnd_34 rfl ?_
    refine f_getc C tF_X8_79 rfl hs_4.o hs_4.c0 (Nat.succ_ne_zero _) dX8_readEnd_37 rfl ?_
    refine f_aload_n C (j := 0) dX8_readEnd_40 rfl rfl rfl ?_
    refine f_getm C tF_X8_33 rfl o42 cn42_4 hs_4.z dX8_readEnd_41 rfl ?_
    refine f_geti C tF_X8_66 rfl hs_4.o dX8_readEnd_44 rfl ?_
    refine f_bipush C (v := 10) dX8_readEnd_47 kb10 rfl ?_
    obtain ⟨hi_5, h⟩ := h
    refine f_iast C (j := tn (gi σ_2 (gr σ_2 42 4) 7)) hs_4.a0 hi_5 rfl dX8_readEnd_49 rfl ?_
    refine f_aload_n C (j := 0) dX8_readEnd_50 rfl rfl rfl ?_
    refine f_names (fun σ_6 hσ_7 => ?_)
    replace h := h σ_6 hσ_7
    obtain ⟨hs_8, h⟩ := h
    refine f_getm C tF_X8_33 rfl o42 cn42_4 hs_8.z dX8_readEnd_51 rfl ?_
    refine f_getc C tF_X8_82 rfl hs_8.o hs_8.c4 (Nat.succ_ne_zero _) dX8_readEnd_54 rfl ?_
    refine f_aload_n C (j := 0) dX8_readEnd_57 rfl rfl rfl ?_
    refine f_getm C tF_X8_33 rfl o42 cn42_4 hs_8.z dX8_readEnd_58 rfl ?_
    refine f_geti C tF_X8_66 rfl hs_8.o dX8_readEnd_61 rfl ?_
    refine f_aload_n C (j := 0) dX8_readEnd_64 rfl rfl rfl ?_
    refine f_getc C tF_X8_15 rfl o42 cs42_1 (by decide) dX8_readEnd_65 rfl ?_
    refine f_aload_n C (j := 0) dX8_readEnd_68 rfl rfl rfl ?_
    refine f_geti C tF_X8_19 rfl o42 dX8_readEnd_69 rfl ?_
    obtain ⟨hi_9, h⟩ := h
    refine f_iald C (j := tn (gi σ_6 42 2)) a43 hi_9 rfl dX8_readEnd_72 rfl ?_
    obtain ⟨hi_10, h⟩ := h
    refine f_iast C (j := tn (gi σ_6 (gr σ_6 42 4) 7)) hs_8.a4 hi_10 rfl dX8_readEnd_73 rfl ?_
    refine f_aload_n C (j := 0) dX8_readEnd_74 rfl rfl rfl ?_
    refine f_names (fun σ_11 hσ_12 => ?_)
    replace h := h σ_11 hσ_12
    obtain ⟨hs_13, h⟩ := h
    refine f_getm C tF_X8_33 rfl o42 cn42_4 hs_13.z dX8_readEnd_75 rfl ?_
    refine f_getc C tF_X8_82 rfl hs_13.o hs_13.c4 (Nat.succ_ne_zero _) dX8_readEnd_78 rfl ?_
    refine f_aload_n C (j := 0) dX8_readEnd_81 rfl rfl rfl ?_
    refine f_getc C tF_X8_15 rfl o42 cs42_1 (by decide) dX8_readEnd_82 rfl ?_
    refine f_aload_n C (j := 0) dX8_readEnd_85 rfl rfl rfl ?_
    refine f_geti C tF_X8_19 rfl o42 dX8_readEnd_86 rfl ?_
    obtain ⟨hi_14, h⟩ := h
    refine f_iald C (j := tn (gi σ_11 42 2)) a43 hi_14 rfl dX8_readEnd_89 rfl ?_
    refine f_aload_n C (j := 0) dX8_readEnd_90 rfl rfl rfl ?_
    refine f_getm C tF_X8_33 rfl o42 cn42_4 hs_13.z dX8_readEnd_91 rfl ?_
    refine f_geti C tF_X8_66 rfl hs_13.o dX8_readEnd_94 rfl ?_
    obtain ⟨hi_15, h⟩ := h
    refine f_iast C (j := tn (gi σ_11 43 (tn (gi σ_11 42 2)))) hs_13.a4 hi_15 rfl dX8_readEnd_97 rfl ?_
    refine f_iconst C (v := 1) dX8_readEnd_98 kc1 rfl ?_
    exact f_zret C (Or.inr rfl) dX8_readEnd_99 h
  · replace h := Eq.mp (if_neg hq_1) h
    refine f_aload_n C (j := 0) dX8_readEnd_7 rfl rfl rfl ?_
    refine f_getc C tF_X8_9 rfl o42 cs42_0 (by decide) dX8_readEnd_8 rfl ?_
    refine f_iconst C (v := 2) dX8_readEnd_11 kc2 rfl ?_
    refine f_callVi C (a := 10) (ci := 9) (As := fun B => [.int 2]) o10 rfl (c_X9_fail  _ _ _ h) tM_X8_69 tI_X9_fail tS_X9_fail tN_X9 tC_X9_fail 1 dd_X9_fail rfl (by decide) (by decide) rfl (Nat.le_of_ble_eq_true rfl) dX8_readEnd_12 rfl (fun r_17 σ_16 h => ?_)
    obtain ⟨hb_18, h⟩ := h
    exact f_zret C hb_18 dX8_readEnd_15 h
theorem c_X8_readEnd (σ : Sto) (P : Int32 → Sto → Prop) (h : w_X8_readEnd σ P) : Ct yX8_readEnd cX8_readEnd 1 (some .boolean) 2 41 (fun B => [.ref (B + 42)]) σ (QFi P) := Ct.of (by decide) (fun _ => Nat.le_of_ble_eq_true rfl) (fun B E C => s_X8_readEnd C σ h)
def w_X8_isStep_35 (σ : Sto) (P : Int32 → Sto → Prop) : Prop :=
  (if (gi σ 10 7) = 20 then P 1 σ else (if (gi σ 10 7) = 22 then P 1 σ else P 0 σ))
theorem s_X8_isStep_35 {B : Nat} {E : Nat → List (Nat × Value) → List Value → Sto → Prop} {P : Int32 → Sto → Prop} (C : Cy B E RX8 cX8_isStep 1 (some .boolean) 0 0 (Zm (QFi P))) (σ : Sto) (h : w_X8_isStep_35 σ P) : E 35 [(0, .ref (B + 42))] [] σ := by
  unfold w_X8_isStep_35 at h
  refine f_aload_n C (j := 0) dX8_isStep_35 rfl rfl rfl ?_
  refine f_getc C tF_X8_9 rfl o42 cs42_0 (by decide) dX8_isStep_36 rfl ?_
  refine f_geti C tF_X8_91 rfl o10 dX8_isStep_39 rfl ?_
  refine f_bipush C (v := 20) dX8_isStep_42 kb20 rfl ?_
  refine f_icmp_eq C (t := 59) dX8_isStep_44 (by decide) rfl (fun hq_3 => ?_) (fun hq_3 => ?_)
  · replace h := Eq.mp (if_pos hq_3) h
    refine f_iconst C (v := 1) dX8_isStep_59 kc1 rfl ?_
    refine f_goto C (t := 64) dX8_isStep_60 (by decide) ?_
    exact f_zret C (Or.inr rfl) dX8_isStep_64 h
  · replace h := Eq.mp (if_neg hq_3) h
    refine f_aload_n C (j := 0) dX8_isStep_47 rfl rfl rfl ?_
    refine f_getc C tF_X8_9 rfl o42 cs42_0 (by decide) dX8_isStep_48 rfl ?_
    refine f_geti C tF_X8_91 rfl o10 dX8_isStep_51 rfl ?_
    refine f_bipush C (v := 22) dX8_isStep_54 kb22 rfl ?_
    refine f_icmp_ne C (t := 63) dX8_isStep_56 (by decide) rfl (fun hq_4 => ?_) (fun hq_4 => ?_)
    · replace h := Eq.mp (if_neg hq_4) h
      refine f_iconst C (v := 0) dX8_isStep_63 kc0 rfl ?_
      exact f_zret C (Or.inl rfl) dX8_isStep_64 h
    · replace h := Eq.mp (if_pos hq_4) h
      refine f_iconst C (v := 1) dX8_isStep_59 kc1 rfl ?_
      refine f_goto C (t := 64) dX8_isStep_60 (by decide) ?_
      exact f_zret C (Or.inr rfl) dX8_isStep_64 h
def w_X8_isStep (σ : Sto) (P : Int32 → Sto → Prop) : Prop :=
  (if (gi σ 10 5) = 3 then (if (gi σ 10 7) < 11 then w_X8_isStep_35 σ P else (if (gi σ 10 7) ≤ 16 then P 1 σ else w_X8_isStep_35 σ P)) else P 0 σ)
theorem s_X8_isStep {B : Nat} {E : Nat → List (Nat × Value) → List Value → Sto → Prop} {P : Int32 → Sto → Prop} (C : Cy B E RX8 cX8_isStep 1 (some .boolean) 0 0 (Zm (QFi P))) (σ : Sto) (h : w_X8_isStep σ P) : E 0 [(0, .ref (B + 42))] [] σ := by
  unfold w_X8_isStep at h
  refine f_aload_n C (j := 0) dX8_isStep_0 rfl rfl rfl ?_
  refine f_getc C tF_X8_9 rfl o42 cs42_0 (by decide) dX8_isStep_1 rfl ?_
  refine f_geti C tF_X8_45 rfl o10 dX8_isStep_4 rfl ?_
  refine f_iconst C (v := 3) dX8_isStep_7 kc3 rfl ?_
  refine f_icmp_ne C (t := 63) dX8_isStep_8 (by decide) rfl (fun hq_1 => ?_) (fun hq_1 => ?_)
  · replace h := Eq.mp (if_neg hq_1) h
    refine f_iconst C (v := 0) dX8_isStep_63 kc0 rfl ?_
    exact f_zret C (Or.inl rfl) dX8_isStep_64 h
  · replace h := Eq.mp (if_pos hq_1) h
    refine f_aload_n C (j := 0) dX8_isStep_11 rfl rfl rfl ?_
    refine f_getc C tF_X8_9 rfl o42 cs42_0 (by decide) dX8_isStep_12 rfl ?_
    refine f_geti C tF_X8_91 rfl o10 dX8_isStep_15 rfl ?_
    refine f_bipush C (v := 11) dX8_isStep_18 kb11 rfl ?_
    refine f_icmp_lt C (t := 35) dX8_isStep_20 (by decide) rfl (fun hq_2 => ?_) (fun hq_2 => ?_)
    · replace h := Eq.mp (if_pos hq_2) h
      exact s_X8_isStep_35 C  _ h
    · replace h := Eq.mp (if_neg hq_2) h
      refine f_aload_n C (j := 0) dX8_isStep_23 rfl rfl rfl ?_
      refine f_getc C tF_X8_9 rfl o42 cs42_0 (by decide) dX8_isStep_24 rfl ?_
      refine f_geti C tF_X8_91 rfl o10 dX8_isStep_27 rfl ?_
      refine f_bipush C (v := 16) dX8_isStep_30 kb16 rfl ?_
      refine f_icmp_le C (t := 59) dX8_isStep_32 (by decide) rfl (fun hq_5 => ?_) (fun hq_5 => ?_)
      · replace h := Eq.mp (if_pos hq_5) h
        refine f_iconst C (v := 1) dX8_isStep_59 kc1 rfl ?_
        refine f_goto C (t := 64) dX8_isStep_60 (by decide) ?_
        exact f_zret C (Or.inr rfl) dX8_isStep_64 h
      · replace h := Eq.mp (if_neg hq_5) h
        exact s_X8_isStep_35 C  _ h
theorem c_X8_isStep (σ : Sto) (P : Int32 → Sto → Prop) (h : w_X8_isStep σ P) : Ct yX8_isStep cX8_isStep 1 (some .boolean) 0 0 (fun B => [.ref (B + 42)]) σ (QFi P) := Ct.of (by decide) (fun _ => Nat.le_of_ble_eq_true rfl) (fun B E C => s_X8_isStep C σ h)
def w_X8_beginStep_77 (σ : Sto) (P : Int32 → Sto → Prop) : Prop :=
  (if (gi σ 42 2) < 3 then isStory (gr σ 42 4) ∧ vp_in (gi σ 42 2) 3 ∧ ∀ σ_12 : Sto, σ_12 = si σ 43 (tn (gi σ 42 2)) (gi σ (gr σ 42 4) 7) → P 1 (si σ_12 42 2 ((gi σ_12 42 2) + 1)) else w_X9_fail 7 σ (fun r_15 σ_14 => (r_15 = 0 ∨ r_15 = 1) ∧ P r_15 σ_14))
theorem s_X8_beginStep_77 {B : Nat} {E : Nat → List (Nat × Value) → List Value → Sto → Prop} {P : Int32 → Sto → Prop} (C : Cy B E RX8 cX8_beginStep 1 (some .boolean) 1 21 (Zm (QFi P))) (σ : Sto) (h : w_X8_beginStep_77 σ P) : E 77 [(0, .ref (B + 42))] [] σ := by
  unfold w_X8_beginStep_77 at h
  refine f_aload_n C (j := 0) dX8_beginStep_77 rfl rfl rfl ?_
  refine f_geti C tF_X8_19 rfl o42 dX8_beginStep_78 rfl ?_
  refine f_iconst C (v := 3) dX8_beginStep_81 kc3 rfl ?_
  refine f_icmp_lt C (t := 95) dX8_beginStep_82 (by decide) rfl (fun hq_9 => ?_) (fun hq_9 => ?_)
  · replace h := Eq.mp (if_pos hq_9) h
    refine f_aload_n C (j := 0) dX8_beginStep_95 rfl rfl rfl ?_
    refine f_getc C tF_X8_15 rfl o42 cs42_1 (by decide) dX8_beginStep_96 rfl ?_
    refine f_aload_n C (j := 0) dX8_beginStep_99 rfl rfl rfl ?_
    refine f_geti C tF_X8_19 rfl o42 dX8_beginStep_100 rfl ?_
    refine f_aload_n C (j := 0) dX8_beginStep_103 rfl rfl rfl ?_
    obtain ⟨hs_10, h⟩ := h
    refine f_getm C tF_X8_33 rfl o42 cn42_4 hs_10.z dX8_beginStep_104 rfl ?_
    refine f_geti C tF_X8_66 rfl hs_10.o dX8_beginStep_107 rfl ?_
    obtain ⟨hi_11, h⟩ := h
    refine f_iast C (j := tn (gi σ 42 2)) a43 hi_11 rfl dX8_beginStep_110 rfl ?_
    refine f_aload_n C (j := 0) dX8_beginStep_111 rfl rfl rfl ?_
    refine f_dup C dX8_beginStep_112 rfl rfl ?_
    refine f_names (fun σ_12 hσ_13 => ?_)
    replace h := h σ_12 hσ_13
    refine f_geti C tF_X8_19 rfl o42 dX8_beginStep_113 rfl ?_
    refine f_iconst C (v := 1) dX8_beginStep_116 kc1 rfl ?_
    refine f_iadd C dX8_beginStep_117 rfl ?_
    refine f_puti C tF_X8_19 fm_8_2 rfl o42 dX8_beginStep_118 rfl ?_
    refine f_iconst C (v := 1) dX8_beginStep_121 kc1 rfl ?_
    exact f_zret C (Or.inr rfl) dX8_beginStep_122 h
  · replace h := Eq.mp (if_neg hq_9) h
    refine f_aload_n C (j := 0) dX8_beginStep_85 rfl rfl rfl ?_
    refine f_getc C tF_X8_9 rfl o42 cs42_0 (by decide) dX8_beginStep_86 rfl ?_
    refine f_bipush C (v := 7) dX8_beginStep_89 kb7 rfl ?_
    refine f_callVi C (a := 10) (ci := 9) (As := fun B => [.int 7]) o10 rfl (c_X9_fail  _ _ _ h) tM_X8_69 tI_X9_fail tS_X9_fail tN_X9 tC_X9_fail 1 dd_X9_fail rfl (by decide) (by decide) rfl (Nat.le_of_ble_eq_true rfl) dX8_beginStep_91 rfl (fun r_15 σ_14 h => ?_)
    obtain ⟨hb_16, h⟩ := h
    exact f_zret C hb_16 dX8_beginStep_94 h
def w_X8_beginStep (σ : Sto) (P : Int32 → Sto → Prop) : Prop :=
  w_X8_isStep σ (fun r_2 σ_1 => (if r_2 = 0 then w_X9_fail 2 σ_1 (fun r_22 σ_21 => (r_22 = 0 ∨ r_22 = 1) ∧ P r_22 σ_21) else isStory (gr σ_1 42 4) ∧ (if (gi σ_1 (gr σ_1 42 4) 6) < 30 then ∀ σ_6 : Sto, σ_6 = si σ_1 (gr σ_1 42 4) 6 ((gi σ_1 (gr σ_1 42 4) 6) + 1) → (if (gi σ_6 10 7) = 16 then w_X8_beginStep_77 σ_6 P else (if (gi σ_6 10 7) = 20 then w_X8_beginStep_77 σ_6 P else P 1 σ_6)) else w_X9_fail 6 σ_1 (fun r_19 σ_18 => (r_19 = 0 ∨ r_19 = 1) ∧ P r_19 σ_18))))
theorem s_X8_beginStep {B : Nat} {E : Nat → List (Nat × Value) → List Value → Sto → Prop} {P : Int32 → Sto → Prop} (C : Cy B E RX8 cX8_beginStep 1 (some .boolean) 1 21 (Zm (QFi P))) (σ : Sto) (h : w_X8_beginStep σ P) : E 0 [(0, .ref (B + 42))] [] σ := by
  unfold w_X8_beginStep at h
  refine f_aload_n C (j := 0) dX8_beginStep_0 rfl rfl rfl ?_
  refine f_callVi C (a := 42) (ci := 8) (As := fun B => []) o42 rfl (c_X8_isStep   _ _ h) tM_X8_85 tI_X8_isStep tS_X8_isStep tN_X8 tC_X8_isStep 0 dd_X8_isStep rfl (by decide) (by decide) rfl (Nat.le_of_ble_eq_true rfl) dX8_beginStep_1 rfl (fun r_2 σ_1 h => ?_)
  refine f_if_ne C (t := 16) dX8_beginStep_4 (by decide) rfl (fun hq_3 => ?_) (fun hq_3 => ?_)
  · replace h := Eq.mp (if_neg hq_3) h
    refine f_aload_n C (j := 0) dX8_beginStep_16 rfl rfl rfl ?_
    obtain ⟨hs_4, h⟩ := h
    refine f_getm C tF_X8_33 rfl o42 cn42_4 hs_4.z dX8_beginStep_17 rfl ?_
    refine f_geti C tF_X8_88 rfl hs_4.o dX8_beginStep_20 rfl ?_
    refine f_bipush C (v := 30) dX8_beginStep_23 kb30 rfl ?_
    refine f_icmp_lt C (t := 38) dX8_beginStep_25 (by decide) rfl (fun hq_5 => ?_) (fun hq_5 => ?_)
    · replace h := Eq.mp (if_pos hq_5) h
      refine f_aload_n C (j := 0) dX8_beginStep_38 rfl rfl rfl ?_
      refine f_getm C tF_X8_33 rfl o42 cn42_4 hs_4.z dX8_beginStep_39 rfl ?_
      refine f_dup C dX8_beginStep_42 rfl rfl ?_
      refine f_geti C tF_X8_88 rfl hs_4.o dX8_beginStep_43 rfl ?_
      refine f_iconst C (v := 1) dX8_beginStep_46 kc1 rfl ?_
      refine f_iadd C dX8_beginStep_47 rfl ?_
      refine f_puti C tF_X8_88 fm_7_6 rfl hs_4.o dX8_beginStep_48 rfl ?_
      refine f_aload_n C (j := 0) dX8_beginStep_51 rfl rfl rfl ?_
      refine f_getc C tF_X8_9 rfl o42 cs42_0 (by decide) dX8_beginStep_52 rfl ?_
      refine f_names (fun σ_6 hσ_7 => ?_)
      replace h := h σ_6 hσ_7
      refine f_geti C tF_X8_91 rfl o10 dX8_beginStep_55 rfl ?_
      refine f_bipush C (v := 16) dX8_beginStep_58 kb16 rfl ?_
      refine f_icmp_eq C (t := 77) dX8_beginStep_60 (by decide) rfl (fun hq_8 => ?_) (fun hq_8 => ?_)
      · replace h := Eq.mp (if_pos hq_8) h
        exact s_X8_beginStep_77 C  _ h
      · replace h := Eq.mp (if_neg hq_8) h
        refine f_aload_n C (j := 0) dX8_beginStep_63 rfl rfl rfl ?_
        refine f_getc C tF_X8_9 rfl o42 cs42_0 (by decide) dX8_beginStep_64 rfl ?_
        refine f_geti C tF_X8_91 rfl o10 dX8_beginStep_67 rfl ?_
        refine f_bipush C (v := 20) dX8_beginStep_70 kb20 rfl ?_
        refine f_icmp_eq C (t := 77) dX8_beginStep_72 (by decide) rfl (fun hq_17 => ?_) (fun hq_17 => ?_)
        · replace h := Eq.mp (if_pos hq_17) h
          exact s_X8_beginStep_77 C  _ h
        · replace h := Eq.mp (if_neg hq_17) h
          refine f_iconst C (v := 1) dX8_beginStep_75 kc1 rfl ?_
          exact f_zret C (Or.inr rfl) dX8_beginStep_76 h
    · replace h := Eq.mp (if_neg hq_5) h
      refine f_aload_n C (j := 0) dX8_beginStep_28 rfl rfl rfl ?_
      refine f_getc C tF_X8_9 rfl o42 cs42_0 (by decide) dX8_beginStep_29 rfl ?_
      refine f_bipush C (v := 6) dX8_beginStep_32 kb6 rfl ?_
      refine f_callVi C (a := 10) (ci := 9) (As := fun B => [.int 6]) o10 rfl (c_X9_fail  _ _ _ h) tM_X8_69 tI_X9_fail tS_X9_fail tN_X9 tC_X9_fail 1 dd_X9_fail rfl (by decide) (by decide) rfl (Nat.le_of_ble_eq_true rfl) dX8_beginStep_34 rfl (fun r_19 σ_18 h => ?_)
      obtain ⟨hb_20, h⟩ := h
      exact f_zret C hb_20 dX8_beginStep_37 h
  · replace h := Eq.mp (if_pos hq_3) h
    refine f_aload_n C (j := 0) dX8_beginStep_7 rfl rfl rfl ?_
    refine f_getc C tF_X8_9 rfl o42 cs42_0 (by decide) dX8_beginStep_8 rfl ?_
    refine f_iconst C (v := 2) dX8_beginStep_11 kc2 rfl ?_
    refine f_callVi C (a := 10) (ci := 9) (As := fun B => [.int 2]) o10 rfl (c_X9_fail  _ _ _ h) tM_X8_69 tI_X9_fail tS_X9_fail tN_X9 tC_X9_fail 1 dd_X9_fail rfl (by decide) (by decide) rfl (Nat.le_of_ble_eq_true rfl) dX8_beginStep_12 rfl (fun r_22 σ_21 h => ?_)
    obtain ⟨hb_23, h⟩ := h
    exact f_zret C hb_23 dX8_beginStep_15 h
theorem c_X8_beginStep (σ : Sto) (P : Int32 → Sto → Prop) (h : w_X8_beginStep σ P) : Ct yX8_beginStep cX8_beginStep 1 (some .boolean) 1 21 (fun B => [.ref (B + 42)]) σ (QFi P) := Ct.of (by decide) (fun _ => Nat.le_of_ble_eq_true rfl) (fun B E C => s_X8_beginStep C σ h)
def w_X8_readAmount (x1 : Int32) (x2 : Int32) (σ : Sto) (P : Int32 → Sto → Prop) : Prop :=
  w_X9_passNumber 1 x2 σ (fun r_2 σ_1 => isStory (gr σ_1 42 4) ∧ vp_in (gi σ_1 (gr σ_1 42 4) 7) 60 ∧ ∀ σ_5 : Sto, σ_5 = si σ_1 ((gr σ_1 42 4) + 1) (tn (gi σ_1 (gr σ_1 42 4) 7)) x1 → isStory (gr σ_5 42 4) ∧ vp_in (gi σ_5 (gr σ_5 42 4) 7) 60 ∧ (if r_2 = (-1) then P 0 (si σ_5 ((gr σ_5 42 4) + 4) (tn (gi σ_5 (gr σ_5 42 4) 7)) r_2) else P 1 (si σ_5 ((gr σ_5 42 4) + 4) (tn (gi σ_5 (gr σ_5 42 4) 7)) r_2)))
theorem s_X8_readAmount {B : Nat} {E : Nat → List (Nat × Value) → List Value → Sto → Prop} {P : Int32 → Sto → Prop} (C : Cy B E RX8 cX8_readAmount 4 (some .boolean) 3 64 (Zm (QFi P))) (x1 : Int32) (x2 : Int32) (σ : Sto) (h : w_X8_readAmount x1 x2 σ P) : E 0 [(0, .ref (B + 42)), (1, .int x1), (2, .int x2)] [] σ := by
  unfold w_X8_readAmount at h
  refine f_aload_n C (j := 0) dX8_readAmount_0 rfl rfl rfl ?_
  refine f_getc C tF_X8_9 rfl o42 cs42_0 (by decide) dX8_readAmount_1 rfl ?_
  refine f_iconst C (v := 1) dX8_readAmount_4 kc1 rfl ?_
  refine f_iload_n C (j := 2) dX8_readAmount_5 rfl rfl rfl ?_
  refine f_callVi C (a := 10) (ci := 9) (As := fun B => [.int 1, .int x2]) o10 rfl (c_X9_passNumber  _ _ _ _ h) tM_X8_104 tI_X9_passNumber tS_X9_passNumber tN_X9 tC_X9_passNumber 2 dd_X9_passNumber rfl (by decide) (by decide) rfl (Nat.le_of_ble_eq_true rfl) dX8_readAmount_6 rfl (fun r_2 σ_1 h => ?_)
  refine f_istore_n C (lv2 := [(3, .int r_2), (0, .ref (B + 42)), (1, .int x1), (2, .int x2)]) dX8_readAmount_9 rfl (by decide) rfl rfl ?_
  refine f_aload_n C (j := 1) dX8_readAmount_10 rfl rfl rfl ?_
  obtain ⟨hs_3, h⟩ := h
  refine f_getm C tF_X8_33 rfl o42 cn42_4 hs_3.z dX8_readAmount_11 rfl ?_
  refine f_getc C tF_X8_79 rfl hs_3.o hs_3.c0 (Nat.succ_ne_zero _) dX8_readAmount_14 rfl ?_
  refine f_aload_n C (j := 1) dX8_readAmount_17 rfl rfl rfl ?_
  refine f_getm C tF_X8_33 rfl o42 cn42_4 hs_3.z dX8_readAmount_18 rfl ?_
  refine f_geti C tF_X8_66 rfl hs_3.o dX8_readAmount_21 rfl ?_
  refine f_iload_n C (j := 2) dX8_readAmount_24 rfl rfl rfl ?_
  obtain ⟨hi_4, h⟩ := h
  refine f_iast C (j := tn (gi σ_1 (gr σ_1 42 4) 7)) hs_3.a0 hi_4 rfl dX8_readAmount_25 rfl ?_
  refine f_aload_n C (j := 1) dX8_readAmount_26 rfl rfl rfl ?_
  refine f_names (fun σ_5 hσ_6 => ?_)
  replace h := h σ_5 hσ_6
  obtain ⟨hs_7, h⟩ := h
  refine f_getm C tF_X8_33 rfl o42 cn42_4 hs_7.z dX8_readAmount_27 rfl ?_
  refine f_getc C tF_X8_108 rfl hs_7.o hs_7.c3 (Nat.succ_ne_zero _) dX8_readAmount_30 rfl ?_
  refine f_aload_n C (j := 1) dX8_readAmount_33 rfl rfl rfl ?_
  refine f_getm C tF_X8_33 rfl o42 cn42_4 hs_7.z dX8_readAmount_34 rfl ?_
  refine f_geti C tF_X8_66 rfl hs_7.o dX8_readAmount_37 rfl ?_
  refine f_iload_n C (j := 0) dX8_readAmount_40 rfl rfl rfl ?_
  obtain ⟨hi_8, h⟩ := h
  refine f_iast C (j := tn (gi σ_5 (gr σ_5 42 4) 7)) hs_7.a3 hi_8 rfl dX8_readAmount_41 rfl ?_
  refine f_iload_n C (j := 0) dX8_readAmount_42 rfl rfl rfl ?_
  refine f_iconst C (v := (-1)) dX8_readAmount_43 kcm1 rfl ?_
  refine f_icmp_eq C (t := 51) dX8_readAmount_44 (by decide) rfl (fun hq_9 => ?_) (fun hq_9 => ?_)
  · replace h := Eq.mp (if_pos hq_9) h
    refine f_iconst C (v := 0) dX8_readAmount_51 kc0 rfl ?_
    exact f_zret C (Or.inl rfl) dX8_readAmount_52 h
  · replace h := Eq.mp (if_neg hq_9) h
    refine f_iconst C (v := 1) dX8_readAmount_47 kc1 rfl ?_
    refine f_goto C (t := 52) dX8_readAmount_48 (by decide) ?_
    exact f_zret C (Or.inr rfl) dX8_readAmount_52 h
theorem c_X8_readAmount (x1 : Int32) (x2 : Int32) (σ : Sto) (P : Int32 → Sto → Prop) (h : w_X8_readAmount x1 x2 σ P) : Ct yX8_readAmount cX8_readAmount 4 (some .boolean) 3 64 (fun B => [.ref (B + 42), .int x1, .int x2]) σ (QFi P) := Ct.of (by decide) (fun _ => Nat.le_of_ble_eq_true rfl) (fun B E C => s_X8_readAmount C x1 x2 σ h)
def w_X8_readThing (x1 : Int32) (σ : Sto) (P : Int32 → Sto → Prop) : Prop :=
  isCity (gr σ 42 3) ∧ w_X9_passKnown (gr σ 42 3) 0 σ (fun r_3 σ_2 => isStory (gr σ_2 42 4) ∧ vp_in (gi σ_2 (gr σ_2 42 4) 7) 60 ∧ ∀ σ_6 : Sto, σ_6 = si σ_2 ((gr σ_2 42 4) + 1) (tn (gi σ_2 (gr σ_2 42 4) 7)) x1 → isStory (gr σ_6 42 4) ∧ vp_in (gi σ_6 (gr σ_6 42 4) 7) 60 ∧ (if r_3 = (-1) then P 0 (si σ_6 ((gr σ_6 42 4) + 2) (tn (gi σ_6 (gr σ_6 42 4) 7)) r_3) else P 1 (si σ_6 ((gr σ_6 42 4) + 2) (tn (gi σ_6 (gr σ_6 42 4) 7)) r_3)))
theorem s_X8_readThing {B : Nat} {E : Nat → List (Nat × Value) → List Value → Sto → Prop} {P : Int32 → Sto → Prop} (C : Cy B E RX8 cX8_readThing 3 (some .boolean) 3 71 (Zm (QFi P))) (x1 : Int32) (σ : Sto) (h : w_X8_readThing x1 σ P) : E 0 [(0, .ref (B + 42)), (1, .int x1)] [] σ := by
  unfold w_X8_readThing at h
  refine f_aload_n C (j := 0) dX8_readThing_0 rfl rfl rfl ?_
  refine f_getc C tF_X8_9 rfl o42 cs42_0 (by decide) dX8_readThing_1 rfl ?_
  refine f_aload_n C (j := 0) dX8_readThing_4 rfl rfl rfl ?_
  obtain ⟨hc_1, h⟩ := h
  refine f_getm C tF_X8_23 rfl o42 cn42_3 hc_1.z dX8_readThing_5 rfl ?_
  refine f_iconst C (v := 0) dX8_readThing_8 kc0 rfl ?_
  refine f_callVi C (a := 10) (ci := 9) (As := fun B => [.ref (B + (gr σ 42 3)), .int 0]) o10 rfl (c_X9_passKnown  _ _ _ _ h) tM_X8_111 tI_X9_passKnown tS_X9_passKnown tN_X9 tC_X9_passKnown 2 dd_X9_passKnown rfl (by decide) (by decide) rfl (Nat.le_of_ble_eq_true rfl) dX8_readThing_9 rfl (fun r_3 σ_2 h => ?_)
  refine f_istore_n C (lv2 := [(2, .int r_3), (0, .ref (B + 42)), (1, .int x1)]) dX8_readThing_12 rfl (by decide) rfl rfl ?_
  refine f_aload_n C (j := 1) dX8_readThing_13 rfl rfl rfl ?_
  obtain ⟨hs_4, h⟩ := h
  refine f_getm C tF_X8_33 rfl o42 cn42_4 hs_4.z dX8_readThing_14 rfl ?_
  refine f_getc C tF_X8_79 rfl hs_4.o hs_4.c0 (Nat.succ_ne_zero _) dX8_readThing_17 rfl ?_
  refine f_aload_n C (j := 1) dX8_readThing_20 rfl rfl rfl ?_
  refine f_getm C tF_X8_33 rfl o42 cn42_4 hs_4.z dX8_readThing_21 rfl ?_
  refine f_geti C tF_X8_66 rfl hs_4.o dX8_readThing_24 rfl ?_
  refine f_iload_n C (j := 2) dX8_readThing_27 rfl rfl rfl ?_
  obtain ⟨hi_5, h⟩ := h
  refine f_iast C (j := tn (gi σ_2 (gr σ_2 42 4) 7)) hs_4.a0 hi_5 rfl dX8_readThing_28 rfl ?_
  refine f_aload_n C (j := 1) dX8_readThing_29 rfl rfl rfl ?_
  refine f_names (fun σ_6 hσ_7 => ?_)
  replace h := h σ_6 hσ_7
  obtain ⟨hs_8, h⟩ := h
  refine f_getm C tF_X8_33 rfl o42 cn42_4 hs_8.z dX8_readThing_30 rfl ?_
  refine f_getc C tF_X8_115 rfl hs_8.o hs_8.c1 (Nat.succ_ne_zero _) dX8_readThing_33 rfl ?_
  refine f_aload_n C (j := 1) dX8_readThing_36 rfl rfl rfl ?_
  refine f_getm C tF_X8_33 rfl o42 cn42_4 hs_8.z dX8_readThing_37 rfl ?_
  refine f_geti C tF_X8_66 rfl hs_8.o dX8_readThing_40 rfl ?_
  refine f_iload_n C (j := 0) dX8_readThing_43 rfl rfl rfl ?_
  obtain ⟨hi_9, h⟩ := h
  refine f_iast C (j := tn (gi σ_6 (gr σ_6 42 4) 7)) hs_8.a1 hi_9 rfl dX8_readThing_44 rfl ?_
  refine f_iload_n C (j := 0) dX8_readThing_45 rfl rfl rfl ?_
  refine f_iconst C (v := (-1)) dX8_readThing_46 kcm1 rfl ?_
  refine f_icmp_eq C (t := 54) dX8_readThing_47 (by decide) rfl (fun hq_10 => ?_) (fun hq_10 => ?_)
  · replace h := Eq.mp (if_pos hq_10) h
    refine f_iconst C (v := 0) dX8_readThing_54 kc0 rfl ?_
    exact f_zret C (Or.inl rfl) dX8_readThing_55 h
  · replace h := Eq.mp (if_neg hq_10) h
    refine f_iconst C (v := 1) dX8_readThing_50 kc1 rfl ?_
    refine f_goto C (t := 55) dX8_readThing_51 (by decide) ?_
    exact f_zret C (Or.inr rfl) dX8_readThing_55 h
theorem c_X8_readThing (x1 : Int32) (σ : Sto) (P : Int32 → Sto → Prop) (h : w_X8_readThing x1 σ P) : Ct yX8_readThing cX8_readThing 3 (some .boolean) 3 71 (fun B => [.ref (B + 42), .int x1]) σ (QFi P) := Ct.of (by decide) (fun _ => Nat.le_of_ble_eq_true rfl) (fun B E C => s_X8_readThing C x1 σ h)
