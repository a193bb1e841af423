def w_X8_readTest_141 (x2 : Int32) (σ : Sto) (P : Int32 → Sto → Prop) : Prop :=
  (if x2 = (-1) then P 0 σ else P 1 σ)
theorem s_X8_readTest_141 {B : Nat} {E : Nat → List (Nat × Value) → List Value → Sto → Prop} {P : Int32 → Sto → Prop} (C : Cy B E RX8 cX8_readTest 4 (some .boolean) 3 71 (Zm (QFi P))) (x2 : Int32) (σ : Sto) (h : w_X8_readTest_141 x2 σ P) : E 141 [(0, .ref (B + 42)), (2, .int x2)] [] σ := by
  unfold w_X8_readTest_141 at h
  refine f_iload_n C (j := 1) dX8_readTest_141 rfl rfl rfl ?_
  refine f_iconst C (v := (-1)) dX8_readTest_142 kcm1 rfl ?_
  refine f_icmp_eq C (t := 150) dX8_readTest_143 (by decide) rfl (fun hq_24 => ?_) (fun hq_24 => ?_)
  · replace h := Eq.mp (if_pos hq_24) h
    refine f_iconst C (v := 0) dX8_readTest_150 kc0 rfl ?_
    exact f_zret C (Or.inl rfl) dX8_readTest_151 h
  · replace h := Eq.mp (if_neg hq_24) h
    refine f_iconst C (v := 1) dX8_readTest_146 kc1 rfl ?_
    refine f_goto C (t := 151) dX8_readTest_147 (by decide) ?_
    exact f_zret C (Or.inr rfl) dX8_readTest_151 h
def w_X8_readTest_176 (σ : Sto) (P : Int32 → Sto → Prop) : Prop :=
  w_X9_fail 2 σ (fun r_30 σ_29 => (r_30 = 0 ∨ r_30 = 1) ∧ P r_30 σ_29)
theorem s_X8_readTest_176 {B : Nat} {E : Nat → List (Nat × Value) → List Value → Sto → Prop} {P : Int32 → Sto → Prop} (C : Cy B E RX8 cX8_readTest 4 (some .boolean) 3 71 (Zm (QFi P))) (σ : Sto) (h : w_X8_readTest_176 σ P) : E 176 [(0, .ref (B + 42))] [] σ := by
  unfold w_X8_readTest_176 at h
  refine f_aload_n C (j := 0) dX8_readTest_176 rfl rfl rfl ?_
  refine f_getc C tF_X8_9 rfl o42 cs42_0 (by decide) dX8_readTest_177 rfl ?_
  refine f_iconst C (v := 2) dX8_readTest_180 kc2 rfl ?_
  refine f_callVi C (a := 10) (ci := 9) (As := fun B => [.int 2]) o10 rfl (c_X9_fail  _ _ _ h) tM_X8_69 tI_X9_fail tS_X9_fail tN_X9 tC_X9_fail 1 dd_X9_fail rfl (by decide) (by decide) rfl (Nat.le_of_ble_eq_true rfl) dX8_readTest_181 rfl (fun r_30 σ_29 h => ?_)
  obtain ⟨hb_31, h⟩ := h
  exact f_zret C hb_31 dX8_readTest_184 h
def w_X8_readTest_94 (x1 : Int32) (z0 : Int32) (b1 : Nat) (σ : Sto) (P : Int32 → Sto → Prop) : Prop :=
  w_X9_passKnown b1 z0 σ (fun r_16 σ_15 => isStory (gr σ_15 42 4) ∧ vp_in (gi σ_15 (gr σ_15 42 4) 7) 60 ∧ ∀ σ_19 : Sto, σ_19 = si σ_15 ((gr σ_15 42 4) + 1) (tn (gi σ_15 (gr σ_15 42 4) 7)) x1 → isStory (gr σ_19 42 4) ∧ vp_in (gi σ_19 (gr σ_19 42 4) 7) 60 ∧ (if r_16 = (-1) then w_X8_readTest_141 r_16 (si σ_19 ((gr σ_19 42 4) + 2) (tn (gi σ_19 (gr σ_19 42 4) 7)) r_16) P else (if x1 = 9 then ∀ σ_26 : Sto, σ_26 = si σ_19 ((gr σ_19 42 4) + 2) (tn (gi σ_19 (gr σ_19 42 4) 7)) r_16 → (if (gi σ_26 10 5) = 6 then w_X9_isSign 59 σ_26 (fun r_33 σ_32 => (if r_33 = 0 then isStory (gr σ_32 42 4) ∧ vp_in (gi σ_32 (gr σ_32 42 4) 7) 60 ∧ w_X9_advance (si σ_32 ((gr σ_32 42 4) + 3) (tn (gi σ_32 (gr σ_32 42 4) 7)) (gi σ_32 10 7)) (fun σ_37 => w_X9_passNumber 0 99 σ_37 (fun r_40 σ_39 => isStory (gr σ_39 42 4) ∧ vp_in (gi σ_39 (gr σ_39 42 4) 7) 60 ∧ (if r_40 = (-1) then P 0 (si σ_39 ((gr σ_39 42 4) + 4) (tn (gi σ_39 (gr σ_39 42 4) 7)) r_40) else P 1 (si σ_39 ((gr σ_39 42 4) + 4) (tn (gi σ_39 (gr σ_39 42 4) 7)) r_40)))) else w_X8_readTest_176 σ_32 P)) else w_X8_readTest_176 σ_26 P) else w_X8_readTest_141 r_16 (si σ_19 ((gr σ_19 42 4) + 2) (tn (gi σ_19 (gr σ_19 42 4) 7)) r_16) P)))
theorem s_X8_readTest_94 {B : Nat} {E : Nat → List (Nat × Value) → List Value → Sto → Prop} {P : Int32 → Sto → Prop} (C : Cy B E RX8 cX8_readTest 4 (some .boolean) 3 71 (Zm (QFi P))) (x1 : Int32) (z0 : Int32) (b1 : Nat) (σ : Sto) (h : w_X8_readTest_94 x1 z0 b1 σ P) : E 94 [(0, .ref (B + 42)), (1, .int x1)] [.int z0, .ref (B + b1), .ref (B + 10)] σ := by
  unfold w_X8_readTest_94 at h
  refine f_callVi C (a := 10) (ci := 9) (As := fun B => [.ref (B + b1), .int z0]) o10 rfl (c_X9_passKnown  _ _ _ _ h) tM_X8_111 tI_X9_passKnown tS_X9_passKnown tN_X9 tC_X9_passKnown 2 dd_X9_passKnown rfl (by decide) (by decide) rfl (Nat.le_of_ble_eq_true rfl) dX8_readTest_94 rfl (fun r_16 σ_15 h => ?_)
  refine f_istore_n C (lv2 := [(2, .int r_16), (0, .ref (B + 42)), (1, .int x1)]) dX8_readTest_97 rfl (by decide) rfl rfl ?_
  refine f_aload_n C (j := 1) dX8_readTest_98 rfl rfl rfl ?_
  obtain ⟨hs_17, h⟩ := h
  refine f_getm C tF_X8_33 rfl o42 cn42_4 hs_17.z dX8_readTest_99 rfl ?_
  refine f_getc C tF_X8_79 rfl hs_17.o hs_17.c0 (Nat.succ_ne_zero _) dX8_readTest_102 rfl ?_
  refine f_aload_n C (j := 1) dX8_readTest_105 rfl rfl rfl ?_
  refine f_getm C tF_X8_33 rfl o42 cn42_4 hs_17.z dX8_readTest_106 rfl ?_
  refine f_geti C tF_X8_66 rfl hs_17.o dX8_readTest_109 rfl ?_
  refine f_iload_n C (j := 2) dX8_readTest_112 rfl rfl rfl ?_
  obtain ⟨hi_18, h⟩ := h
  refine f_iast C (j := tn (gi σ_15 (gr σ_15 42 4) 7)) hs_17.a0 hi_18 rfl dX8_readTest_113 rfl ?_
  refine f_aload_n C (j := 1) dX8_readTest_114 rfl rfl rfl ?_
  refine f_names (fun σ_19 hσ_20 => ?_)
  replace h := h σ_19 hσ_20
  obtain ⟨hs_21, h⟩ := h
  refine f_getm C tF_X8_33 rfl o42 cn42_4 hs_21.z dX8_readTest_115 rfl ?_
  refine f_getc C tF_X8_115 rfl hs_21.o hs_21.c1 (Nat.succ_ne_zero _) dX8_readTest_118 rfl ?_
  refine f_aload_n C (j := 1) dX8_readTest_121 rfl rfl rfl ?_
  refine f_getm C tF_X8_33 rfl o42 cn42_4 hs_21.z dX8_readTest_122 rfl ?_
  refine f_geti C tF_X8_66 rfl hs_21.o dX8_readTest_125 rfl ?_
  refine f_iload_n C (j := 0) dX8_readTest_128 rfl rfl rfl ?_
  obtain ⟨hi_22, h⟩ := h
  refine f_iast C (j := tn (gi σ_19 (gr σ_19 42 4) 7)) hs_21.a1 hi_22 rfl dX8_readTest_129 rfl ?_
  refine f_iload_n C (j := 0) dX8_readTest_130 rfl rfl rfl ?_
  refine f_iconst C (v := (-1)) dX8_readTest_131 kcm1 rfl ?_
  refine f_icmp_eq C (t := 141) dX8_readTest_132 (by decide) rfl (fun hq_23 => ?_) (fun hq_23 => ?_)
  · replace h := Eq.mp (if_pos hq_23) h
    refine f_lv C (lv2 := [(0, .ref (B + 42)), (2, .int r_16)]) [1, 0] rfl ?_
    exact s_X8_readTest_141 C _  _ h
  · replace h := Eq.mp (if_neg hq_23) h
    refine f_iload_n C (j := 2) dX8_readTest_135 rfl rfl rfl ?_
    refine f_bipush C (v := 9) dX8_readTest_136 kb9 rfl ?_
    refine f_icmp_eq C (t := 152) dX8_readTest_138 (by decide) rfl (fun hq_25 => ?_) (fun hq_25 => ?_)
    · replace h := Eq.mp (if_pos hq_25) h
      refine f_aload_n C (j := 1) dX8_readTest_152 rfl rfl rfl ?_
      refine f_getc C tF_X8_9 rfl o42 cs42_0 (by decide) dX8_readTest_153 rfl ?_
      refine f_names (fun σ_26 hσ_27 => ?_)
      replace h := h σ_26 hσ_27
      refine f_geti C tF_X8_45 rfl o10 dX8_readTest_156 rfl ?_
      refine f_bipush C (v := 6) dX8_readTest_159 kb6 rfl ?_
      refine f_icmp_ne C (t := 176) dX8_readTest_161 (by decide) rfl (fun hq_28 => ?_) (fun hq_28 => ?_)
      · replace h := Eq.mp (if_neg hq_28) h
        refine f_lv C (lv2 := [(0, .ref (B + 42))]) [1] rfl ?_
        exact s_X8_readTest_176 C  _ h
      · replace h := Eq.mp (if_pos hq_28) h
        refine f_aload_n C (j := 1) dX8_readTest_164 rfl rfl rfl ?_
        refine f_getc C tF_X8_9 rfl o42 cs42_0 (by decide) dX8_readTest_165 rfl ?_
        refine f_bipush C (v := 59) dX8_readTest_168 kb59 rfl ?_
        refine f_callVi C (a := 10) (ci := 9) (As := fun B => [.int 59]) o10 rfl (c_X9_isSign  _ _ _ h) tM_X8_118 tI_X9_isSign tS_X9_isSign tN_X9 tC_X9_isSign 1 dd_X9_isSign rfl (by decide) (by decide) rfl (Nat.le_of_ble_eq_true rfl) dX8_readTest_170 rfl (fun r_33 σ_32 h => ?_)
        refine f_if_eq C (t := 185) dX8_readTest_173 (by decide) rfl (fun hq_34 => ?_) (fun hq_34 => ?_)
        · replace h := Eq.mp (if_pos hq_34) h
          refine f_aload_n C (j := 1) dX8_readTest_185 rfl rfl rfl ?_
          obtain ⟨hs_35, h⟩ := h
          refine f_getm C tF_X8_33 rfl o42 cn42_4 hs_35.z dX8_readTest_186 rfl ?_
          refine f_getc C tF_X8_121 rfl hs_35.o hs_35.c2 (Nat.succ_ne_zero _) dX8_readTest_189 rfl ?_
          refine f_aload_n C (j := 1) dX8_readTest_192 rfl rfl rfl ?_
          refine f_getm C tF_X8_33 rfl o42 cn42_4 hs_35.z dX8_readTest_193 rfl ?_
          refine f_geti C tF_X8_66 rfl hs_35.o dX8_readTest_196 rfl ?_
          refine f_aload_n C (j := 1) dX8_readTest_199 rfl rfl rfl ?_
          refine f_getc C tF_X8_9 rfl o42 cs42_0 (by decide) dX8_readTest_200 rfl ?_
          refine f_geti C tF_X8_91 rfl o10 dX8_readTest_203 rfl ?_
          obtain ⟨hi_36, h⟩ := h
          refine f_iast C (j := tn (gi σ_32 (gr σ_32 42 4) 7)) hs_35.a2 hi_36 rfl dX8_readTest_206 rfl ?_
          refine f_aload_n C (j := 1) dX8_readTest_207 rfl rfl rfl ?_
          refine f_getc C tF_X8_9 rfl o42 cs42_0 (by decide) dX8_readTest_208 rfl ?_
          refine f_callVv C (a := 10) (ci := 9) (As := fun B => []) o10 rfl (c_X9_advance   _ _ h) tM_X8_76 tI_X9_advance tS_X9_advance tN_X9 tC_X9_advance 0 dd_X9_advance rfl (by decide) (by decide) rfl (Nat.le_of_ble_eq_true rfl) dX8_readTest_211 rfl (fun σ_37 h => ?_)
          refine f_aload_n C (j := 1) dX8_readTest_214 rfl rfl rfl ?_
          refine f_getc C tF_X8_9 rfl o42 cs42_0 (by decide) dX8_readTest_215 rfl ?_
          refine f_iconst C (v := 0) dX8_readTest_218 kc0 rfl ?_
          refine f_bipush C (v := 99) dX8_readTest_219 kb99 rfl ?_
          refine f_callVi C (a := 10) (ci := 9) (As := fun B => [.int 0, .int 99]) o10 rfl (c_X9_passNumber  _ _ _ _ h) tM_X8_104 tI_X9_passNumber tS_X9_passNumber tN_X9 tC_X9_passNumber 2 dd_X9_passNumber rfl (by decide) (by decide) rfl (Nat.le_of_ble_eq_true rfl) dX8_readTest_221 rfl (fun r_40 σ_39 h => ?_)
          refine f_istore_n C (lv2 := [(3, .int r_40), (2, .int r_16), (0, .ref (B + 42)), (1, .int x1)]) dX8_readTest_224 rfl (by decide) rfl rfl ?_
          refine f_aload_n C (j := 2) dX8_readTest_225 rfl rfl rfl ?_
          obtain ⟨hs_41, h⟩ := h
          refine f_getm C tF_X8_33 rfl o42 cn42_4 hs_41.z dX8_readTest_226 rfl ?_
          refine f_getc C tF_X8_108 rfl hs_41.o hs_41.c3 (Nat.succ_ne_zero _) dX8_readTest_229 rfl ?_
          refine f_aload_n C (j := 2) dX8_readTest_232 rfl rfl rfl ?_
          refine f_getm C tF_X8_33 rfl o42 cn42_4 hs_41.z dX8_readTest_233 rfl ?_
          refine f_geti C tF_X8_66 rfl hs_41.o dX8_readTest_236 rfl ?_
          refine f_iload_n C (j := 0) dX8_readTest_239 rfl rfl rfl ?_
          obtain ⟨hi_42, h⟩ := h
          refine f_iast C (j := tn (gi σ_39 (gr σ_39 42 4) 7)) hs_41.a3 hi_42 rfl dX8_readTest_240 rfl ?_
          refine f_iload_n C (j := 0) dX8_readTest_241 rfl rfl rfl ?_
          refine f_iconst C (v := (-1)) dX8_readTest_242 kcm1 rfl ?_
          refine f_icmp_eq C (t := 250) dX8_readTest_243 (by decide) rfl (fun hq_43 => ?_) (fun hq_43 => ?_)
          · replace h := Eq.mp (if_pos hq_43) h
            refine f_iconst C (v := 0) dX8_readTest_250 kc0 rfl ?_
            exact f_zret C (Or.inl rfl) dX8_readTest_251 h
          · replace h := Eq.mp (if_neg hq_43) h
            refine f_iconst C (v := 1) dX8_readTest_246 kc1 rfl ?_
            refine f_goto C (t := 251) dX8_readTest_247 (by decide) ?_
            exact f_zret C (Or.inr rfl) dX8_readTest_251 h
        · replace h := Eq.mp (if_neg hq_34) h
          refine f_lv C (lv2 := [(0, .ref (B + 42))]) [1] rfl ?_
          exact s_X8_readTest_176 C  _ h
    · replace h := Eq.mp (if_neg hq_25) h
      refine f_lv C (lv2 := [(0, .ref (B + 42)), (2, .int r_16)]) [1, 0] rfl ?_
      exact s_X8_readTest_141 C _  _ h
def w_X8_readTest_52 (z0 : Int32) (σ : Sto) (P : Int32 → Sto → Prop) : Prop :=
  (if z0 = (-1) then w_X9_fail 2 σ (fun r_45 σ_44 => (r_45 = 0 ∨ r_45 = 1) ∧ P r_45 σ_44) else w_X9_advance σ (fun σ_11 => isCity (gr σ_11 42 3) ∧ (if z0 = 8 then w_X8_readTest_94 z0 12 (gr σ_11 42 3) σ_11 P else w_X8_readTest_94 z0 0 (gr σ_11 42 3) σ_11 P)))
theorem s_X8_readTest_52 {B : Nat} {E : Nat → List (Nat × Value) → List Value → Sto → Prop} {P : Int32 → Sto → Prop} (C : Cy B E RX8 cX8_readTest 4 (some .boolean) 3 71 (Zm (QFi P))) (z0 : Int32) (σ : Sto) (h : w_X8_readTest_52 z0 σ P) : E 52 [(0, .ref (B + 42))] [.int z0] σ := by
  unfold w_X8_readTest_52 at h
  refine f_istore_n C (lv2 := [(1, .int z0), (0, .ref (B + 42))]) dX8_readTest_52 rfl (by decide) rfl rfl ?_
  refine f_iload_n C (j := 0) dX8_readTest_53 rfl rfl rfl ?_
  refine f_iconst C (v := (-1)) dX8_readTest_54 kcm1 rfl ?_
  refine f_icmp_ne C (t := 67) dX8_readTest_55 (by decide) rfl (fun hq_10 => ?_) (fun hq_10 => ?_)
  · replace h := Eq.mp (if_neg hq_10) h
    refine f_aload_n C (j := 1) dX8_readTest_67 rfl rfl rfl ?_
    refine f_getc C tF_X8_9 rfl o42 cs42_0 (by decide) dX8_readTest_68 rfl ?_
    refine f_callVv C (a := 10) (ci := 9) (As := fun B => []) o10 rfl (c_X9_advance   _ _ h) tM_X8_76 tI_X9_advance tS_X9_advance tN_X9 tC_X9_advance 0 dd_X9_advance rfl (by decide) (by decide) rfl (Nat.le_of_ble_eq_true rfl) dX8_readTest_71 rfl (fun σ_11 h => ?_)
    refine f_aload_n C (j := 1) dX8_readTest_74 rfl rfl rfl ?_
    refine f_getc C tF_X8_9 rfl o42 cs42_0 (by decide) dX8_readTest_75 rfl ?_
    refine f_aload_n C (j := 1) dX8_readTest_78 rfl rfl rfl ?_
    obtain ⟨hc_13, h⟩ := h
    refine f_getm C tF_X8_23 rfl o42 cn42_3 hc_13.z dX8_readTest_79 rfl ?_
    refine f_iload_n C (j := 0) dX8_readTest_82 rfl rfl rfl ?_
    refine f_bipush C (v := 8) dX8_readTest_83 kb8 rfl ?_
    refine f_icmp_ne C (t := 93) dX8_readTest_85 (by decide) rfl (fun hq_14 => ?_) (fun hq_14 => ?_)
    · replace h := Eq.mp (if_neg hq_14) h
      refine f_iconst C (v := 0) dX8_readTest_93 kc0 rfl ?_
      refine f_lv C (lv2 := [(0, .ref (B + 42)), (1, .int z0)]) [1, 0] rfl ?_
      exact s_X8_readTest_94 C _ _ _  _ h
    · replace h := Eq.mp (if_pos hq_14) h
      refine f_bipush C (v := 12) dX8_readTest_88 kb12 rfl ?_
      refine f_goto C (t := 94) dX8_readTest_90 (by decide) ?_
      refine f_lv C (lv2 := [(0, .ref (B + 42)), (1, .int z0)]) [1, 0] rfl ?_
      exact s_X8_readTest_94 C _ _ _  _ h
  · replace h := Eq.mp (if_pos hq_10) h
    refine f_aload_n C (j := 1) dX8_readTest_58 rfl rfl rfl ?_
    refine f_getc C tF_X8_9 rfl o42 cs42_0 (by decide) dX8_readTest_59 rfl ?_
    refine f_iconst C (v := 2) dX8_readTest_62 kc2 rfl ?_
    refine f_callVi C (a := 10) (ci := 9) (As := fun B => [.int 2]) o10 rfl (c_X9_fail  _ _ _ h) tM_X8_69 tI_X9_fail tS_X9_fail tN_X9 tC_X9_fail 1 dd_X9_fail rfl (by decide) (by decide) rfl (Nat.le_of_ble_eq_true rfl) dX8_readTest_63 rfl (fun r_45 σ_44 h => ?_)
    obtain ⟨hb_46, h⟩ := h
    exact f_zret C hb_46 dX8_readTest_66 h
def w_X8_readTest (σ : Sto) (P : Int32 → Sto → Prop) : Prop :=
  w_X9_isKeyword 17 σ (fun r_2 σ_1 => (if r_2 = 0 then w_X9_isKeyword 18 σ_1 (fun r_5 σ_4 => (if r_5 = 0 then w_X9_isKeyword 19 σ_4 (fun r_8 σ_7 => (if r_8 = 0 then w_X8_readTest_52 (-1) σ_7 P else w_X8_readTest_52 9 σ_7 P)) else w_X8_readTest_52 8 σ_4 P)) else w_X8_readTest_52 7 σ_1 P))
theorem s_X8_readTest {B : Nat} {E : Nat → List (Nat × Value) → List Value → Sto → Prop} {P : Int32 → Sto → Prop} (C : Cy B E RX8 cX8_readTest 4 (some .boolean) 3 71 (Zm (QFi P))) (σ : Sto) (h : w_X8_readTest σ P) : E 0 [(0, .ref (B + 42))] [] σ := by
  unfold w_X8_readTest at h
  refine f_aload_n C (j := 0) dX8_readTest_0 rfl rfl rfl ?_
  refine f_getc C tF_X8_9 rfl o42 cs42_0 (by decide) dX8_readTest_1 rfl ?_
  refine f_bipush C (v := 17) dX8_readTest_4 kb17 rfl ?_
  refine f_callVi C (a := 10) (ci := 9) (As := fun B => [.int 17]) o10 rfl (c_X9_isKeyword  _ _ _ h) tM_X8_48 tI_X9_isKeyword tS_X9_isKeyword tN_X9 tC_X9_isKeyword 1 dd_X9_isKeyword rfl (by decide) (by decide) rfl (Nat.le_of_ble_eq_true rfl) dX8_readTest_6 rfl (fun r_2 σ_1 h => ?_)
  refine f_if_eq C (t := 17) dX8_readTest_9 (by decide) rfl (fun hq_3 => ?_) (fun hq_3 => ?_)
  · replace h := Eq.mp (if_pos hq_3) h
    refine f_aload_n C (j := 0) dX8_readTest_17 rfl rfl rfl ?_
    refine f_getc C tF_X8_9 rfl o42 cs42_0 (by decide) dX8_readTest_18 rfl ?_
    refine f_bipush C (v := 18) dX8_readTest_21 kb18 rfl ?_
    refine f_callVi C (a := 10) (ci := 9) (As := fun B => [.int 18]) o10 rfl (c_X9_isKeyword  _ _ _ h) tM_X8_48 tI_X9_isKeyword tS_X9_isKeyword tN_X9 tC_X9_isKeyword 1 dd_X9_isKeyword rfl (by decide) (by decide) rfl (Nat.le_of_ble_eq_true rfl) dX8_readTest_23 rfl (fun r_5 σ_4 h => ?_)
    refine f_if_eq C (t := 34) dX8_readTest_26 (by decide) rfl (fun hq_6 => ?_) (fun hq_6 => ?_)
    · replace h := Eq.mp (if_pos hq_6) h
      refine f_aload_n C (j := 0) dX8_readTest_34 rfl rfl rfl ?_
      refine f_getc C tF_X8_9 rfl o42 cs42_0 (by decide) dX8_readTest_35 rfl ?_
      refine f_bipush C (v := 19) dX8_readTest_38 kb19 rfl ?_
      refine f_callVi C (a := 10) (ci := 9) (As := fun B => [.int 19]) o10 rfl (c_X9_isKeyword  _ _ _ h) tM_X8_48 tI_X9_isKeyword tS_X9_isKeyword tN_X9 tC_X9_isKeyword 1 dd_X9_isKeyword rfl (by decide) (by decide) rfl (Nat.le_of_ble_eq_true rfl) dX8_readTest_40 rfl (fun r_8 σ_7 h => ?_)
      refine f_if_eq C (t := 51) dX8_readTest_43 (by decide) rfl (fun hq_9 => ?_) (fun hq_9 => ?_)
      · replace h := Eq.mp (if_pos hq_9) h
        refine f_iconst C (v := (-1)) dX8_readTest_51 kcm1 rfl ?_
        exact s_X8_readTest_52 C _  _ h
      · replace h := Eq.mp (if_neg hq_9) h
        refine f_bipush C (v := 9) dX8_readTest_46 kb9 rfl ?_
        refine f_goto C (t := 52) dX8_readTest_48 (by decide) ?_
        exact s_X8_readTest_52 C _  _ h
    · replace h := Eq.mp (if_neg hq_6) h
      refine f_bipush C (v := 8) dX8_readTest_29 kb8 rfl ?_
      refine f_goto C (t := 52) dX8_readTest_31 (by decide) ?_
      exact s_X8_readTest_52 C _  _ h
  · replace h := Eq.mp (if_neg hq_3) h
    refine f_bipush C (v := 7) dX8_readTest_12 kb7 rfl ?_
    refine f_goto C (t := 52) dX8_readTest_14 (by decide) ?_
    exact s_X8_readTest_52 C _  _ h
theorem c_X8_readTest (σ : Sto) (P : Int32 → Sto → Prop) (h : w_X8_readTest σ P) : Ct yX8_readTest cX8_readTest 4 (some .boolean) 3 71 (fun B => [.ref (B + 42)]) σ (QFi P) := Ct.of (by decide) (fun _ => Nat.le_of_ble_eq_true rfl) (fun B E C => s_X8_readTest C σ h)
def w_X8_readStep (σ : Sto) (P : Int32 → Sto → Prop) : Prop :=
  ∀ x1_1 : Int32, x1_1 = gi σ 10 7 → w_X9_advance σ (fun σ_3 => ∀ sw_5 : Int32, sw_5 = x1_1 → (if sw_5 = 11 then w_X8_readAmount 0 9 σ_3 (fun r_7 σ_6 => (r_7 = 0 ∨ r_7 = 1) ∧ P r_7 σ_6) else (if sw_5 = 12 then w_X8_readThing 1 σ_3 (fun r_11 σ_10 => (r_11 = 0 ∨ r_11 = 1) ∧ P r_11 σ_10) else (if sw_5 = 13 then w_X8_readThing 2 σ_3 (fun r_15 σ_14 => (r_15 = 0 ∨ r_15 = 1) ∧ P r_15 σ_14) else (if sw_5 = 14 then w_X8_readThing 3 σ_3 (fun r_19 σ_18 => (r_19 = 0 ∨ r_19 = 1) ∧ P r_19 σ_18) else (if sw_5 = 15 then isStory (gr σ_3 42 4) ∧ (if x1_1 = 15 then vp_in (gi σ_3 (gr σ_3 42 4) 7) 60 ∧ P 1 (si σ_3 ((gr σ_3 42 4) + 1) (tn (gi σ_3 (gr σ_3 42 4) 7)) 4) else vp_in (gi σ_3 (gr σ_3 42 4) 7) 60 ∧ P 1 (si σ_3 ((gr σ_3 42 4) + 1) (tn (gi σ_3 (gr σ_3 42 4) 7)) 5)) else (if sw_5 = 16 then w_X8_readTest σ_3 (fun r_28 σ_27 => (r_28 = 0 ∨ r_28 = 1) ∧ P r_28 σ_27) else (if sw_5 = 17 then isStory (gr σ_3 42 4) ∧ (if x1_1 = 15 then vp_in (gi σ_3 (gr σ_3 42 4) 7) 60 ∧ P 1 (si σ_3 ((gr σ_3 42 4) + 1) (tn (gi σ_3 (gr σ_3 42 4) 7)) 4) else vp_in (gi σ_3 (gr σ_3 42 4) 7) 60 ∧ P 1 (si σ_3 ((gr σ_3 42 4) + 1) (tn (gi σ_3 (gr σ_3 42 4) 7)) 5)) else (if sw_5 = 18 then isStory (gr σ_3 42 4) ∧ (if x1_1 = 15 then vp_in (gi σ_3 (gr σ_3 42 4) 7) 60 ∧ P 1 (si σ_3 ((gr σ_3 42 4) + 1) (tn (gi σ_3 (gr σ_3 42 4) 7)) 4) else vp_in (gi σ_3 (gr σ_3 42 4) 7) 60 ∧ P 1 (si σ_3 ((gr σ_3 42 4) + 1) (tn (gi σ_3 (gr σ_3 42 4) 7)) 5)) else (if sw_5 = 19 then isStory (gr σ_3 42 4) ∧ (if x1_1 = 15 then vp_in (gi σ_3 (gr σ_3 42 4) 7) 60 ∧ P 1 (si σ_3 ((gr σ_3 42 4) + 1) (tn (gi σ_3 (gr σ_3 42 4) 7)) 4) else vp_in (gi σ_3 (gr σ_3 42 4) 7) 60 ∧ P 1 (si σ_3 ((gr σ_3 42 4) + 1) (tn (gi σ_3 (gr σ_3 42 4) 7)) 5)) else (if sw_5 = 20 then w_X8_readAmount 6 99 σ_3 (fun r_47 σ_46 => (r_47 = 0 ∨ r_47 = 1) ∧ P r_47 σ_46) else isStory (gr σ_3 42 4) ∧ (if x1_1 = 15 then vp_in (gi σ_3 (gr σ_3 42 4) 7) 60 ∧ P 1 (si σ_3 ((gr σ_3 42 4) + 1) (tn (gi σ_3 (gr σ_3 42 4) 7)) 4) else vp_in (gi σ_3 (gr σ_3 42 4) 7) 60 ∧ P 1 (si σ_3 ((gr σ_3 42 4) + 1) (tn (gi σ_3 (gr σ_3 42 4) 7)) 5)))))))))))))
theorem s_X8_readStep {B : Nat} {E : Nat → List (Nat × Value) → List Value → Sto → Prop} {P : Int32 → Sto → Prop} (C : Cy B E RX8 cX8_readStep 2 (some .boolean) 4 94 (Zm (QFi P))) (σ : Sto) (h : w_X8_readStep σ P) : E 0 [(0, .ref (B + 42))] [] σ := by
  unfold w_X8_readStep at h
  refine f_aload_n C (j := 0) dX8_readStep_0 rfl rfl rfl ?_
  refine f_getc C tF_X8_9 rfl o42 cs42_0 (by decide) dX8_readStep_1 rfl ?_
  refine f_geti C tF_X8_91 rfl o10 dX8_readStep_4 rfl ?_
  refine f_name (fun x1_1 hx_2 => ?_)
  replace h := h x1_1 hx_2
  refine f_istore_n C (lv2 := [(1, .int x1_1), (0, .ref (B + 42))]) dX8_readStep_7 rfl (by decide) rfl rfl ?_
  refine f_aload_n C (j := 1) dX8_readStep_8 rfl rfl rfl ?_
  refine f_getc C tF_X8_9 rfl o42 cs42_0 (by decide) dX8_readStep_9 rfl ?_
  refine f_callVv C (a := 10) (ci := 9) (As := fun B => []) o10 rfl (c_X9_advance   _ _ h) tM_X8_76 tI_X9_advance tS_X9_advance tN_X9 tC_X9_advance 0 dd_X9_advance rfl (by decide) (by decide) rfl (Nat.le_of_ble_eq_true rfl) dX8_readStep_12 rfl (fun σ_3 h => ?_)
  refine f_iload_n C (j := 0) dX8_readStep_15 rfl rfl rfl ?_
  refine f_name (fun sw_5 hsw_5 => ?_)
  replace h := h sw_5 hsw_5
  by_cases hq_9 : sw_5 = 11
  · replace h := Eq.mp (if_pos hq_9) h
    refine f_tableIn C (off := 56) (t := 72) dX8_readStep_16 (by rw [hq_9]; decide) (by rw [hq_9]; decide) (by rw [hq_9]; rfl) (by decide) ?_
    refine f_aload_n C (j := 1) dX8_readStep_72 rfl rfl rfl ?_
    refine f_iconst C (v := 0) dX8_readStep_73 kc0 rfl ?_
    refine f_bipush C (v := 9) dX8_readStep_74 kb9 rfl ?_
    refine f_callVi C (a := 42) (ci := 8) (As := fun B => [.int 0, .int 9]) o42 rfl (c_X8_readAmount  _ _ _ _ h) tM_X8_94 tI_X8_readAmount tS_X8_readAmount tN_X8 tC_X8_readAmount 2 dd_X8_readAmount rfl (by decide) (by decide) rfl (Nat.le_of_ble_eq_true rfl) dX8_readStep_76 rfl (fun r_7 σ_6 h => ?_)
    obtain ⟨hb_8, h⟩ := h
    exact f_zret C hb_8 dX8_readStep_79 h
  replace h := Eq.mp (if_neg hq_9) h
  by_cases hq_13 : sw_5 = 12
  · replace h := Eq.mp (if_pos hq_13) h
    refine f_tableIn C (off := 64) (t := 80) dX8_readStep_16 (by rw [hq_13]; decide) (by rw [hq_13]; decide) (by rw [hq_13]; rfl) (by decide) ?_
    refine f_aload_n C (j := 1) dX8_readStep_80 rfl rfl rfl ?_
    refine f_iconst C (v := 1) dX8_readStep_81 kc1 rfl ?_
    refine f_callVi C (a := 42) (ci := 8) (As := fun B => [.int 1]) o42 rfl (c_X8_readThing  _ _ _ h) tM_X8_98 tI_X8_readThing tS_X8_readThing tN_X8 tC_X8_readThing 1 dd_X8_readThing rfl (by decide) (by decide) rfl (Nat.le_of_ble_eq_true rfl) dX8_readStep_82 rfl (fun r_11 σ_10 h => ?_)
    obtain ⟨hb_12, h⟩ := h
    exact f_zret C hb_12 dX8_readStep_85 h
  replace h := Eq.mp (if_neg hq_13) h
  by_cases hq_17 : sw_5 = 13
  · replace h := Eq.mp (if_pos hq_17) h
    refine f_tableIn C (off := 70) (t := 86) dX8_readStep_16 (by rw [hq_17]; decide) (by rw [hq_17]; decide) (by rw [hq_17]; rfl) (by decide) ?_
    refine f_aload_n C (j := 1) dX8_readStep_86 rfl rfl rfl ?_
    refine f_iconst C (v := 2) dX8_readStep_87 kc2 rfl ?_
    refine f_callVi C (a := 42) (ci := 8) (As := fun B => [.int 2]) o42 rfl (c_X8_readThing  _ _ _ h) tM_X8_98 tI_X8_readThing tS_X8_readThing tN_X8 tC_X8_readThing 1 dd_X8_readThing rfl (by decide) (by decide) rfl (Nat.le_of_ble_eq_true rfl) dX8_readStep_88 rfl (fun r_15 σ_14 h => ?_)
    obtain ⟨hb_16, h⟩ := h
    exact f_zret C hb_16 dX8_readStep_91 h
  replace h := Eq.mp (if_neg hq_17) h
  by_cases hq_21 : sw_5 = 14
  · replace h := Eq.mp (if_pos hq_21) h
    refine f_tableIn C (off := 76) (t := 92) dX8_readStep_16 (by rw [hq_21]; decide) (by rw [hq_21]; decide) (by rw [hq_21]; rfl) (by decide) ?_
    refine f_aload_n C (j := 1) dX8_readStep_92 rfl rfl rfl ?_
    refine f_iconst C (v := 3) dX8_readStep_93 kc3 rfl ?_
    refine f_callVi C (a := 42) (ci := 8) (As := fun B => [.int 3]) o42 rfl (c_X8_readThing  _ _ _ h) tM_X8_98 tI_X8_readThing tS_X8_readThing tN_X8 tC_X8_readThing 1 dd_X8_readThing rfl (by decide) (by decide) rfl (Nat.le_of_ble_eq_true rfl) dX8_readStep_94 rfl (fun r_19 σ_18 h => ?_)
    obtain ⟨hb_20, h⟩ := h
    exact f_zret C hb_20 dX8_readStep_97 h
  replace h := Eq.mp (if_neg hq_21) h
  by_cases hq_26 : sw_5 = 15
  · replace h := Eq.mp (if_pos hq_26) h
    refine f_tableIn C (off := 96) (t := 112) dX8_readStep_16 (by rw [hq_26]; decide) (by rw [hq_26]; decide) (by rw [hq_26]; rfl) (by decide) ?_
    refine f_aload_n C (j := 1) dX8_readStep_112 rfl rfl rfl ?_
    obtain ⟨hs_22, h⟩ := h
    refine f_getm C tF_X8_33 rfl o42 cn42_4 hs_22.z dX8_readStep_113 rfl ?_
    refine f_getc C tF_X8_79 rfl hs_22.o hs_22.c0 (Nat.succ_ne_zero _) dX8_readStep_116 rfl ?_
    refine f_aload_n C (j := 1) dX8_readStep_119 rfl rfl rfl ?_
    refine f_getm C tF_X8_33 rfl o42 cn42_4 hs_22.z dX8_readStep_120 rfl ?_
    refine f_geti C tF_X8_66 rfl hs_22.o dX8_readStep_123 rfl ?_
    refine f_iload_n C (j := 0) dX8_readStep_126 rfl rfl rfl ?_
    refine f_bipush C (v := 15) dX8_readStep_127 kb15 rfl ?_
    refine f_icmp_ne C (t := 136) dX8_readStep_129 (by decide) rfl (fun hq_23 => ?_) (fun hq_23 => ?_)
    · replace h := Eq.mp (if_neg hq_23) h
      refine f_iconst C (v := 5) dX8_readStep_136 kc5 rfl ?_
      obtain ⟨hi_24, h⟩ := h
      refine f_iast C (j := tn (gi σ_3 (gr σ_3 42 4) 7)) hs_22.a0 hi_24 rfl dX8_readStep_137 rfl ?_
      refine f_iconst C (v := 1) dX8_readStep_138 kc1 rfl ?_
      exact f_zret C (Or.inr rfl) dX8_readStep_139 h
    · replace h := Eq.mp (if_pos hq_23) h
      refine f_iconst C (v := 4) dX8_readStep_132 kc4 rfl ?_
      refine f_goto C (t := 137) dX8_readStep_133 (by decide) ?_
      obtain ⟨hi_25, h⟩ := h
      refine f_iast C (j := tn (gi σ_3 (gr σ_3 42 4) 7)) hs_22.a0 hi_25 rfl dX8_readStep_137 rfl ?_
      refine f_iconst C (v := 1) dX8_readStep_138 kc1 rfl ?_
      exact f_zret C (Or.inr rfl) dX8_readStep_139 h
  replace h := Eq.mp (if_neg hq_26) h
  by_cases hq_30 : sw_5 = 16
  · replace h := Eq.mp (if_pos hq_30) h
    refine f_tableIn C (off := 82) (t := 98) dX8_readStep_16 (by rw [hq_30]; decide) (by rw [hq_30]; decide) (by rw [hq_30]; rfl) (by decide) ?_
    refine f_aload_n C (j := 1) dX8_readStep_98 rfl rfl rfl ?_
    refine f_callVi C (a := 42) (ci := 8) (As := fun B => []) o42 rfl (c_X8_readTest   _ _ h) tM_X8_101 tI_X8_readTest tS_X8_readTest tN_X8 tC_X8_readTest 0 dd_X8_readTest rfl (by decide) (by decide) rfl (Nat.le_of_ble_eq_true rfl) dX8_readStep_99 rfl (fun r_28 σ_27 h => ?_)
    obtain ⟨hb_29, h⟩ := h
    exact f_zret C hb_29 dX8_readStep_102 h
  replace h := Eq.mp (if_neg hq_30) h
  by_cases hq_35 : sw_5 = 17
  · replace h := Eq.mp (if_pos hq_35) h
    refine f_tableIn C (off := 96) (t := 112) dX8_readStep_16 (by rw [hq_35]; decide) (by rw [hq_35]; decide) (by rw [hq_35]; rfl) (by decide) ?_
    refine f_aload_n C (j := 1) dX8_readStep_112 rfl rfl rfl ?_
    obtain ⟨hs_31, h⟩ := h
    refine f_getm C tF_X8_33 rfl o42 cn42_4 hs_31.z dX8_readStep_113 rfl ?_
    refine f_getc C tF_X8_79 rfl hs_31.o hs_31.c0 (Nat.succ_ne_zero _) dX8_readStep_116 rfl ?_
    refine f_aload_n C (j := 1) dX8_readStep_119 rfl rfl rfl ?_
    refine f_getm C tF_X8_33 rfl o42 cn42_4 hs_31.z dX8_readStep_120 rfl ?_
    refine f_geti C tF_X8_66 rfl hs_31.o dX8_readStep_123 rfl ?_
    refine f_iload_n C (j := 0) dX8_readStep_126 rfl rfl rfl ?_
    refine f_bipush C (v := 15) dX8_readStep_127 kb15 rfl ?_
    refine f_icmp_ne C (t := 136) dX8_readStep_129 (by decide) rfl (fun hq_32 => ?_) (fun hq_32 => ?_)
    · replace h := Eq.mp (if_neg hq_32) h
      refine f_iconst C (v := 5) dX8_readStep_136 kc5 rfl ?_
      obtain ⟨hi_33, h⟩ := h
      refine f_iast C (j := tn (gi σ_3 (gr σ_3 42 4) 7)) hs_31.a0 hi_33 rfl dX8_readStep_137 rfl ?_
      refine f_iconst C (v := 1) dX8_readStep_138 kc1 rfl ?_
      exact f_zret C (Or.inr rfl) dX8_readStep_139 h
    · replace h := Eq.mp (if_pos hq_32) h
      refine f_iconst C (v := 4) dX8_readStep_132 kc4 rfl ?_
      refine f_goto C (t := 137) dX8_readStep_133 (by decide) ?_
      obtain ⟨hi_34, h⟩ := h
      refine f_iast C (j := tn (gi σ_3 (gr σ_3 42 4) 7)) hs_31.a0 hi_34 rfl dX8_readStep_137 rfl ?_
      refine f_iconst C (v := 1) dX8_readStep_138 kc1 rfl ?_
      exact f_zret C (Or.inr rfl) dX8_readStep_139 h
  replace h := Eq.mp (if_neg hq_35) h
  by_cases hq_40 : sw_5 = 18
  · replace h := Eq.mp (if_pos hq_40) h
    refine f_tableIn C (off := 96) (t := 112) dX8_readStep_16 (by rw [hq_40]; decide) (by rw [hq_40]; decide) (by rw [hq_40]; rfl) (by decide) ?_
    refine f_aload_n C (j := 1) dX8_readStep_112 rfl rfl rfl ?_
    obtain ⟨hs_36, h⟩ := h
    refine f_getm C tF_X8_33 rfl o42 cn42_4 hs_36.z dX8_readStep_113 rfl ?_
    refine f_getc C tF_X8_79 rfl hs_36.o hs_36.c0 (Nat.succ_ne_zero _) dX8_readStep_116 rfl ?_
    refine f_aload_n C (j := 1) dX8_readStep_119 rfl rfl rfl ?_
    refine f_getm C tF_X8_33 rfl o42 cn42_4 hs_36.z dX8_readStep_120 rfl ?_
    refine f_geti C tF_X8_66 rfl hs_36.o dX8_readStep_123 rfl ?_
    refine f_iload_n C (j := 0) dX8_readStep_126 rfl rfl rfl ?_
    refine f_bipush C (v := 15) dX8_readStep_127 kb15 rfl ?_
    refine f_icmp_ne C (t := 136) dX8_readStep_129 (by decide) rfl (fun hq_37 => ?_) (fun hq_37 => ?_)
    · replace h := Eq.mp (if_neg hq_37) h
      refine f_iconst C (v := 5) dX8_readStep_136 kc5 rfl ?_
      obtain ⟨hi_38, h⟩ := h
      refine f_iast C (j := tn (gi σ_3 (gr σ_3 42 4) 7)) hs_36.a0 hi_38 rfl dX8_readStep_137 rfl ?_
      refine f_iconst C (v := 1) dX8_readStep_138 kc1 rfl ?_
      exact f_zret C (Or.inr rfl) dX8_readStep_139 h
    · replace h := Eq.mp (if_pos hq_37) h
      refine f_iconst C (v := 4) dX8_readStep_132 kc4 rfl ?_
      refine f_goto C (t := 137) dX8_readStep_133 (by decide) ?_
      obtain ⟨hi_39, h⟩ := h
      refine f_iast C (j := tn (gi σ_3 (gr σ_3 42 4) 7)) hs_36.a0 hi_39 rfl dX8_readStep_137 rfl ?_
      refine f_iconst C (v := 1) dX8_readStep_138 kc1 rfl ?_
      exact f_zret C (Or.inr rfl) dX8_readStep_139 h
  replace h := Eq.mp (if_neg hq_40) h
  by_cases hq_45 : sw_5 = 19
  · replace h := Eq.mp (if_pos hq_45) h
    refine f_tableIn C (off := 96) (t := 112) dX8_readStep_16 (by rw [hq_45]; decide) (by rw [hq_45]; decide) (by rw [hq_45]; rfl) (by decide) ?_
    refine f_aload_n C (j := 1) dX8_readStep_112 rfl rfl rfl ?_
    obtain ⟨hs_41, h⟩ := h
    refine f_getm C tF_X8_33 rfl o42 cn42_4 hs_41.z dX8_readStep_113 rfl ?_
    refine f_getc C tF_X8_79 rfl hs_41.o hs_41.c0 (Nat.succ_ne_zero _) dX8_readStep_116 rfl ?_
    refine f_aload_n C (j := 1) dX8_readStep_119 rfl rfl rfl ?_
    refine f_getm C tF_X8_33 rfl o42 cn42_4 hs_41.z dX8_readStep_120 rfl ?_
    refine f_geti C tF_X8_66 rfl hs_41.o dX8_readStep_123 rfl ?_
    refine f_iload_n C (j := 0) dX8_readStep_126 rfl rfl rfl ?_
    refine f_bipush C (v := 15) dX8_readStep_127 kb15 rfl ?_
    refine f_icmp_ne C (t := 136) dX8_readStep_129 (by decide) rfl (fun hq_42 => ?_) (fun hq_42 => ?_)
    · replace h := Eq.mp (if_neg hq_42) h
      refine f_iconst C (v := 5) dX8_readStep_136 kc5 rfl ?_
      obtain ⟨hi_43, h⟩ := h
      refine f_iast C (j := tn (gi σ_3 (gr σ_3 42 4) 7)) hs_41.a0 hi_43 rfl dX8_readStep_137 rfl ?_
      refine f_iconst C (v := 1) dX8_readStep_138 kc1 rfl ?_
      exact f_zret C (Or.inr rfl) dX8_readStep_139 h
    · replace h := Eq.mp (if_pos hq_42) h
      refine f_iconst C (v := 4) dX8_readStep_132 kc4 rfl ?_
      refine f_goto C (t := 137) dX8_readStep_133 (by decide) ?_
      obtain ⟨hi_44, h⟩ := h
      refine f_iast C (j := tn (gi σ_3 (gr σ_3 42 4) 7)) hs_41.a0 hi_44 rfl dX8_readStep_137 rfl ?_
      refine f_iconst C (v := 1) dX8_readStep_138 kc1 rfl ?_
      exact f_zret C (Or.inr rfl) dX8_readStep_139 h
  replace h := Eq.mp (if_neg hq_45) h
  by_cases hq_49 : sw_5 = 20
  · replace h := Eq.mp (if_pos hq_49) h
    refine f_tableIn C (off := 87) (t := 103) dX8_readStep_16 (by rw [hq_49]; decide) (by rw [hq_49]; decide) (by rw [hq_49]; rfl) (by decide) ?_
    refine f_aload_n C (j := 1) dX8_readStep_103 rfl rfl rfl ?_
    refine f_bipush C (v := 6) dX8_readStep_104 kb6 rfl ?_
    refine f_bipush C (v := 99) dX8_readStep_106 kb99 rfl ?_
    refine f_callVi C (a := 42) (ci := 8) (As := fun B => [.int 6, .int 99]) o42 rfl (c_X8_readAmount  _ _ _ _ h) tM_X8_94 tI_X8_readAmount tS_X8_readAmount tN_X8 tC_X8_readAmount 2 dd_X8_readAmount rfl (by decide) (by decide) rfl (Nat.le_of_ble_eq_true rfl) dX8_readStep_108 rfl (fun r_47 σ_46 h => ?_)
    obtain ⟨hb_48, h⟩ := h
    exact f_zret C hb_48 dX8_readStep_111 h
  replace h := Eq.mp (if_neg hq_49) h
  refine f_tableOut C (t := 112) dX8_readStep_16 (tsw_out (lo := 11) (hi := 20) 10 (by decide) (fun k hk => ?_)) (by decide) ?_
  · match k, hk with
    | 0, _ => exact toInt_ne (by decide) hq_9
    | 1, _ => exact toInt_ne (by decide) hq_13
    | 2, _ => exact toInt_ne (by decide) hq_17
    | 3, _ => exact toInt_ne (by decide) hq_21
    | 4, _ => exact toInt_ne (by decide) hq_26
    | 5, _ => exact toInt_ne (by decide) hq_30
    | 6, _ => exact toInt_ne (by decide) hq_35
    | 7, _ => exact toInt_ne (by decide) hq_40
    | 8, _ => exact toInt_ne (by decide) hq_45
    | 9, _ => exact toInt_ne (by decide) hq_49
  refine f_aload_n C (j := 1) dX8_readStep_112 rfl rfl rfl ?_
  obtain ⟨hs_50, h⟩ := h
  refine f_getm C tF_X8_33 rfl o42 cn42_4 hs_50.z dX8_readStep_113 rfl ?_
  refine f_getc C tF_X8_79 rfl hs_50.o hs_50.c0 (Nat.succ_ne_zero _) dX8_readStep_116 rfl ?_
  refine f_aload_n C (j := 1) dX8_readStep_119 rfl rfl rfl ?_
  refine f_getm C tF_X8_33 rfl o42 cn42_4 hs_50.z dX8_readStep_120 rfl ?_
  refine f_geti C tF_X8_66 rfl hs_50.o dX8_readStep_123 rfl ?_
  refine f_iload_n C (j := 0) dX8_readStep_126 rfl rfl rfl ?_
  refine f_bipush C (v := 15) dX8_readStep_127 kb15 rfl ?_
  refine f_icmp_ne C (t := 136) dX8_readStep_129 (by decide) rfl (fun hq_51 => ?_) (fun hq_51 => ?_)
  · replace h := Eq.mp (if_neg hq_51) h
    refine f_iconst C (v := 5) dX8_readStep_136 kc5 rfl ?_
    obtain ⟨hi_52, h⟩ := h
    refine f_iast C (j := tn (gi σ_3 (gr σ_3 42 4) 7)) hs_50.a0 hi_52 rfl dX8_readStep_137 rfl ?_
    refine f_iconst C (v := 1) dX8_readStep_138 kc1 rfl ?_
    exact f_zret C (Or.inr rfl) dX8_readStep_139 h
  · replace h := Eq.mp (if_pos hq_51) h
    refine f_iconst C (v := 4) dX8_readStep_132 kc4 rfl ?_
    refine f_goto C (t := 137) dX8_readStep_133 (by decide) ?_
    obtain ⟨hi_53, h⟩ := h
    refine f_iast C (j := tn (gi σ_3 (gr σ_3 42 4) 7)) hs_50.a0 hi_53 rfl dX8_readStep_137 rfl ?_
    refine f_iconst C (v := 1) dX8_readStep_138 kc1 rfl ?_
    exact f_zret C (Or.inr rfl) dX8_readStep_139 h
theorem c_X8_readStep (σ : Sto) (P : Int32 → Sto → Prop) (h : w_X8_readStep σ P) : Ct yX8_readStep cX8_readStep 2 (some .boolean) 4 94 (fun B => [.ref (B + 42)]) σ (QFi P) := Ct.of (by decide) (fun _ => Nat.le_of_ble_eq_true rfl) (fun B E C => s_X8_readStep C σ h)
def w_X8_takes_129 (σ : Sto) (P : Int32 → Sto → Prop) : Prop :=
  (if (gi σ 42 2) ≤ 0 then isStory (gr σ 42 4) ∧ P 1 (si σ (gr σ 42 4) 5 1) else w_X9_fail 2 σ (fun r_14 σ_13 => (r_14 = 0 ∨ r_14 = 1) ∧ P r_14 σ_13))
theorem s_X8_takes_129 {B : Nat} {E : Nat → List (Nat × Value) → List Value → Sto → Prop} {P : Int32 → Sto → Prop} (C : Cy B E RX8 cX8_takes 6 (some .boolean) 5 115 (Zm (QFi P))) (σ : Sto) (h : w_X8_takes_129 σ P) : E 129 [(0, .ref (B + 42))] [] σ := by
  unfold w_X8_takes_129 at h
  refine f_aload_n C (j := 0) dX8_takes_129 rfl rfl rfl ?_
  refine f_geti C tF_X8_19 rfl o42 dX8_takes_130 rfl ?_
  refine f_if_le C (t := 145) dX8_takes_133 (by decide) rfl (fun hq_11 => ?_) (fun hq_11 => ?_)
  · replace h := Eq.mp (if_pos hq_11) h
    refine f_aload_n C (j := 0) dX8_takes_145 rfl rfl rfl ?_
    obtain ⟨hs_12, h⟩ := h
    refine f_getm C tF_X8_33 rfl o42 cn42_4 hs_12.z dX8_takes_146 rfl ?_
    refine f_iconst C (v := 1) dX8_takes_149 kc1 rfl ?_
    refine f_putz C tF_X8_72 fm_7_5 rfl (Or.inr rfl) hs_12.o dX8_takes_150 rfl ?_
    refine f_iconst C (v := 1) dX8_takes_153 kc1 rfl ?_
    exact f_zret C (Or.inr rfl) dX8_takes_154 h
  · replace h := Eq.mp (if_neg hq_11) h
    refine f_aload_n C (j := 0) dX8_takes_136 rfl rfl rfl ?_
    refine f_getc C tF_X8_9 rfl o42 cs42_0 (by decide) dX8_takes_137 rfl ?_
    refine f_iconst C (v := 2) dX8_takes_140 kc2 rfl ?_
    refine f_callVi C (a := 10) (ci := 9) (As := fun B => [.int 2]) o10 rfl (c_X9_fail  _ _ _ h) tM_X8_69 tI_X9_fail tS_X9_fail tN_X9 tC_X9_fail 1 dd_X9_fail rfl (by decide) (by decide) rfl (Nat.le_of_ble_eq_true rfl) dX8_takes_141 rfl (fun r_14 σ_13 h => ?_)
    obtain ⟨hb_15, h⟩ := h
    exact f_zret C hb_15 dX8_takes_144 h
def w_X8_takes_89 (K33 : Int32 × Sto → Prop) (x4 : Int32) (z0 : Int32) (σ : Sto) (P : Int32 → Sto → Prop) : Prop :=
  (if z0 = 0 then P 0 σ else w_X9_passSign 59 σ (fun r_25 σ_24 => (if r_25 = 0 then P 0 σ_24 else isStory (gr σ_24 42 4) ∧ ∀ x4_28 : Int32, x4_28 = x4 + 1 → K33 (x4_28, si σ_24 (gr σ_24 42 4) 7 ((gi σ_24 (gr σ_24 42 4) 7) + 1)))))
theorem s_X8_takes_89 {B : Nat} {E : Nat → List (Nat × Value) → List Value → Sto → Prop} {P : Int32 → Sto → Prop} (C : Cy B E RX8 cX8_takes 6 (some .boolean) 5 115 (Zm (QFi P))) (x4 : Int32) (z0 : Int32) (K33 : Int32 × Sto → Prop) (hK33 : ∀ (x4 : Int32) (σ : Sto), K33 (x4, σ) → E 33 [(0, .ref (B + 42)), (4, .int x4)] [] σ) (σ : Sto) (h : w_X8_takes_89 K33 x4 z0 σ P) : E 89 [(0, .ref (B + 42)), (4, .int x4)] [.int z0] σ := by
  unfold w_X8_takes_89 at h
  refine f_istore C (lv2 := [(5, .int z0), (0, .ref (B + 42)), (4, .int x4)]) dX8_takes_89 (by decide) rfl rfl ?_
  refine f_iload C (j := 0) dX8_takes_91 rfl rfl ?_
  refine f_if_eq C (t := 108) dX8_takes_93 (by decide) rfl (fun hq_23 => ?_) (fun hq_23 => ?_)
  · replace h := Eq.mp (if_pos hq_23) h
    refine f_iconst C (v := 0) dX8_takes_108 kc0 rfl ?_
    exact f_zret C (Or.inl rfl) dX8_takes_109 h
  · replace h := Eq.mp (if_neg hq_23) h
    refine f_aload_n C (j := 1) dX8_takes_96 rfl rfl rfl ?_
    refine f_getc C tF_X8_9 rfl o42 cs42_0 (by decide) dX8_takes_97 rfl ?_
    refine f_bipush C (v := 59) dX8_takes_100 kb59 rfl ?_
    refine f_callVi C (a := 10) (ci := 9) (As := fun B => [.int 59]) o10 rfl (c_X9_passSign  _ _ _ h) tM_X8_62 tI_X9_passSign tS_X9_passSign tN_X9 tC_X9_passSign 1 dd_X9_passSign rfl (by decide) (by decide) rfl (Nat.le_of_ble_eq_true rfl) dX8_takes_102 rfl (fun r_25 σ_24 h => ?_)
    refine f_if_ne C (t := 110) dX8_takes_105 (by decide) rfl (fun hq_26 => ?_) (fun hq_26 => ?_)
    · replace h := Eq.mp (if_neg hq_26) h
      refine f_aload_n C (j := 1) dX8_takes_110 rfl rfl rfl ?_
      obtain ⟨hs_27, h⟩ := h
      refine f_getm C tF_X8_33 rfl o42 cn42_4 hs_27.z dX8_takes_111 rfl ?_
      refine f_dup C dX8_takes_114 rfl rfl ?_
      refine f_geti C tF_X8_66 rfl hs_27.o dX8_takes_115 rfl ?_
      refine f_iconst C (v := 1) dX8_takes_118 kc1 rfl ?_
      refine f_iadd C dX8_takes_119 rfl ?_
      refine f_puti C tF_X8_66 fm_7_7 rfl hs_27.o dX8_takes_120 rfl ?_
      obtain ⟨x4_28, hx_29⟩ : ∃ y : Int32, y = x4 + 1 := ⟨_, rfl⟩
      replace h := h x4_28 hx_29
      refine f_iinc C (j := 2) (v := x4_28) (lv2 := [(4, .int x4_28), (5, .int z0), (0, .ref (B + 42))]) dX8_takes_123 rfl hx_29.symm (by decide) rfl rfl ?_
      refine f_goto C (t := 33) dX8_takes_126 (by decide) ?_
      refine f_lv C (lv2 := [(0, .ref (B + 42)), (4, .int x4_28)]) [2, 0] rfl ?_
      exact hK33 _ _ h
    · replace h := Eq.mp (if_pos hq_26) h
      refine f_iconst C (v := 0) dX8_takes_108 kc0 rfl ?_
      exact f_zret C (Or.inl rfl) dX8_takes_109 h
def w_X8_takes_33 (K33 : Int32 × Sto → Prop) (x4 : Int32) (σ : Sto) (P : Int32 → Sto → Prop) : Prop :=
  (if 900 < x4 then w_X8_takes_129 σ P else (if (gi σ 10 5) = 0 then w_X8_takes_129 σ P else w_X9_isKeyword 21 σ (fun r_18 σ_17 => (if r_18 = 0 then w_X8_beginStep σ_17 (fun r_21 σ_20 => (if r_21 = 0 then w_X8_takes_89 K33 x4 0 σ_20 P else w_X8_readStep σ_20 (fun r_31 σ_30 => (if r_31 = 0 then w_X8_takes_89 K33 x4 0 σ_30 P else w_X8_takes_89 K33 x4 1 σ_30 P)))) else w_X8_readEnd σ_17 (fun r_34 σ_33 => w_X8_takes_89 K33 x4 r_34 σ_33 P)))))
theorem s_X8_takes_33 {B : Nat} {E : Nat → List (Nat × Value) → List Value → Sto → Prop} {P : Int32 → Sto → Prop} (C : Cy B E RX8 cX8_takes 6 (some .boolean) 5 115 (Zm (QFi P))) (x4 : Int32) (K33 : Int32 × Sto → Prop) (hK33 : ∀ (x4 : Int32) (σ : Sto), K33 (x4, σ) → E 33 [(0, .ref (B + 42)), (4, .int x4)] [] σ) (σ : Sto) (h : w_X8_takes_33 K33 x4 σ P) : E 33 [(0, .ref (B + 42)), (4, .int x4)] [] σ := by
  unfold w_X8_takes_33 at h
  refine f_iload C (j := 1) dX8_takes_33 rfl rfl ?_
  refine f_sipush C (v := 900) dX8_takes_35 ks900 rfl ?_
  refine f_icmp_gt C (t := 129) dX8_takes_38 (by decide) rfl (fun hq_10 => ?_) (fun hq_10 => ?_)
  · replace h := Eq.mp (if_pos hq_10) h
    refine f_lv C (lv2 := [(0, .ref (B + 42))]) [0] rfl ?_
    exact s_X8_takes_129 C  _ h
  · replace h := Eq.mp (if_neg hq_10) h
    refine f_aload_n C (j := 0) dX8_takes_41 rfl rfl rfl ?_
    refine f_getc C tF_X8_9 rfl o42 cs42_0 (by decide) dX8_takes_42 rfl ?_
    refine f_geti C tF_X8_45 rfl o10 dX8_takes_45 rfl ?_
    refine f_if_eq C (t := 129) dX8_takes_48 (by decide) rfl (fun hq_16 => ?_) (fun hq_16 => ?_)
    · replace h := Eq.mp (if_pos hq_16) h
      refine f_lv C (lv2 := [(0, .ref (B + 42))]) [0] rfl ?_
      exact s_X8_takes_129 C  _ h
    · replace h := Eq.mp (if_neg hq_16) h
      refine f_aload_n C (j := 0) dX8_takes_51 rfl rfl rfl ?_
      refine f_getc C tF_X8_9 rfl o42 cs42_0 (by decide) dX8_takes_52 rfl ?_
      refine f_bipush C (v := 21) dX8_takes_55 kb21 rfl ?_
      refine f_callVi C (a := 10) (ci := 9) (As := fun B => [.int 21]) o10 rfl (c_X9_isKeyword  _ _ _ h) tM_X8_48 tI_X9_isKeyword tS_X9_isKeyword tN_X9 tC_X9_isKeyword 1 dd_X9_isKeyword rfl (by decide) (by decide) rfl (Nat.le_of_ble_eq_true rfl) dX8_takes_57 rfl (fun r_18 σ_17 h => ?_)
      refine f_if_eq C (t := 70) dX8_takes_60 (by decide) rfl (fun hq_19 => ?_) (fun hq_19 => ?_)
      · replace h := Eq.mp (if_pos hq_19) h
        refine f_aload_n C (j := 0) dX8_takes_70 rfl rfl rfl ?_
        refine f_callVi C (a := 42) (ci := 8) (As := fun B => []) o42 rfl (c_X8_beginStep   _ _ h) tM_X8_56 tI_X8_beginStep tS_X8_beginStep tN_X8 tC_X8_beginStep 0 dd_X8_beginStep rfl (by decide) (by decide) rfl (Nat.le_of_ble_eq_true rfl) dX8_takes_71 rfl (fun r_21 σ_20 h => ?_)
        refine f_if_eq C (t := 88) dX8_takes_74 (by decide) rfl (fun hq_22 => ?_) (fun hq_22 => ?_)
        · replace h := Eq.mp (if_pos hq_22) h
          refine f_iconst C (v := 0) dX8_takes_88 kc0 rfl ?_
          exact s_X8_takes_89 C _ _  K33 hK33 _ h
        · replace h := Eq.mp (if_neg hq_22) h
          refine f_aload_n C (j := 0) dX8_takes_77 rfl rfl rfl ?_
          refine f_callVi C (a := 42) (ci := 8) (As := fun B => []) o42 rfl (c_X8_readStep   _ _ h) tM_X8_59 tI_X8_readStep tS_X8_readStep tN_X8 tC_X8_readStep 0 dd_X8_readStep rfl (by decide) (by decide) rfl (Nat.le_of_ble_eq_true rfl) dX8_takes_78 rfl (fun r_31 σ_30 h => ?_)
          refine f_if_eq C (t := 88) dX8_takes_81 (by decide) rfl (fun hq_32 => ?_) (fun hq_32 => ?_)
          · replace h := Eq.mp (if_pos hq_32) h
            refine f_iconst C (v := 0) dX8_takes_88 kc0 rfl ?_
            exact s_X8_takes_89 C _ _  K33 hK33 _ h
          · replace h := Eq.mp (if_neg hq_32) h
            refine f_iconst C (v := 1) dX8_takes_84 kc1 rfl ?_
            refine f_goto C (t := 89) dX8_takes_85 (by decide) ?_
            exact s_X8_takes_89 C _ _  K33 hK33 _ h
      · replace h := Eq.mp (if_neg hq_19) h
        refine f_aload_n C (j := 0) dX8_takes_63 rfl rfl rfl ?_
        refine f_callVi C (a := 42) (ci := 8) (As := fun B => []) o42 rfl (c_X8_readEnd   _ _ h) tM_X8_52 tI_X8_readEnd tS_X8_readEnd tN_X8 tC_X8_readEnd 0 dd_X8_readEnd rfl (by decide) (by decide) rfl (Nat.le_of_ble_eq_true rfl) dX8_takes_64 rfl (fun r_34 σ_33 h => ?_)
        refine f_goto C (t := 89) dX8_takes_67 (by decide) ?_
        exact s_X8_takes_89 C _ _  K33 hK33 _ h
def w_X8_takes (a1 : Nat) (a2 : Nat) (x3 : Int32) (σ : Sto) (P : Int32 → Sto → Prop) : Prop :=
  isStory a1 ∧ isCity a2 ∧ ∀ σ_3 : Sto, σ_3 = sr (sr σ 42 4 a1) 42 3 a2 → isStory (gr σ_3 42 4) ∧ w_X7_clear (gr σ_3 42 4) σ_3 (fun σ_6 => w_X9_start x3 (si σ_6 42 2 0) (fun σ_8 => Lp (fun (K : Int32 × Sto → Prop) s => w_X8_takes_33 K s.1 s.2 P) (0, σ_8)))
theorem s_X8_takes {B : Nat} {E : Nat → List (Nat × Value) → List Value → Sto → Prop} {P : Int32 → Sto → Prop} (C : Cy B E RX8 cX8_takes 6 (some .boolean) 5 115 (Zm (QFi P))) (a1 : Nat) (a2 : Nat) (x3 : Int32) (σ : Sto) (h : w_X8_takes a1 a2 x3 σ P) : E 0 [(0, .ref (B + 42)), (1, .ref (B + a1)), (2, .ref (B + a2)), (3, .int x3)] [] σ := by
  unfold w_X8_takes at h
  refine f_aload_n C (j := 0) dX8_takes_0 rfl rfl rfl ?_
  refine f_aload_n C (j := 1) dX8_takes_1 rfl rfl rfl ?_
  obtain ⟨hs_1, h⟩ := h
  refine f_putr C tF_X8_33 fm_8_4 rfl hs_1.z cn42_4 o42 dX8_takes_2 rfl ?_
  refine f_aload_n C (j := 0) dX8_takes_5 rfl rfl rfl ?_
  refine f_aload_n C (j := 2) dX8_takes_6 rfl rfl rfl ?_
  obtain ⟨hc_2, h⟩ := h
  refine f_putr C tF_X8_23 fm_8_3 rfl hc_2.z cn42_3 o42 dX8_takes_7 rfl ?_
  refine f_aload_n C (j := 0) dX8_takes_10 rfl rfl rfl ?_
  refine f_names (fun σ_3 hσ_4 => ?_)
  replace h := h σ_3 hσ_4
  obtain ⟨hs_5, h⟩ := h
  refine f_getm C tF_X8_33 rfl o42 cn42_4 hs_5.z dX8_takes_11 rfl ?_
  refine f_callVv C (a := gr σ_3 42 4) (ci := 7) (As := fun B => []) hs_5.o rfl (c_X7_clear  _ _ _ h) tM_X8_34 tI_X7_clear tS_X7_clear tN_X7 tC_X7_clear 0 dd_X7_clear rfl (by decide) (by decide) rfl (Nat.le_of_ble_eq_true rfl) dX8_takes_14 rfl (fun σ_6 h => ?_)
  refine f_aload_n C (j := 0) dX8_takes_17 rfl rfl rfl ?_
  refine f_iconst C (v := 0) dX8_takes_18 kc0 rfl ?_
  refine f_puti C tF_X8_19 fm_8_2 rfl o42 dX8_takes_19 rfl ?_
  refine f_aload_n C (j := 0) dX8_takes_22 rfl rfl rfl ?_
  refine f_getc C tF_X8_9 rfl o42 cs42_0 (by decide) dX8_takes_23 rfl ?_
  refine f_iload_n C (j := 3) dX8_takes_26 rfl rfl rfl ?_
  refine f_callVv C (a := 10) (ci := 9) (As := fun B => [.int x3]) o10 rfl (c_X9_start  _ _ _ h) tM_X8_39 tI_X9_start tS_X9_start tN_X9 tC_X9_start 1 dd_X9_start rfl (by decide) (by decide) rfl (Nat.le_of_ble_eq_true rfl) dX8_takes_27 rfl (fun σ_8 h => ?_)
  refine f_iconst C (v := 0) dX8_takes_30 kc0 rfl ?_
  refine f_istore C (lv2 := [(4, .int 0), (0, .ref (B + 42)), (1, .ref (B + a1)), (2, .ref (B + a2)), (3, .int x3)]) dX8_takes_31 (by decide) rfl rfl ?_
  refine f_lv C (lv2 := [(0, .ref (B + 42)), (4, .int 0)]) [1, 0] rfl ?_
  exact Lp_sound (fun s : Int32 × Sto => E 33 [(0, .ref (B + 42)), (4, .int s.1)] [] s.2) h (fun K s hK h => s_X8_takes_33 C s.1 K (fun x4 σ hk => hK (x4, σ) hk) s.2 h)
theorem c_X8_takes (a1 : Nat) (a2 : Nat) (x3 : Int32) (σ : Sto) (P : Int32 → Sto → Prop) (h : w_X8_takes a1 a2 x3 σ P) : Ct yX8_takes cX8_takes 6 (some .boolean) 5 115 (fun B => [.ref (B + 42), .ref (B + a1), .ref (B + a2), .int x3]) σ (QFi P) := Ct.of (by decide) (fun _ => Nat.le_of_ble_eq_true rfl) (fun B E C => s_X8_takes C a1 a2 x3 σ h)
def w_X9_hasRoom (σ : Sto) (P : Int32 → Sto → Prop) : Prop :=
  (if 900 < ((gi σ 10 2) + 20) then P 0 σ else P 1 σ)
theorem s_X9_hasRoom {B : Nat} {E : Nat → List (Nat × Value) → List Value → Sto → Prop} {P : Int32 → Sto → Prop} (C : Cy B E RX9 cX9_hasRoom 1 (some .boolean) 0 0 (Zm (QFi P))) (σ : Sto) (h : w_X9_hasRoom σ P) : E 0 [(0, .ref (B + 10))] [] σ := by
  unfold w_X9_hasRoom at h
  refine f_aload_n C (j := 0) dX9_hasRoom_0 rfl rfl rfl ?_
  refine f_geti C tF_X9_31 rfl o10 dX9_hasRoom_1 rfl ?_
  refine f_bipush C (v := 20) dX9_hasRoom_4 kb20 rfl ?_
  refine f_iadd C dX9_hasRoom_6 rfl ?_
  refine f_sipush C (v := 900) dX9_hasRoom_7 ks900 rfl ?_
  refine f_icmp_gt C (t := 17) dX9_hasRoom_10 (by decide) rfl (fun hq_1 => ?_) (fun hq_1 => ?_)
  · replace h := Eq.mp (if_pos hq_1) h
    refine f_iconst C (v := 0) dX9_hasRoom_17 kc0 rfl ?_
    exact f_zret C (Or.inl rfl) dX9_hasRoom_18 h
  · replace h := Eq.mp (if_neg hq_1) h
    refine f_iconst C (v := 1) dX9_hasRoom_13 kc1 rfl ?_
    refine f_goto C (t := 18) dX9_hasRoom_14 (by decide) ?_
    exact f_zret C (Or.inr rfl) dX9_hasRoom_18 h
theorem c_X9_hasRoom (σ : Sto) (P : Int32 → Sto → Prop) (h : w_X9_hasRoom σ P) : Ct yX9_hasRoom cX9_hasRoom 1 (some .boolean) 0 0 (fun B => [.ref (B + 10)]) σ (QFi P) := Ct.of (by decide) (fun _ => Nat.le_of_ble_eq_true rfl) (fun B E C => s_X9_hasRoom C σ h)
def w_X9_add_3 (K3 : Int32 × Sto → Prop) (x1 : Int32) (x2 : Int32) (σ : Sto) (P : Sto → Prop) : Prop :=
  (if x2 < 0 then P σ else (if 900 ≤ (gi σ 10 2) then P σ else vp_in (gi σ 10 2) 900 ∧ ∀ σ_4 : Sto, σ_4 = si σ 11 (tn (gi σ 10 2)) (vp_nar .byte ((x1 >>> (x2 &&& 31)).toInt8.toInt32)) → ∀ x2_6 : Int32, x2_6 = x2 + (-8) → K3 (x2_6, si σ_4 10 2 ((gi σ_4 10 2) + 1))))
theorem s_X9_add_3 {B : Nat} {E : Nat → List (Nat × Value) → List Value → Sto → Prop} {P : Sto → Prop} (C : Cy B E RX9 cX9_add 3 none 0 0 (Zm (QFv P))) (x1 : Int32) (x2 : Int32) (K3 : Int32 × Sto → Prop) (hK3 : ∀ (x2 : Int32) (σ : Sto), K3 (x2, σ) → E 3 [(0, .ref (B + 10)), (1, .int x1), (2, .int x2)] [] σ) (σ : Sto) (h : w_X9_add_3 K3 x1 x2 σ P) : E 3 [(0, .ref (B + 10)), (1, .int x1), (2, .int x2)] [] σ := by
  unfold w_X9_add_3 at h
  refine f_iload_n C (j := 2) dX9_add_3 rfl rfl rfl ?_
  refine f_if_lt C (t := 46) dX9_add_4 (by decide) rfl (fun hq_1 => ?_) (fun hq_1 => ?_)
  · replace h := Eq.mp (if_pos hq_1) h
    exact f_vret C dX9_add_46 h
  · replace h := Eq.mp (if_neg hq_1) h
    refine f_aload_n C (j := 0) dX9_add_7 rfl rfl rfl ?_
    refine f_geti C tF_X9_31 rfl o10 dX9_add_8 rfl ?_
    refine f_sipush C (v := 900) dX9_add_11 ks900 rfl ?_
    refine f_icmp_ge C (t := 46) dX9_add_14 (by decide) rfl (fun hq_2 => ?_) (fun hq_2 => ?_)
    · replace h := Eq.mp (if_pos hq_2) h
      exact f_vret C dX9_add_46 h
    · replace h := Eq.mp (if_neg hq_2) h
      refine f_aload_n C (j := 0) dX9_add_17 rfl rfl rfl ?_
      refine f_getc C tF_X9_11 rfl o10 cs10_0 (by decide) dX9_add_18 rfl ?_
      refine f_aload_n C (j := 0) dX9_add_21 rfl rfl rfl ?_
      refine f_geti C tF_X9_31 rfl o10 dX9_add_22 rfl ?_
      refine f_iload_n C (j := 1) dX9_add_25 rfl rfl rfl ?_
      refine f_iload_n C (j := 2) dX9_add_26 rfl rfl rfl ?_
      refine f_ishr C dX9_add_27 rfl ?_
      refine f_i2b C dX9_add_28 rfl ?_
      obtain ⟨hi_3, h⟩ := h
      refine f_bast C (j := tn (gi σ 10 2)) a11 hi_3 rfl dX9_add_29 rfl ?_
      refine f_aload_n C (j := 0) dX9_add_30 rfl rfl rfl ?_
      refine f_dup C dX9_add_31 rfl rfl ?_
      refine f_names (fun σ_4 hσ_5 => ?_)
      replace h := h σ_4 hσ_5
      refine f_geti C tF_X9_31 rfl o10 dX9_add_32 rfl ?_
      refine f_iconst C (v := 1) dX9_add_35 kc1 rfl ?_
      refine f_iadd C dX9_add_36 rfl ?_
      refine f_puti C tF_X9_31 fm_9_2 rfl o10 dX9_add_37 rfl ?_
      obtain ⟨x2_6, hx_7⟩ : ∃ y : Int32, y = x2 + (-8) := ⟨_, rfl⟩
      replace h := h x2_6 hx_7
      refine f_iinc C (j := 2) (v := x2_6) (lv2 := [(2, .int x2_6), (0, .ref (B + 10)), (1, .int x1)]) dX9_add_40 rfl hx_7.symm (by decide) rfl rfl ?_
      refine f_goto C (t := 3) dX9_add_43 (by decide) ?_
      refine f_lv C (lv2 := [(0, .ref (B + 10)), (1, .int x1), (2, .int x2_6)]) [1, 2, 0] rfl ?_
      exact hK3 _ _ h
def w_X9_add (x1 : Int32) (σ : Sto) (P : Sto → Prop) : Prop :=
  Lp (fun (K : Int32 × Sto → Prop) s => w_X9_add_3 K x1 s.1 s.2 P) (24, σ)
theorem s_X9_add {B : Nat} {E : Nat → List (Nat × Value) → List Value → Sto → Prop} {P : Sto → Prop} (C : Cy B E RX9 cX9_add 3 none 0 0 (Zm (QFv P))) (x1 : Int32) (σ : Sto) (h : w_X9_add x1 σ P) : E 0 [(0, .ref (B + 10)), (1, .int x1)] [] σ := by
  unfold w_X9_add at h
  refine f_bipush C (v := 24) dX9_add_0 kb24 rfl ?_
  refine f_istore_n C (lv2 := [(2, .int 24), (0, .ref (B + 10)), (1, .int x1)]) dX9_add_2 rfl (by decide) rfl rfl ?_
  refine f_lv C (lv2 := [(0, .ref (B + 10)), (1, .int x1), (2, .int 24)]) [1, 2, 0] rfl ?_
  exact Lp_sound (fun s : Int32 × Sto => E 3 [(0, .ref (B + 10)), (1, .int x1), (2, .int s.1)] [] s.2) h (fun K s hK h => s_X9_add_3 C x1 s.1 K (fun x2 σ hk => hK (x2, σ) hk) s.2 h)
theorem c_X9_add (x1 : Int32) (σ : Sto) (P : Sto → Prop) (h : w_X9_add x1 σ P) : Ct yX9_add cX9_add 3 none 0 0 (fun B => [.ref (B + 10), .int x1]) σ (QFv P) := Ct.of (by decide) (fun _ => Nat.le_of_ble_eq_true rfl) (fun B E C => s_X9_add C x1 σ h)
def w_X9_empty (σ : Sto) (P : Sto → Prop) : Prop :=
  P (si σ 10 2 0)
theorem s_X9_empty {B : Nat} {E : Nat → List (Nat × Value) → List Value → Sto → Prop} {P : Sto → Prop} (C : Cy B E RX9 cX9_empty 1 none 0 0 (Zm (QFv P))) (σ : Sto) (h : w_X9_empty σ P) : E 0 [(0, .ref (B + 10))] [] σ := by
  unfold w_X9_empty at h
  refine f_aload_n C (j := 0) dX9_empty_0 rfl rfl rfl ?_
  refine f_iconst C (v := 0) dX9_empty_1 kc0 rfl ?_
  refine f_puti C tF_X9_31 fm_9_2 rfl o10 dX9_empty_2 rfl ?_
  exact f_vret C dX9_empty_5 h
theorem c_X9_empty (σ : Sto) (P : Sto → Prop) (h : w_X9_empty σ P) : Ct yX9_empty cX9_empty 1 none 0 0 (fun B => [.ref (B + 10)]) σ (QFv P) := Ct.of (by decide) (fun _ => Nat.le_of_ble_eq_true rfl) (fun B E C => s_X9_empty C σ h)
def w_X10_isTray (x1 : Int32) (σ : Sto) (P : Int32 → Sto → Prop) : Prop :=
  (if x1 < 0 then P 0 σ else (if 4 ≤ x1 then P 0 σ else P 1 σ))
theorem s_X10_isTray {B : Nat} {E : Nat → List (Nat × Value) → List Value → Sto → Prop} {P : Int32 → Sto → Prop} (C : Cy B E RX10 cX10_isTray 2 (some .boolean) 0 0 (Zm (QFi P))) (x1 : Int32) (σ : Sto) (h : w_X10_isTray x1 σ P) : E 0 [(0, .ref (B + 2)), (1, .int x1)] [] σ := by
  unfold w_X10_isTray at h
  refine f_iload_n C (j := 1) dX10_isTray_0 rfl rfl rfl ?_
  refine f_if_lt C (t := 13) dX10_isTray_1 (by decide) rfl (fun hq_1 => ?_) (fun hq_1 => ?_)
  · replace h := Eq.mp (if_pos hq_1) h
    refine f_iconst C (v := 0) dX10_isTray_13 kc0 rfl ?_
    exact f_zret C (Or.inl rfl) dX10_isTray_14 h
  · replace h := Eq.mp (if_neg hq_1) h
    refine f_iload_n C (j := 1) dX10_isTray_4 rfl rfl rfl ?_
    refine f_iconst C (v := 4) dX10_isTray_5 kc4 rfl ?_
    refine f_icmp_ge C (t := 13) dX10_isTray_6 (by decide) rfl (fun hq_2 => ?_) (fun hq_2 => ?_)
    · replace h := Eq.mp (if_pos hq_2) h
      refine f_iconst C (v := 0) dX10_isTray_13 kc0 rfl ?_
      exact f_zret C (Or.inl rfl) dX10_isTray_14 h
    · replace h := Eq.mp (if_neg hq_2) h
      refine f_iconst C (v := 1) dX10_isTray_9 kc1 rfl ?_
      refine f_goto C (t := 14) dX10_isTray_10 (by decide) ?_
      exact f_zret C (Or.inr rfl) dX10_isTray_14 h
theorem c_X10_isTray (x1 : Int32) (σ : Sto) (P : Int32 → Sto → Prop) (h : w_X10_isTray x1 σ P) : Ct yX10_isTray cX10_isTray 2 (some .boolean) 0 0 (fun B => [.ref (B + 2), .int x1]) σ (QFi P) := Ct.of (by decide) (fun _ => Nat.le_of_ble_eq_true rfl) (fun B E C => s_X10_isTray C x1 σ h)
def w_X10_isSort (x1 : Int32) (σ : Sto) (P : Int32 → Sto → Prop) : Prop :=
  (if x1 < 0 then P 0 σ else (if 4 ≤ x1 then P 0 σ else P 1 σ))
theorem s_X10_isSort {B : Nat} {E : Nat → List (Nat × Value) → List Value → Sto → Prop} {P : Int32 → Sto → Prop} (C : Cy B E RX10 cX10_isSort 2 (some .boolean) 0 0 (Zm (QFi P))) (x1 : Int32) (σ : Sto) (h : w_X10_isSort x1 σ P) : E 0 [(0, .ref (B + 2)), (1, .int x1)] [] σ := by
  unfold w_X10_isSort at h
  refine f_iload_n C (j := 1) dX10_isSort_0 rfl rfl rfl ?_
  refine f_if_lt C (t := 13) dX10_isSort_1 (by decide) rfl (fun hq_1 => ?_) (fun hq_1 => ?_)
  · replace h := Eq.mp (if_pos hq_1) h
    refine f_iconst C (v := 0) dX10_isSort_13 kc0 rfl ?_
    exact f_zret C (Or.inl rfl) dX10_isSort_14 h
  · replace h := Eq.mp (if_neg hq_1) h
    refine f_iload_n C (j := 1) dX10_isSort_4 rfl rfl rfl ?_
    refine f_iconst C (v := 4) dX10_isSort_5 kc4 rfl ?_
    refine f_icmp_ge C (t := 13) dX10_isSort_6 (by decide) rfl (fun hq_2 => ?_) (fun hq_2 => ?_)
    · replace h := Eq.mp (if_pos hq_2) h
      refine f_iconst C (v := 0) dX10_isSort_13 kc0 rfl ?_
      exact f_zret C (Or.inl rfl) dX10_isSort_14 h
    · replace h := Eq.mp (if_neg hq_2) h
      refine f_iconst C (v := 1) dX10_isSort_9 kc1 rfl ?_
      refine f_goto C (t := 14) dX10_isSort_10 (by decide) ?_
      exact f_zret C (Or.inr rfl) dX10_isSort_14 h
theorem c_X10_isSort (x1 : Int32) (σ : Sto) (P : Int32 → Sto → Prop) (h : w_X10_isSort x1 σ P) : Ct yX10_isSort cX10_isSort 2 (some .boolean) 0 0 (fun B => [.ref (B + 2), .int x1]) σ (QFi P) := Ct.of (by decide) (fun _ => Nat.le_of_ble_eq_true rfl) (fun B E C => s_X10_isSort C x1 σ h)
def w_X10_isMissing (x1 : Int32) (σ : Sto) (P : Int32 → Sto → Prop) : Prop :=
  vp_in x1 4 ∧ (if 0 ≤ (gi σ 9 (tn x1)) then P 0 σ else P 1 σ)
theorem s_X10_isMissing {B : Nat} {E : Nat → List (Nat × Value) → List Value → Sto → Prop} {P : Int32 → Sto → Prop} (C : Cy B E RX10 cX10_isMissing 2 (some .boolean) 0 0 (Zm (QFi P))) (x1 : Int32) (σ : Sto) (h : w_X10_isMissing x1 σ P) : E 0 [(0, .ref (B + 2)), (1, .int x1)] [] σ := by
  unfold w_X10_isMissing at h
  refine f_aload_n C (j := 0) dX10_isMissing_0 rfl rfl rfl ?_
  refine f_getc C tF_X10_20 rfl o2 cs2_2 (by decide) dX10_isMissing_1 rfl ?_
  refine f_iload_n C (j := 1) dX10_isMissing_4 rfl rfl rfl ?_
  obtain ⟨hi_1, h⟩ := h
  refine f_iald C (j := tn x1) a9 hi_1 rfl dX10_isMissing_5 rfl ?_
  refine f_if_ge C (t := 13) dX10_isMissing_6 (by decide) rfl (fun hq_2 => ?_) (fun hq_2 => ?_)
  · replace h := Eq.mp (if_pos hq_2) h
    refine f_iconst C (v := 0) dX10_isMissing_13 kc0 rfl ?_
    exact f_zret C (Or.inl rfl) dX10_isMissing_14 h
  · replace h := Eq.mp (if_neg hq_2) h
    refine f_iconst C (v := 1) dX10_isMissing_9 kc1 rfl ?_
    refine f_goto C (t := 14) dX10_isMissing_10 (by decide) ?_
    exact f_zret C (Or.inr rfl) dX10_isMissing_14 h
theorem c_X10_isMissing (x1 : Int32) (σ : Sto) (P : Int32 → Sto → Prop) (h : w_X10_isMissing x1 σ P) : Ct yX10_isMissing cX10_isMissing 2 (some .boolean) 0 0 (fun B => [.ref (B + 2), .int x1]) σ (QFi P) := Ct.of (by decide) (fun _ => Nat.le_of_ble_eq_true rfl) (fun B E C => s_X10_isMissing C x1 σ h)
def w_X10_areAlike (x1 : Int32) (x2 : Int32) (σ : Sto) (P : Int32 → Sto → Prop) : Prop :=
  vp_in x1 4 ∧ vp_in x2 4 ∧ (if (gi σ 8 (tn x1)) = (gi σ 8 (tn x2)) then P 1 σ else P 0 σ)
theorem s_X10_areAlike {B : Nat} {E : Nat → List (Nat × Value) → List Value → Sto → Prop} {P : Int32 → Sto → Prop} (C : Cy B E RX10 cX10_areAlike 3 (some .boolean) 0 0 (Zm (QFi P))) (x1 : Int32) (x2 : Int32) (σ : Sto) (h : w_X10_areAlike x1 x2 σ P) : E 0 [(0, .ref (B + 2)), (1, .int x1), (2, .int x2)] [] σ := by
  unfold w_X10_areAlike at h
  refine f_aload_n C (j := 0) dX10_areAlike_0 rfl rfl rfl ?_
  refine f_getc C tF_X10_16 rfl o2 cs2_1 (by decide) dX10_areAlike_1 rfl ?_
  refine f_iload_n C (j := 1) dX10_areAlike_4 rfl rfl rfl ?_
  obtain ⟨hi_1, h⟩ := h
  refine f_iald C (j := tn x1) a8 hi_1 rfl dX10_areAlike_5 rfl ?_
  refine f_aload_n C (j := 0) dX10_areAlike_6 rfl rfl rfl ?_
  refine f_getc C tF_X10_16 rfl o2 cs2_1 (by decide) dX10_areAlike_7 rfl ?_
  refine f_iload_n C (j := 2) dX10_areAlike_10 rfl rfl rfl ?_
  obtain ⟨hi_2, h⟩ := h
  refine f_iald C (j := tn x2) a8 hi_2 rfl dX10_areAlike_11 rfl ?_
  refine f_icmp_ne C (t := 19) dX10_areAlike_12 (by decide) rfl (fun hq_3 => ?_) (fun hq_3 => ?_)
  · replace h := Eq.mp (if_neg hq_3) h
    refine f_iconst C (v := 0) dX10_areAlike_19 kc0 rfl ?_
    exact f_zret C (Or.inl rfl) dX10_areAlike_20 h
  · replace h := Eq.mp (if_pos hq_3) h
    refine f_iconst C (v := 1) dX10_areAlike_15 kc1 rfl ?_
    refine f_goto C (t := 20) dX10_areAlike_16 (by decide) ?_
    exact f_zret C (Or.inr rfl) dX10_areAlike_20 h
theorem c_X10_areAlike (x1 : Int32) (x2 : Int32) (σ : Sto) (P : Int32 → Sto → Prop) (h : w_X10_areAlike x1 x2 σ P) : Ct yX10_areAlike cX10_areAlike 3 (some .boolean) 0 0 (fun B => [.ref (B + 2), .int x1, .int x2]) σ (QFi P) := Ct.of (by decide) (fun _ => Nat.le_of_ble_eq_true rfl) (fun B E C => s_X10_areAlike C x1 x2 σ h)
def w_X10_has (x1 : Int32) (x2 : Int32) (x3 : Int32) (σ : Sto) (P : Int32 → Sto → Prop) : Prop :=
  (if x2 < 0 then P 0 σ else vp_in x1 4 ∧ (if (gi σ 9 (tn x1)) < x3 then P 0 σ else (if ((gi σ 9 (tn x1)) - x3) < x2 then P 0 σ else P 1 σ)))
theorem s_X10_has {B : Nat} {E : Nat → List (Nat × Value) → List Value → Sto → Prop} {P : Int32 → Sto → Prop} (C : Cy B E RX10 cX10_has 4 (some .boolean) 0 0 (Zm (QFi P))) (x1 : Int32) (x2 : Int32) (x3 : Int32) (σ : Sto) (h : w_X10_has x1 x2 x3 σ P) : E 0 [(0, .ref (B + 2)), (1, .int x1), (2, .int x2), (3, .int x3)] [] σ := by
  unfold w_X10_has at h
  refine f_iload_n C (j := 2) dX10_has_0 rfl rfl rfl ?_
  refine f_if_lt C (t := 30) dX10_has_1 (by decide) rfl (fun hq_1 => ?_) (fun hq_1 => ?_)
  · replace h := Eq.mp (if_pos hq_1) h
    refine f_iconst C (v := 0) dX10_has_30 kc0 rfl ?_
    exact f_zret C (Or.inl rfl) dX10_has_31 h
  · replace h := Eq.mp (if_neg hq_1) h
    refine f_iload_n C (j := 3) dX10_has_4 rfl rfl rfl ?_
    refine f_aload_n C (j := 0) dX10_has_5 rfl rfl rfl ?_
    refine f_getc C tF_X10_20 rfl o2 cs2_2 (by decide) dX10_has_6 rfl ?_
    refine f_iload_n C (j := 1) dX10_has_9 rfl rfl rfl ?_
    obtain ⟨hi_2, h⟩ := h
    refine f_iald C (j := tn x1) a9 hi_2 rfl dX10_has_10 rfl ?_
    refine f_icmp_gt C (t := 30) dX10_has_11 (by decide) rfl (fun hq_3 => ?_) (fun hq_3 => ?_)
    · replace h := Eq.mp (if_pos hq_3) h
      refine f_iconst C (v := 0) dX10_has_30 kc0 rfl ?_
      exact f_zret C (Or.inl rfl) dX10_has_31 h
    · replace h := Eq.mp (if_neg hq_3) h
      refine f_iload_n C (j := 2) dX10_has_14 rfl rfl rfl ?_
      refine f_aload_n C (j := 0) dX10_has_15 rfl rfl rfl ?_
      refine f_getc C tF_X10_20 rfl o2 cs2_2 (by decide) dX10_has_16 rfl ?_
      refine f_iload_n C (j := 1) dX10_has_19 rfl rfl rfl ?_
      refine f_iald C (j := tn x1) a9 hi_2 rfl dX10_has_20 rfl ?_
      refine f_iload_n C (j := 3) dX10_has_21 rfl rfl rfl ?_
      refine f_isub C dX10_has_22 rfl ?_
      refine f_icmp_gt C (t := 30) dX10_has_23 (by decide) rfl (fun hq_4 => ?_) (fun hq_4 => ?_)
      · replace h := Eq.mp (if_pos hq_4) h
        refine f_iconst C (v := 0) dX10_has_30 kc0 rfl ?_
        exact f_zret C (Or.inl rfl) dX10_has_31 h
      · replace h := Eq.mp (if_neg hq_4) h
        refine f_iconst C (v := 1) dX10_has_26 kc1 rfl ?_
        refine f_goto C (t := 31) dX10_has_27 (by decide) ?_
        exact f_zret C (Or.inr rfl) dX10_has_31 h
theorem c_X10_has (x1 : Int32) (x2 : Int32) (x3 : Int32) (σ : Sto) (P : Int32 → Sto → Prop) (h : w_X10_has x1 x2 x3 σ P) : Ct yX10_has cX10_has 4 (some .boolean) 0 0 (fun B => [.ref (B + 2), .int x1, .int x2, .int x3]) σ (QFi P) := Ct.of (by decide) (fun _ => Nat.le_of_ble_eq_true rfl) (fun B E C => s_X10_has C x1 x2 x3 σ h)
def w_X10_lay (x1 : Int32) (x2 : Int32) (x3 : Int32) (σ : Sto) (P : Sto → Prop) : Prop :=
  vp_in x1 4 ∧ w_J7_fill_d0a16 (4 + x1.toNatClampNeg) 60 0 (si (si σ 8 (tn x1) x2) 9 (tn x1) x3) (fun σ_2 => P σ_2)
theorem s_X10_lay {B : Nat} {E : Nat → List (Nat × Value) → List Value → Sto → Prop} {P : Sto → Prop} (C : Cy B E RX10 cX10_lay 4 none 1 24 (Zm (QFv P))) (x1 : Int32) (x2 : Int32) (x3 : Int32) (σ : Sto) (h : w_X10_lay x1 x2 x3 σ P) : E 0 [(0, .ref (B + 2)), (1, .int x1), (2, .int x2), (3, .int x3)] [] σ := by
  unfold w_X10_lay at h
  refine f_aload_n C (j := 0) dX10_lay_0 rfl rfl rfl ?_
  refine f_getc C tF_X10_16 rfl o2 cs2_1 (by decide) dX10_lay_1 rfl ?_
  refine f_iload_n C (j := 1) dX10_lay_4 rfl rfl rfl ?_
  refine f_iload_n C (j := 2) dX10_lay_5 rfl rfl rfl ?_
  obtain ⟨hi_1, h⟩ := h
  refine f_iast C (j := tn x1) a8 hi_1 rfl dX10_lay_6 rfl ?_
  refine f_aload_n C (j := 0) dX10_lay_7 rfl rfl rfl ?_
  refine f_getc C tF_X10_20 rfl o2 cs2_2 (by decide) dX10_lay_8 rfl ?_
  refine f_iload_n C (j := 1) dX10_lay_11 rfl rfl rfl ?_
  refine f_iload_n C (j := 3) dX10_lay_12 rfl rfl rfl ?_
  refine f_iast C (j := tn x1) a9 hi_1 rfl dX10_lay_13 rfl ?_
  refine f_aload_n C (j := 0) dX10_lay_14 rfl rfl rfl ?_
  refine f_getc C tF_X10_13 rfl o2 cs2_0 (by decide) dX10_lay_15 rfl ?_
  refine f_iload_n C (j := 1) dX10_lay_18 rfl rfl rfl ?_
  refine f_aald5 C a3 hi_1 (cs_rows hi_1) (by omega) dX10_lay_19 rfl ?_
  refine f_lconst C (v := 0) dX10_lay_20 (by decide) rfl ?_
  refine f_callSv C (As := fun B => [.ref (B + (4 + x1.toNatClampNeg)), .long 0]) (c_J7_fill_d0a16  _ _ _ _ _ h) tM_X10_29 tT_J7_fill_d0a16 tN_J7 tC_J7_fill_d0a16 2 dd_J7_fill_d0a16 rfl (by decide) (by decide) rfl (Nat.le_of_ble_eq_true rfl) dX10_lay_21 rfl (fun σ_2 h => ?_)
  exact f_vret C dX10_lay_24 h
theorem c_X10_lay (x1 : Int32) (x2 : Int32) (x3 : Int32) (σ : Sto) (P : Sto → Prop) (h : w_X10_lay x1 x2 x3 σ P) : Ct yX10_lay cX10_lay 4 none 1 24 (fun B => [.ref (B + 2), .int x1, .int x2, .int x3]) σ (QFv P) := Ct.of (by decide) (fun _ => Nat.le_of_ble_eq_true rfl) (fun B E C => s_X10_lay C x1 x2 x3 σ h)
def w_X10_cut (x0 : Int32) (x1 : Int64) (σ : Sto) (P : Int64 → Sto → Prop) : Prop :=
  ∀ sw_1 : Int32, sw_1 = x0 → (if sw_1 = 0 then P x1.toInt32.toInt8.toInt32.toInt64 σ else (if sw_1 = 1 then P x1.toInt32.toInt16.toInt32.toInt64 σ else (if sw_1 = 2 then P x1.toInt32.toInt64 σ else P x1 σ)))
theorem s_X10_cut {B : Nat} {E : Nat → List (Nat × Value) → List Value → Sto → Prop} {P : Int64 → Sto → Prop} (C : Cy B E RX10 cX10_cut 3 (some .long) 0 0 (Zm (QFl P))) (x0 : Int32) (x1 : Int64) (σ : Sto) (h : w_X10_cut x0 x1 σ P) : E 0 [(0, .int x0), (1, .long x1)] [] σ := by
  unfold w_X10_cut at h
  refine f_iload_n C (j := 0) dX10_cut_0 rfl rfl rfl ?_
  refine f_name (fun sw_1 hsw_1 => ?_)
  replace h := h sw_1 hsw_1
  by_cases hq_2 : sw_1 = 0
  · replace h := Eq.mp (if_pos hq_2) h
    refine f_tableIn C (off := 27) (t := 28) dX10_cut_1 (by rw [hq_2]; decide) (by rw [hq_2]; decide) (by rw [hq_2]; rfl) (by decide) ?_
    refine f_lload_n C (j := 1) dX10_cut_28 rfl rfl rfl ?_
    refine f_l2i C dX10_cut_29 rfl ?_
    refine f_i2b C dX10_cut_30 rfl ?_
    refine f_i2l C dX10_cut_31 rfl ?_
    exact f_lret C dX10_cut_32 h
  replace h := Eq.mp (if_neg hq_2) h
  by_cases hq_3 : sw_1 = 1
  · replace h := Eq.mp (if_pos hq_3) h
    refine f_tableIn C (off := 32) (t := 33) dX10_cut_1 (by rw [hq_3]; decide) (by rw [hq_3]; decide) (by rw [hq_3]; rfl) (by decide) ?_
    refine f_lload_n C (j := 1) dX10_cut_33 rfl rfl rfl ?_
    refine f_l2i C dX10_cut_34 rfl ?_
    refine f_i2s C dX10_cut_35 rfl ?_
    refine f_i2l C dX10_cut_36 rfl ?_
    exact f_lret C dX10_cut_37 h
  replace h := Eq.mp (if_neg hq_3) h
  by_cases hq_4 : sw_1 = 2
  · replace h := Eq.mp (if_pos hq_4) h
    refine f_tableIn C (off := 37) (t := 38) dX10_cut_1 (by rw [hq_4]; decide) (by rw [hq_4]; decide) (by rw [hq_4]; rfl) (by decide) ?_
    refine f_lload_n C (j := 1) dX10_cut_38 rfl rfl rfl ?_
    refine f_l2i C dX10_cut_39 rfl ?_
    refine f_i2l C dX10_cut_40 rfl ?_
    exact f_lret C dX10_cut_41 h
  replace h := Eq.mp (if_neg hq_4) h
  refine f_tableOut C (t := 42) dX10_cut_1 (tsw_out (lo := 0) (hi := 2) 3 (by decide) (fun k hk => ?_)) (by decide) ?_
  · match k, hk with
    | 0, _ => exact toInt_ne (by decide) hq_2
    | 1, _ => exact toInt_ne (by decide) hq_3
    | 2, _ => exact toInt_ne (by decide) hq_4
  refine f_lload_n C (j := 1) dX10_cut_42 rfl rfl rfl ?_
  exact f_lret C dX10_cut_43 h
theorem c_X10_cut (x0 : Int32) (x1 : Int64) (σ : Sto) (P : Int64 → Sto → Prop) (h : w_X10_cut x0 x1 σ P) : Ct yX10_cut cX10_cut 3 (some .long) 0 0 (fun B => [.int x0, .long x1]) σ (QFl P) := Ct.of (by decide) (fun _ => Nat.le_of_ble_eq_true rfl) (fun B E C => s_X10_cut C x0 x1 σ h)
def w_X10_put (x1 : Int32) (x2 : Int32) (x3 : Int64) (σ : Sto) (P : Sto → Prop) : Prop :=
  vp_in x1 4 ∧ w_X10_cut (gi σ 8 (tn x1)) x3 σ (fun r_3 σ_2 => vp_in x2 60 ∧ P (sl σ_2 (4 + x1.toNatClampNeg) (tn x2) r_3))
theorem s_X10_put {B : Nat} {E : Nat → List (Nat × Value) → List Value → Sto → Prop} {P : Sto → Prop} (C : Cy B E RX10 cX10_put 5 none 1 22 (Zm (QFv P))) (x1 : Int32) (x2 : Int32) (x3 : Int64) (σ : Sto) (h : w_X10_put x1 x2 x3 σ P) : E 0 [(0, .ref (B + 2)), (1, .int x1), (2, .int x2), (3, .long x3)] [] σ := by
  unfold w_X10_put at h
  refine f_aload_n C (j := 0) dX10_put_0 rfl rfl rfl ?_
  refine f_getc C tF_X10_13 rfl o2 cs2_0 (by decide) dX10_put_1 rfl ?_
  refine f_iload_n C (j := 1) dX10_put_4 rfl rfl rfl ?_
  obtain ⟨hi_1, h⟩ := h
  refine f_aald5 C a3 hi_1 (cs_rows hi_1) (by omega) dX10_put_5 rfl ?_
  refine f_iload_n C (j := 2) dX10_put_6 rfl rfl rfl ?_
  refine f_aload_n C (j := 0) dX10_put_7 rfl rfl rfl ?_
  refine f_getc C tF_X10_16 rfl o2 cs2_1 (by decide) dX10_put_8 rfl ?_
  refine f_iload_n C (j := 1) dX10_put_11 rfl rfl rfl ?_
  refine f_iald C (j := tn x1) a8 hi_1 rfl dX10_put_12 rfl ?_
  refine f_lload_n C (j := 3) dX10_put_13 rfl rfl rfl ?_
  refine f_callSl C (As := fun B => [.int (gi σ 8 (tn x1)), .long x3]) (c_X10_cut  _ _ _ _ h) tM_X10_32 tT_X10_cut tN_X10 tC_X10_cut 2 dd_X10_cut rfl (by decide) (by decide) rfl (Nat.le_of_ble_eq_true rfl) dX10_put_14 rfl (fun r_3 σ_2 h => ?_)
  obtain ⟨hi_4, h⟩ := h
  refine f_last C (j := tn x2) (is_row hi_1) hi_4 rfl dX10_put_17 rfl ?_
  exact f_vret C dX10_put_18 h
theorem c_X10_put (x1 : Int32) (x2 : Int32) (x3 : Int64) (σ : Sto) (P : Sto → Prop) (h : w_X10_put x1 x2 x3 σ P) : Ct yX10_put cX10_put 5 none 1 22 (fun B => [.ref (B + 2), .int x1, .int x2, .long x3]) σ (QFv P) := Ct.of (by decide) (fun _ => Nat.le_of_ble_eq_true rfl) (fun B E C => s_X10_put C x1 x2 x3 σ h)
def w_X10_number (x1 : Int32) (x2 : Int32) (σ : Sto) (P : Int64 → Sto → Prop) : Prop :=
  vp_in x1 4 ∧ vp_in x2 60 ∧ P (gl σ (4 + x1.toNatClampNeg) (tn x2)) σ
theorem s_X10_number {B : Nat} {E : Nat → List (Nat × Value) → List Value → Sto → Prop} {P : Int64 → Sto → Prop} (C : Cy B E RX10 cX10_number 3 (some .long) 0 0 (Zm (QFl P))) (x1 : Int32) (x2 : Int32) (σ : Sto) (h : w_X10_number x1 x2 σ P) : E 0 [(0, .ref (B + 2)), (1, .int x1), (2, .int x2)] [] σ := by
  unfold w_X10_number at h
  refine f_aload_n C (j := 0) dX10_number_0 rfl rfl rfl ?_
  refine f_getc C tF_X10_13 rfl o2 cs2_0 (by decide) dX10_number_1 rfl ?_
  refine f_iload_n C (j := 1) dX10_number_4 rfl rfl rfl ?_
  obtain ⟨hi_1, h⟩ := h
  refine f_aald5 C a3 hi_1 (cs_rows hi_1) (by omega) dX10_number_5 rfl ?_
  refine f_iload_n C (j := 2) dX10_number_6 rfl rfl rfl ?_
  obtain ⟨hi_2, h⟩ := h
  refine f_lald C (j := tn x2) (is_row hi_1) hi_2 rfl dX10_number_7 rfl ?_
  exact f_lret C dX10_number_8 h
theorem c_X10_number (x1 : Int32) (x2 : Int32) (σ : Sto) (P : Int64 → Sto → Prop) (h : w_X10_number x1 x2 σ P) : Ct yX10_number cX10_number 3 (some .long) 0 0 (fun B => [.ref (B + 2), .int x1, .int x2]) σ (QFl P) := Ct.of (by decide) (fun _ => Nat.le_of_ble_eq_true rfl) (fun B E C => s_X10_number C x1 x2 σ h)
def w_X10_move (x1 : Int32) (x2 : Int32) (x3 : Int32) (x4 : Int32) (x5 : Int32) (σ : Sto) (P : Sto → Prop) : Prop :=
  vp_in x1 4 ∧ vp_in x3 4 ∧ ¬ x2 < 0 ∧ ¬ x4 < 0 ∧ ¬ x5 < 0 ∧ tn x2 + tn x5 ≤ 60 ∧ tn x4 + tn x5 ≤ 60 ∧ P (cpl σ (4 + x1.toNatClampNeg) (tn x2) (4 + x3.toNatClampNeg) (tn x4) (tn x5))
theorem s_X10_move {B : Nat} {E : Nat → List (Nat × Value) → List Value → Sto → Prop} {P : Sto → Prop} (C : Cy B E RX10 cX10_move 6 none 1 26 (Zm (QFv P))) (x1 : Int32) (x2 : Int32) (x3 : Int32) (x4 : Int32) (x5 : Int32) (σ : Sto) (h : w_X10_move x1 x2 x3 x4 x5 σ P) : E 0 [(0, .ref (B + 2)), (1, .int x1), (2, .int x2), (3, .int x3), (4, .int x4), (5, .int x5)] [] σ := by
  unfold w_X10_move at h
  refine f_aload_n C (j := 0) dX10_move_0 rfl rfl rfl ?_
  refine f_getc C tF_X10_13 rfl o2 cs2_0 (by decide) dX10_move_1 rfl ?_
  refine f_iload_n C (j := 1) dX10_move_4 rfl rfl rfl ?_
  obtain ⟨hi_1, h⟩ := h
  refine f_aald5 C a3 hi_1 (cs_rows hi_1) (by omega) dX10_move_5 rfl ?_
  refine f_iload_n C (j := 2) dX10_move_6 rfl rfl rfl ?_
  refine f_aload_n C (j := 0) dX10_move_7 rfl rfl rfl ?_
  refine f_getc C tF_X10_13 rfl o2 cs2_0 (by decide) dX10_move_8 rfl ?_
  refine f_iload_n C (j := 3) dX10_move_11 rfl rfl rfl ?_
  obtain ⟨hi_2, h⟩ := h
  refine f_aald5 C a3 hi_2 (cs_rows hi_2) (by omega) dX10_move_12 rfl ?_
  refine f_iload C (j := 4) dX10_move_13 rfl rfl ?_
  refine f_iload C (j := 5) dX10_move_15 rfl rfl ?_
  obtain ⟨hn_3, h⟩ := h
  obtain ⟨hn_4, h⟩ := h
  obtain ⟨hn_5, h⟩ := h
  obtain ⟨hl_6, h⟩ := h
  obtain ⟨hl_7, h⟩ := h
  refine f_copyl C (spj := tn x2) (dpj := tn x4) (nj := tn x5) tM_X10_36 tNa_arraycopy tT_arraycopy tN_System (by decide) (by decide) (is_row hi_1) (is_row hi_2) hn_3 hn_4 hn_5 rfl rfl rfl hl_6 hl_7 (Nat.le_of_ble_eq_true rfl) dX10_move_17 rfl ?_
  exact f_vret C dX10_move_20 h
theorem c_X10_move (x1 : Int32) (x2 : Int32) (x3 : Int32) (x4 : Int32) (x5 : Int32) (σ : Sto) (P : Sto → Prop) (h : w_X10_move x1 x2 x3 x4 x5 σ P) : Ct yX10_move cX10_move 6 none 1 26 (fun B => [.ref (B + 2), .int x1, .int x2, .int x3, .int x4, .int x5]) σ (QFv P) := Ct.of (by decide) (fun _ => Nat.le_of_ble_eq_true rfl) (fun B E C => s_X10_move C x1 x2 x3 x4 x5 σ h)
def w_X11_fine (x1 : Int32) (σ : Sto) (P : Int32 → Sto → Prop) : Prop :=
  P x1 (si σ 1 15 0)
theorem s_X11_fine {B : Nat} {E : Nat → List (Nat × Value) → List Value → Sto → Prop} {P : Int32 → Sto → Prop} (C : Cy B E RX11 cX11_fine 2 (some .int) 0 0 (Zm (QFi P))) (x1 : Int32) (σ : Sto) (h : w_X11_fine x1 σ P) : E 0 [(0, .ref (B + 1)), (1, .int x1)] [] σ := by
  unfold w_X11_fine at h
  refine f_aload_n C (j := 0) dX11_fine_0 rfl rfl rfl ?_
  refine f_iconst C (v := 0) dX11_fine_1 kc0 rfl ?_
  refine f_puti C tF_X11_110 fm_11_15 rfl o1 dX11_fine_2 rfl ?_
  refine f_iload_n C (j := 1) dX11_fine_5 rfl rfl rfl ?_
  exact f_iret C dX11_fine_6 h
theorem c_X11_fine (x1 : Int32) (σ : Sto) (P : Int32 → Sto → Prop) (h : w_X11_fine x1 σ P) : Ct yX11_fine cX11_fine 2 (some .int) 0 0 (fun B => [.ref (B + 1), .int x1]) σ (QFi P) := Ct.of (by decide) (fun _ => Nat.le_of_ble_eq_true rfl) (fun B E C => s_X11_fine C x1 σ h)
def w_X11_fineSo (σ : Sto) (P : Int32 → Sto → Prop) : Prop :=
  P 1 (si σ 1 15 0)
theorem s_X11_fineSo {B : Nat} {E : Nat → List (Nat × Value) → List Value → Sto → Prop} {P : Int32 → Sto → Prop} (C : Cy B E RX11 cX11_fineSo 1 (some .boolean) 0 0 (Zm (QFi P))) (σ : Sto) (h : w_X11_fineSo σ P) : E 0 [(0, .ref (B + 1))] [] σ := by
  unfold w_X11_fineSo at h
  refine f_aload_n C (j := 0) dX11_fineSo_0 rfl rfl rfl ?_
  refine f_iconst C (v := 0) dX11_fineSo_1 kc0 rfl ?_
  refine f_puti C tF_X11_110 fm_11_15 rfl o1 dX11_fineSo_2 rfl ?_
  refine f_iconst C (v := 1) dX11_fineSo_5 kc1 rfl ?_
  exact f_zret C (Or.inr rfl) dX11_fineSo_6 h
theorem c_X11_fineSo (σ : Sto) (P : Int32 → Sto → Prop) (h : w_X11_fineSo σ P) : Ct yX11_fineSo cX11_fineSo 1 (some .boolean) 0 0 (fun B => [.ref (B + 1)]) σ (QFi P) := Ct.of (by decide) (fun _ => Nat.le_of_ble_eq_true rfl) (fun B E C => s_X11_fineSo C σ h)
def w_X11_refuse (x1 : Int32) (σ : Sto) (P : Int32 → Sto → Prop) : Prop :=
  P (-1) (si σ 1 15 x1)
theorem s_X11_refuse {B : Nat} {E : Nat → List (Nat × Value) → List Value → Sto → Prop} {P : Int32 → Sto → Prop} (C : Cy B E RX11 cX11_refuse 2 (some .int) 0 0 (Zm (QFi P))) (x1 : Int32) (σ : Sto) (h : w_X11_refuse x1 σ P) : E 0 [(0, .ref (B + 1)), (1, .int x1)] [] σ := by
  unfold w_X11_refuse at h
  refine f_aload_n C (j := 0) dX11_refuse_0 rfl rfl rfl ?_
  refine f_iload_n C (j := 1) dX11_refuse_1 rfl rfl rfl ?_
  refine f_puti C tF_X11_110 fm_11_15 rfl o1 dX11_refuse_2 rfl ?_
  refine f_iconst C (v := (-1)) dX11_refuse_5 kcm1 rfl ?_
  exact f_iret C dX11_refuse_6 h
theorem c_X11_refuse (x1 : Int32) (σ : Sto) (P : Int32 → Sto → Prop) (h : w_X11_refuse x1 σ P) : Ct yX11_refuse cX11_refuse 2 (some .int) 0 0 (fun B => [.ref (B + 1), .int x1]) σ (QFi P) := Ct.of (by decide) (fun _ => Nat.le_of_ble_eq_true rfl) (fun B E C => s_X11_refuse C x1 σ h)
def w_X11_refuseSo (x1 : Int32) (σ : Sto) (P : Int32 → Sto → Prop) : Prop :=
  P 0 (si σ 1 15 x1)
theorem s_X11_refuseSo {B : Nat} {E : Nat → List (Nat × Value) → List Value → Sto → Prop} {P : Int32 → Sto → Prop} (C : Cy B E RX11 cX11_refuseSo 2 (some .boolean) 0 0 (Zm (QFi P))) (x1 : Int32) (σ : Sto) (h : w_X11_refuseSo x1 σ P) : E 0 [(0, .ref (B + 1)), (1, .int x1)] [] σ := by
  unfold w_X11_refuseSo at h
  refine f_aload_n C (j := 0) dX11_refuseSo_0 rfl rfl rfl ?_
  refine f_iload_n C (j := 1) dX11_refuseSo_1 rfl rfl rfl ?_
  refine f_puti C tF_X11_110 fm_11_15 rfl o1 dX11_refuseSo_2 rfl ?_
  refine f_iconst C (v := 0) dX11_refuseSo_5 kc0 rfl ?_
  exact f_zret C (Or.inl rfl) dX11_refuseSo_6 h
theorem c_X11_refuseSo (x1 : Int32) (σ : Sto) (P : Int32 → Sto → Prop) (h : w_X11_refuseSo x1 σ P) : Ct yX11_refuseSo cX11_refuseSo 2 (some .boolean) 0 0 (fun B => [.ref (B + 1), .int x1]) σ (QFi P) := Ct.of (by decide) (fun _ => Nat.le_of_ble_eq_true rfl) (fun B E C => s_X11_refuseSo C x1 σ h)
def w_X11_fineOrNone (x1 : Int32) (σ : Sto) (P : Int32 → Sto → Prop) : Prop :=
  (if x1 = (-1) then w_X11_refuse 8 σ (fun r_5 σ_4 => P r_5 σ_4) else w_X11_fine x1 σ (fun r_3 σ_2 => P r_3 σ_2))
theorem s_X11_fineOrNone {B : Nat} {E : Nat → List (Nat × Value) → List Value → Sto → Prop} {P : Int32 → Sto → Prop} (C : Cy B E RX11 cX11_fineOrNone 2 (some .int) 1 21 (Zm (QFi P))) (x1 : Int32) (σ : Sto) (h : w_X11_fineOrNone x1 σ P) : E 0 [(0, .ref (B + 1)), (1, .int x1)] [] σ := by
  unfold w_X11_fineOrNone at h
  refine f_iload_n C (j := 1) dX11_fineOrNone_0 rfl rfl rfl ?_
  refine f_iconst C (v := (-1)) dX11_fineOrNone_1 kcm1 rfl ?_
  refine f_icmp_ne C (t := 14) dX11_fineOrNone_2 (by decide) rfl (fun hq_1 => ?_) (fun hq_1 => ?_)
  · replace h := Eq.mp (if_neg hq_1) h
    refine f_aload_n C (j := 0) dX11_fineOrNone_14 rfl rfl rfl ?_
    refine f_iload_n C (j := 1) dX11_fineOrNone_15 rfl rfl rfl ?_
    refine f_callVi C (a := 1) (ci := 11) (As := fun B => [.int x1]) o1 rfl (c_X11_fine  _ _ _ h) tM_X11_130 tI_X11_fine tS_X11_fine tN_X11 tC_X11_fine 1 dd_X11_fine rfl (by decide) (by decide) rfl (Nat.le_of_ble_eq_true rfl) dX11_fineOrNone_16 rfl (fun r_3 σ_2 h => ?_)
    exact f_iret C dX11_fineOrNone_19 h
  · replace h := Eq.mp (if_pos hq_1) h
    refine f_aload_n C (j := 0) dX11_fineOrNone_5 rfl rfl rfl ?_
    refine f_bipush C (v := 8) dX11_fineOrNone_6 kb8 rfl ?_
    refine f_callVi C (a := 1) (ci := 11) (As := fun B => [.int 8]) o1 rfl (c_X11_refuse  _ _ _ h) tM_X11_126 tI_X11_refuse tS_X11_refuse tN_X11 tC_X11_refuse 1 dd_X11_refuse rfl (by decide) (by decide) rfl (Nat.le_of_ble_eq_true rfl) dX11_fineOrNone_8 rfl (fun r_5 σ_4 h => ?_)
    refine f_goto C (t := 19) dX11_fineOrNone_11 (by decide) ?_
    exact f_iret C dX11_fineOrNone_19 h
theorem c_X11_fineOrNone (x1 : Int32) (σ : Sto) (P : Int32 → Sto → Prop) (h : w_X11_fineOrNone x1 σ P) : Ct yX11_fineOrNone cX11_fineOrNone 2 (some .int) 1 21 (fun B => [.ref (B + 1), .int x1]) σ (QFi P) := Ct.of (by decide) (fun _ => Nat.le_of_ble_eq_true rfl) (fun B E C => s_X11_fineOrNone C x1 σ h)
def w_X11_tellFraction_51 (x1 : Int64) (x3 : Int64) (x5 : Int64) (σ : Sto) (P : Sto → Prop) : Prop :=
  (if (lg_cmp x1 0) = 0 then P (sl (sl σ 1 16 0) 1 17 1) else (if (lg_cmp x3 0) = 0 then P (sl (sl σ 1 16 0) 1 17 1) else (if (lg_cmp x5 0) = 0 then P (sl (sl σ 1 16 0) 1 17 1) else ¬ x5 = 0 ∧ P (sl (sl σ 1 16 (x1 / x5)) 1 17 (x3 / x5)))))
theorem s_X11_tellFraction_51 {B : Nat} {E : Nat → List (Nat × Value) → List Value → Sto → Prop} {P : Sto → Prop} (C : Cy B E RX11 cX11_tellFraction 12 none 1 21 (Zm (QFv P))) (x1 : Int64) (x3 : Int64) (x5 : Int64) (σ : Sto) (h : w_X11_tellFraction_51 x1 x3 x5 σ P) : E 51 [(0, .ref (B + 1)), (1, .long x1), (3, .long x3), (5, .long x5)] [] σ := by
  unfold w_X11_tellFraction_51 at h
  refine f_lload_n C (j := 1) dX11_tellFraction_51 rfl rfl rfl ?_
  refine f_lconst C (v := 0) dX11_tellFraction_52 (by decide) rfl ?_
  refine f_lcmp C dX11_tellFraction_53 rfl ?_
  refine f_if_eq C (t := 70) dX11_tellFraction_54 (by decide) rfl (fun hq_6 => ?_) (fun hq_6 => ?_)
  · replace h := Eq.mp (if_pos hq_6) h
    refine f_aload_n C (j := 0) dX11_tellFraction_70 rfl rfl rfl ?_
    refine f_lconst C (v := 0) dX11_tellFraction_71 (by decide) rfl ?_
    refine f_putl C tF_X11_113 fm_11_16 rfl o1 dX11_tellFraction_72 rfl ?_
    refine f_aload_n C (j := 0) dX11_tellFraction_75 rfl rfl rfl ?_
    refine f_lconst C (v := 1) dX11_tellFraction_76 (by decide) rfl ?_
    refine f_putl C tF_X11_117 fm_11_17 rfl o1 dX11_tellFraction_77 rfl ?_
    exact f_vret C dX11_tellFraction_80 h
  · replace h := Eq.mp (if_neg hq_6) h
    refine f_lload_n C (j := 2) dX11_tellFraction_57 rfl rfl rfl ?_
    refine f_lconst C (v := 0) dX11_tellFraction_58 (by decide) rfl ?_
    refine f_lcmp C dX11_tellFraction_59 rfl ?_
    refine f_if_eq C (t := 70) dX11_tellFraction_60 (by decide) rfl (fun hq_7 => ?_) (fun hq_7 => ?_)
    · replace h := Eq.mp (if_pos hq_7) h
      refine f_aload_n C (j := 0) dX11_tellFraction_70 rfl rfl rfl ?_
      refine f_lconst C (v := 0) dX11_tellFraction_71 (by decide) rfl ?_
      refine f_putl C tF_X11_113 fm_11_16 rfl o1 dX11_tellFraction_72 rfl ?_
      refine f_aload_n C (j := 0) dX11_tellFraction_75 rfl rfl rfl ?_
      refine f_lconst C (v := 1) dX11_tellFraction_76 (by decide) rfl ?_
      refine f_putl C tF_X11_117 fm_11_17 rfl o1 dX11_tellFraction_77 rfl ?_
      exact f_vret C dX11_tellFraction_80 h
    · replace h := Eq.mp (if_neg hq_7) h
      refine f_lload C (j := 3) dX11_tellFraction_63 rfl rfl ?_
      refine f_lconst C (v := 0) dX11_tellFraction_65 (by decide) rfl ?_
      refine f_lcmp C dX11_tellFraction_66 rfl ?_
      refine f_if_ne C (t := 81) dX11_tellFraction_67 (by decide) rfl (fun hq_8 => ?_) (fun hq_8 => ?_)
      · replace h := Eq.mp (if_neg hq_8) h
        refine f_aload_n C (j := 0) dX11_tellFraction_81 rfl rfl rfl ?_
        refine f_lload_n C (j := 1) dX11_tellFraction_82 rfl rfl rfl ?_
        refine f_lload C (j := 3) dX11_tellFraction_83 rfl rfl ?_
        obtain ⟨hz_9, h⟩ := h
        refine f_ldiv C dX11_tellFraction_85 hz_9 rfl ?_
        refine f_putl C tF_X11_113 fm_11_16 rfl o1 dX11_tellFraction_86 rfl ?_
        refine f_aload_n C (j := 0) dX11_tellFraction_89 rfl rfl rfl ?_
        refine f_lload_n C (j := 2) dX11_tellFraction_90 rfl rfl rfl ?_
        refine f_lload C (j := 3) dX11_tellFraction_91 rfl rfl ?_
        refine f_ldiv C dX11_tellFraction_93 hz_9 rfl ?_
        refine f_putl C tF_X11_117 fm_11_17 rfl o1 dX11_tellFraction_94 rfl ?_
        exact f_vret C dX11_tellFraction_97 h
      · replace h := Eq.mp (if_pos hq_8) h
        refine f_aload_n C (j := 0) dX11_tellFraction_70 rfl rfl rfl ?_
        refine f_lconst C (v := 0) dX11_tellFraction_71 (by decide) rfl ?_
        refine f_putl C tF_X11_113 fm_11_16 rfl o1 dX11_tellFraction_72 rfl ?_
        refine f_aload_n C (j := 0) dX11_tellFraction_75 rfl rfl rfl ?_
        refine f_lconst C (v := 1) dX11_tellFraction_76 (by decide) rfl ?_
        refine f_putl C tF_X11_117 fm_11_17 rfl o1 dX11_tellFraction_77 rfl ?_
        exact f_vret C dX11_tellFraction_80 h
def w_X11_tellFraction_15 (K15 : Int64 × Int64 × Int32 × Sto → Prop) (x1 : Int64) (x3 : Int64) (x5 : Int64) (x7 : Int64) (x9 : Int32) (σ : Sto) (P : Sto → Prop) : Prop :=
  (if 200 ≤ x9 then w_X11_tellFraction_51 x1 x3 x5 σ P else (if (lg_cmp x7 0) = 0 then w_X11_tellFraction_51 x1 x3 x5 σ P else ¬ x7 = 0 ∧ ∀ x10_12 : Int64, x10_12 = x5 - x5 / x7 * x7 → ∀ x9_14 : Int32, x9_14 = x9 + 1 → K15 (x7, x10_12, x9_14, σ)))
theorem s_X11_tellFraction_15 {B : Nat} {E : Nat → List (Nat × Value) → List Value → Sto → Prop} {P : Sto → Prop} (C : Cy B E RX11 cX11_tellFraction 12 none 1 21 (Zm (QFv P))) (x1 : Int64) (x3 : Int64) (x5 : Int64) (x7 : Int64) (x9 : Int32) (K15 : Int64 × Int64 × Int32 × Sto → Prop) (hK15 : ∀ (x5 : Int64) (x7 : Int64) (x9 : Int32) (σ : Sto), K15 (x5, x7, x9, σ) → E 15 [(0, .ref (B + 1)), (1, .long x1), (3, .long x3), (5, .long x5), (7, .long x7), (9, .int x9)] [] σ) (σ : Sto) (h : w_X11_tellFraction_15 K15 x1 x3 x5 x7 x9 σ P) : E 15 [(0, .ref (B + 1)), (1, .long x1), (3, .long x3), (5, .long x5), (7, .long x7), (9, .int x9)] [] σ := by
  unfold w_X11_tellFraction_15 at h
  refine f_iload C (j := 5) dX11_tellFraction_15 rfl rfl ?_
  refine f_sipush C (v := 200) dX11_tellFraction_17 ks200 rfl ?_
  refine f_icmp_ge C (t := 51) dX11_tellFraction_20 (by decide) rfl (fun hq_5 => ?_) (fun hq_5 => ?_)
  · replace h := Eq.mp (if_pos hq_5) h
    refine f_lv C (lv2 := [(0, .ref (B + 1)), (1, .long x1), (3, .long x3), (5, .long x5)]) [0, 1, 2, 3] rfl ?_
    exact s_X11_tellFraction_51 C _ _ _  _ h
  · replace h := Eq.mp (if_neg hq_5) h
    refine f_lload C (j := 4) dX11_tellFraction_23 rfl rfl ?_
    refine f_lconst C (v := 0) dX11_tellFraction_25 (by decide) rfl ?_
    refine f_lcmp C dX11_tellFraction_26 rfl ?_
    refine f_if_eq C (t := 51) dX11_tellFraction_27 (by decide) rfl (fun hq_10 => ?_) (fun hq_10 => ?_)
    · replace h := Eq.mp (if_pos hq_10) h
      refine f_lv C (lv2 := [(0, .ref (B + 1)), (1, .long x1), (3, .long x3), (5, .long x5)]) [0, 1, 2, 3] rfl ?_
      exact s_X11_tellFraction_51 C _ _ _  _ h
    · replace h := Eq.mp (if_neg hq_10) h
      refine f_lload C (j := 3) dX11_tellFraction_30 rfl rfl ?_
      refine f_lload C (j := 4) dX11_tellFraction_32 rfl rfl ?_
      obtain ⟨hz_11, h⟩ := h
      refine f_lrem C dX11_tellFraction_34 hz_11 rfl ?_
      refine f_namel (fun x10_12 hx_13 => ?_)
      replace h := h x10_12 hx_13
      refine f_lstore C (lv2 := [(10, .long x10_12), (0, .ref (B + 1)), (1, .long x1), (3, .long x3), (5, .long x5), (7, .long x7), (9, .int x9)]) dX11_tellFraction_35 (by decide) rfl rfl ?_
      refine f_lload C (j := 5) dX11_tellFraction_37 rfl rfl ?_
      refine f_lstore C (lv2 := [(5, .long x7), (10, .long x10_12), (0, .ref (B + 1)), (1, .long x1), (3, .long x3), (7, .long x7), (9, .int x9)]) dX11_tellFraction_39 (by decide) rfl rfl ?_
      refine f_lload C (j := 1) dX11_tellFraction_41 rfl rfl ?_
      refine f_lstore C (lv2 := [(7, .long x10_12), (5, .long x7), (10, .long x10_12), (0, .ref (B + 1)), (1, .long x1), (3, .long x3), (9, .int x9)]) dX11_tellFraction_43 (by decide) rfl rfl ?_
      obtain ⟨x9_14, hx_15⟩ : ∃ y : Int32, y = x9 + 1 := ⟨_, rfl⟩
      replace h := h x9_14 hx_15
      refine f_iinc C (j := 6) (v := x9_14) (lv2 := [(9, .int x9_14), (7, .long x10_12), (5, .long x7), (10, .long x10_12), (0, .ref (B + 1)), (1, .long x1), (3, .long x3)]) dX11_tellFraction_45 rfl hx_15.symm (by decide) rfl rfl ?_
      refine f_goto C (t := 15) dX11_tellFraction_48 (by decide) ?_
      refine f_lv C (lv2 := [(0, .ref (B + 1)), (1, .long x1), (3, .long x3), (5, .long x7), (7, .long x10_12), (9, .int x9_14)]) [4, 5, 6, 2, 1, 0] rfl ?_
      exact hK15 _ _ _ _ h
def w_X11_tellFraction (x1 : Int64) (x3 : Int64) (σ : Sto) (P : Sto → Prop) : Prop :=
  ∀ x5_1 : Int64, x5_1 = (if 0 < x1 then x1 else -x1) → ∀ x7_3 : Int64, x7_3 = (if 0 < x3 then x3 else -x3) → Lp (fun (K : Int64 × Int64 × Int32 × Sto → Prop) s => w_X11_tellFraction_15 K x1 x3 s.1 s.2.1 s.2.2.1 s.2.2.2 P) (x5_1, x7_3, 0, σ)
theorem s_X11_tellFraction {B : Nat} {E : Nat → List (Nat × Value) → List Value → Sto → Prop} {P : Sto → Prop} (C : Cy B E RX11 cX11_tellFraction 12 none 1 21 (Zm (QFv P))) (x1 : Int64) (x3 : Int64) (σ : Sto) (h : w_X11_tellFraction x1 x3 σ P) : E 0 [(0, .ref (B + 1)), (1, .long x1), (3, .long x3)] [] σ := by
  unfold w_X11_tellFraction at h
  refine f_lload_n C (j := 1) dX11_tellFraction_0 rfl rfl rfl ?_
  refine f_mabsl C tM_X11_133 tT_J9_abs_067f4 tN_J9 tC_J9_abs_067f4 (by decide) (by decide) (Nat.le_of_ble_eq_true rfl) dX11_tellFraction_1 rfl ?_
  refine f_namel (fun x5_1 hx_2 => ?_)
  replace h := h x5_1 hx_2
  refine f_lstore C (lv2 := [(5, .long x5_1), (0, .ref (B + 1)), (1, .long x1), (3, .long x3)]) dX11_tellFraction_4 (by decide) rfl rfl ?_
  refine f_lload_n C (j := 3) dX11_tellFraction_6 rfl rfl rfl ?_
  refine f_mabsl C tM_X11_133 tT_J9_abs_067f4 tN_J9 tC_J9_abs_067f4 (by decide) (by decide) (Nat.le_of_ble_eq_true rfl) dX11_tellFraction_7 rfl ?_
  refine f_namel (fun x7_3 hx_4 => ?_)
  replace h := h x7_3 hx_4
  refine f_lstore C (lv2 := [(7, .long x7_3), (5, .long x5_1), (0, .ref (B + 1)), (1, .long x1), (3, .long x3)]) dX11_tellFraction_10 (by decide) rfl rfl ?_
  refine f_iconst C (v := 0) dX11_tellFraction_12 kc0 rfl ?_
  refine f_istore C (lv2 := [(9, .int 0), (7, .long x7_3), (5, .long x5_1), (0, .ref (B + 1)), (1, .long x1), (3, .long x3)]) dX11_tellFraction_13 (by decide) rfl rfl ?_
  refine f_lv C (lv2 := [(0, .ref (B + 1)), (1, .long x1), (3, .long x3), (5, .long x5_1), (7, .long x7_3), (9, .int 0)]) [3, 4, 5, 2, 1, 0] rfl ?_
  exact Lp_sound (fun s : Int64 × Int64 × Int32 × Sto => E 15 [(0, .ref (B + 1)), (1, .long x1), (3, .long x3), (5, .long s.1), (7, .long s.2.1), (9, .int s.2.2.1)] [] s.2.2.2) h (fun K s hK h => s_X11_tellFraction_15 C x1 x3 s.1 s.2.1 s.2.2.1 K (fun x5 x7 x9 σ hk => hK (x5, x7, x9, σ) hk) s.2.2.2 h)
theorem c_X11_tellFraction (x1 : Int64) (x3 : Int64) (σ : Sto) (P : Sto → Prop) (h : w_X11_tellFraction x1 x3 σ P) : Ct yX11_tellFraction cX11_tellFraction 12 none 1 21 (fun B => [.ref (B + 1), .long x1, .long x3]) σ (QFv P) := Ct.of (by decide) (fun _ => Nat.le_of_ble_eq_true rfl) (fun B E C => s_X11_tellFraction C x1 x3 σ h)
def w_X11_noThing (x1 : Int32) (σ : Sto) (P : Int32 → Sto → Prop) : Prop :=
  (if x1 < 0 then P 1 σ else isCity (gr σ 1 11) ∧ (if x1 < (gi σ (gr σ 1 11) 8) then P 0 σ else P 1 σ))
theorem s_X11_noThing {B : Nat} {E : Nat → List (Nat × Value) → List Value → Sto → Prop} {P : Int32 → Sto → Prop} (C : Cy B E RX11 cX11_noThing 2 (some .boolean) 0 0 (Zm (QFi P))) (x1 : Int32) (σ : Sto) (h : w_X11_noThing x1 σ P) : E 0 [(0, .ref (B + 1)), (1, .int x1)] [] σ := by
  unfold w_X11_noThing at h
  refine f_iload_n C (j := 1) dX11_noThing_0 rfl rfl rfl ?_
  refine f_if_lt C (t := 15) dX11_noThing_1 (by decide) rfl (fun hq_1 => ?_) (fun hq_1 => ?_)
  · replace h := Eq.mp (if_pos hq_1) h
    refine f_iconst C (v := 1) dX11_noThing_15 kc1 rfl ?_
    refine f_goto C (t := 20) dX11_noThing_16 (by decide) ?_
    exact f_zret C (Or.inr rfl) dX11_noThing_20 h
  · replace h := Eq.mp (if_neg hq_1) h
    refine f_iload_n C (j := 1) dX11_noThing_4 rfl rfl rfl ?_
    refine f_aload_n C (j := 0) dX11_noThing_5 rfl rfl rfl ?_
    obtain ⟨hc_2, h⟩ := h
    refine f_getm C tF_X11_26 rfl o1 cn1_11 hc_2.z dX11_noThing_6 rfl ?_
    refine f_geti C tF_X11_139 rfl hc_2.o dX11_noThing_9 rfl ?_
    refine f_icmp_lt C (t := 19) dX11_noThing_12 (by decide) rfl (fun hq_3 => ?_) (fun hq_3 => ?_)
    · replace h := Eq.mp (if_pos hq_3) h
      refine f_iconst C (v := 0) dX11_noThing_19 kc0 rfl ?_
      exact f_zret C (Or.inl rfl) dX11_noThing_20 h
    · replace h := Eq.mp (if_neg hq_3) h
      refine f_iconst C (v := 1) dX11_noThing_15 kc1 rfl ?_
      refine f_goto C (t := 20) dX11_noThing_16 (by decide) ?_
      exact f_zret C (Or.inr rfl) dX11_noThing_20 h
theorem c_X11_noThing (x1 : Int32) (σ : Sto) (P : Int32 → Sto → Prop) (h : w_X11_noThing x1 σ P) : Ct yX11_noThing cX11_noThing 2 (some .boolean) 0 0 (fun B => [.ref (B + 1), .int x1]) σ (QFi P) := Ct.of (by decide) (fun _ => Nat.le_of_ble_eq_true rfl) (fun B E C => s_X11_noThing C x1 σ h)
def w_X11_noWork (x1 : Int32) (σ : Sto) (P : Int32 → Sto → Prop) : Prop :=
  (if x1 < 0 then P 1 σ else isCity (gr σ 1 11) ∧ (if x1 < (gi σ (gr σ 1 11) 10) then P 0 σ else P 1 σ))
theorem s_X11_noWork {B : Nat} {E : Nat → List (Nat × Value) → List Value → Sto → Prop} {P : Int32 → Sto → Prop} (C : Cy B E RX11 cX11_noWork 2 (some .boolean) 0 0 (Zm (QFi P))) (x1 : Int32) (σ : Sto) (h : w_X11_noWork x1 σ P) : E 0 [(0, .ref (B + 1)), (1, .int x1)] [] σ := by
  unfold w_X11_noWork at h
  refine f_iload_n C (j := 1) dX11_noWork_0 rfl rfl rfl ?_
  refine f_if_lt C (t := 15) dX11_noWork_1 (by decide) rfl (fun hq_1 => ?_) (fun hq_1 => ?_)
  · replace h := Eq.mp (if_pos hq_1) h
    refine f_iconst C (v := 1) dX11_noWork_15 kc1 rfl ?_
    refine f_goto C (t := 20) dX11_noWork_16 (by decide) ?_
    exact f_zret C (Or.inr rfl) dX11_noWork_20 h
  · replace h := Eq.mp (if_neg hq_1) h
    refine f_iload_n C (j := 1) dX11_noWork_4 rfl rfl rfl ?_
    refine f_aload_n C (j := 0) dX11_noWork_5 rfl rfl rfl ?_
    obtain ⟨hc_2, h⟩ := h
    refine f_getm C tF_X11_26 rfl o1 cn1_11 hc_2.z dX11_noWork_6 rfl ?_
    refine f_geti C tF_X11_142 rfl hc_2.o dX11_noWork_9 rfl ?_
    refine f_icmp_lt C (t := 19) dX11_noWork_12 (by decide) rfl (fun hq_3 => ?_) (fun hq_3 => ?_)
    · replace h := Eq.mp (if_pos hq_3) h
      refine f_iconst C (v := 0) dX11_noWork_19 kc0 rfl ?_
      exact f_zret C (Or.inl rfl) dX11_noWork_20 h
    · replace h := Eq.mp (if_neg hq_3) h
      refine f_iconst C (v := 1) dX11_noWork_15 kc1 rfl ?_
      refine f_goto C (t := 20) dX11_noWork_16 (by decide) ?_
      exact f_zret C (Or.inr rfl) dX11_noWork_20 h
theorem c_X11_noWork (x1 : Int32) (σ : Sto) (P : Int32 → Sto → Prop) (h : w_X11_noWork x1 σ P) : Ct yX11_noWork cX11_noWork 2 (some .boolean) 0 0 (fun B => [.ref (B + 1), .int x1]) σ (QFi P) := Ct.of (by decide) (fun _ => Nat.le_of_ble_eq_true rfl) (fun B E C => s_X11_noWork C x1 σ h)
def w_X11_noVoter (x1 : Int32) (σ : Sto) (P : Int32 → Sto → Prop) : Prop :=
  (if x1 < 0 then P 1 σ else isCity (gr σ 1 11) ∧ (if x1 < (gi σ (gr σ 1 11) 11) then P 0 σ else P 1 σ))
theorem s_X11_noVoter {B : Nat} {E : Nat → List (Nat × Value) → List Value → Sto → Prop} {P : Int32 → Sto → Prop} (C : Cy B E RX11 cX11_noVoter 2 (some .boolean) 0 0 (Zm (QFi P))) (x1 : Int32) (σ : Sto) (h : w_X11_noVoter x1 σ P) : E 0 [(0, .ref (B + 1)), (1, .int x1)] [] σ := by
  unfold w_X11_noVoter at h
  refine f_iload_n C (j := 1) dX11_noVoter_0 rfl rfl rfl ?_
  refine f_if_lt C (t := 15) dX11_noVoter_1 (by decide) rfl (fun hq_1 => ?_) (fun hq_1 => ?_)
  · replace h := Eq.mp (if_pos hq_1) h
    refine f_iconst C (v := 1) dX11_noVoter_15 kc1 rfl ?_
    refine f_goto C (t := 20) dX11_noVoter_16 (by decide) ?_
    exact f_zret C (Or.inr rfl) dX11_noVoter_20 h
  · replace h := Eq.mp (if_neg hq_1) h
    refine f_iload_n C (j := 1) dX11_noVoter_4 rfl rfl rfl ?_
    refine f_aload_n C (j := 0) dX11_noVoter_5 rfl rfl rfl ?_
    obtain ⟨hc_2, h⟩ := h
    refine f_getm C tF_X11_26 rfl o1 cn1_11 hc_2.z dX11_noVoter_6 rfl ?_
    refine f_geti C tF_X11_145 rfl hc_2.o dX11_noVoter_9 rfl ?_
    refine f_icmp_lt C (t := 19) dX11_noVoter_12 (by decide) rfl (fun hq_3 => ?_) (fun hq_3 => ?_)
    · replace h := Eq.mp (if_pos hq_3) h
      refine f_iconst C (v := 0) dX11_noVoter_19 kc0 rfl ?_
      exact f_zret C (Or.inl rfl) dX11_noVoter_20 h
    · replace h := Eq.mp (if_neg hq_3) h
      refine f_iconst C (v := 1) dX11_noVoter_15 kc1 rfl ?_
      refine f_goto C (t := 20) dX11_noVoter_16 (by decide) ?_
      exact f_zret C (Or.inr rfl) dX11_noVoter_20 h
theorem c_X11_noVoter (x1 : Int32) (σ : Sto) (P : Int32 → Sto → Prop) (h : w_X11_noVoter x1 σ P) : Ct yX11_noVoter cX11_noVoter 2 (some .boolean) 0 0 (fun B => [.ref (B + 1), .int x1]) σ (QFi P) := Ct.of (by decide) (fun _ => Nat.le_of_ble_eq_true rfl) (fun B E C => s_X11_noVoter C x1 σ h)
def w_X11_noSetOfThings (x1 : Int32) (σ : Sto) (P : Int32 → Sto → Prop) : Prop :=
  (if x1 < 0 then P 1 σ else isCity (gr σ 1 11) ∧ (if x1 < (1 <<< ((gi σ (gr σ 1 11) 8) &&& 31)) then P 0 σ else P 1 σ))
theorem s_X11_noSetOfThings {B : Nat} {E : Nat → List (Nat × Value) → List Value → Sto → Prop} {P : Int32 → Sto → Prop} (C : Cy B E RX11 cX11_noSetOfThings 2 (some .boolean) 0 0 (Zm (QFi P))) (x1 : Int32) (σ : Sto) (h : w_X11_noSetOfThings x1 σ P) : E 0 [(0, .ref (B + 1)), (1, .int x1)] [] σ := by
  unfold w_X11_noSetOfThings at h
  refine f_iload_n C (j := 1) dX11_noSetOfThings_0 rfl rfl rfl ?_
  refine f_if_lt C (t := 17) dX11_noSetOfThings_1 (by decide) rfl (fun hq_1 => ?_) (fun hq_1 => ?_)
  · replace h := Eq.mp (if_pos hq_1) h
    refine f_iconst C (v := 1) dX11_noSetOfThings_17 kc1 rfl ?_
    refine f_goto C (t := 22) dX11_noSetOfThings_18 (by decide) ?_
    exact f_zret C (Or.inr rfl) dX11_noSetOfThings_22 h
  · replace h := Eq.mp (if_neg hq_1) h
    refine f_iload_n C (j := 1) dX11_noSetOfThings_4 rfl rfl rfl ?_
    refine f_iconst C (v := 1) dX11_noSetOfThings_5 kc1 rfl ?_
    refine f_aload_n C (j := 0) dX11_noSetOfThings_6 rfl rfl rfl ?_
    obtain ⟨hc_2, h⟩ := h
    refine f_getm C tF_X11_26 rfl o1 cn1_11 hc_2.z dX11_noSetOfThings_7 rfl ?_
    refine f_geti C tF_X11_139 rfl hc_2.o dX11_noSetOfThings_10 rfl ?_
    refine f_ishl C dX11_noSetOfThings_13 rfl ?_
    refine f_icmp_lt C (t := 21) dX11_noSetOfThings_14 (by decide) rfl (fun hq_3 => ?_) (fun hq_3 => ?_)
    · replace h := Eq.mp (if_pos hq_3) h
      refine f_iconst C (v := 0) dX11_noSetOfThings_21 kc0 rfl ?_
      exact f_zret C (Or.inl rfl) dX11_noSetOfThings_22 h
    · replace h := Eq.mp (if_neg hq_3) h
      refine f_iconst C (v := 1) dX11_noSetOfThings_17 kc1 rfl ?_
      refine f_goto C (t := 22) dX11_noSetOfThings_18 (by decide) ?_
      exact f_zret C (Or.inr rfl) dX11_noSetOfThings_22 h
theorem c_X11_noSetOfThings (x1 : Int32) (σ : Sto) (P : Int32 → Sto → Prop) (h : w_X11_noSetOfThings x1 σ P) : Ct yX11_noSetOfThings cX11_noSetOfThings 2 (some .boolean) 0 0 (fun B => [.ref (B + 1), .int x1]) σ (QFi P) := Ct.of (by decide) (fun _ => Nat.le_of_ble_eq_true rfl) (fun B E C => s_X11_noSetOfThings C x1 σ h)
def w_X11_isOneOf (x1 : Int32) (x2 : Int32) (σ : Sto) (P : Int32 → Sto → Prop) : Prop :=
  (if ((x2 >>> (x1 &&& 31)) &&& 1) = 0 then P 0 σ else P 1 σ)
theorem s_X11_isOneOf {B : Nat} {E : Nat → List (Nat × Value) → List Value → Sto → Prop} {P : Int32 → Sto → Prop} (C : Cy B E RX11 cX11_isOneOf 3 (some .boolean) 0 0 (Zm (QFi P))) (x1 : Int32) (x2 : Int32) (σ : Sto) (h : w_X11_isOneOf x1 x2 σ P) : E 0 [(0, .ref (B + 1)), (1, .int x1), (2, .int x2)] [] σ := by
  unfold w_X11_isOneOf at h
  refine f_iload_n C (j := 2) dX11_isOneOf_0 rfl rfl rfl ?_
  refine f_iload_n C (j := 1) dX11_isOneOf_1 rfl rfl rfl ?_
  refine f_ishr C dX11_isOneOf_2 rfl ?_
  refine f_iconst C (v := 1) dX11_isOneOf_3 kc1 rfl ?_
  refine f_iand C dX11_isOneOf_4 rfl ?_
  refine f_if_eq C (t := 12) dX11_isOneOf_5 (by decide) rfl (fun hq_1 => ?_) (fun hq_1 => ?_)
  · replace h := Eq.mp (if_pos hq_1) h
    refine f_iconst C (v := 0) dX11_isOneOf_12 kc0 rfl ?_
    exact f_zret C (Or.inl rfl) dX11_isOneOf_13 h
  · replace h := Eq.mp (if_neg hq_1) h
    refine f_iconst C (v := 1) dX11_isOneOf_8 kc1 rfl ?_
    refine f_goto C (t := 13) dX11_isOneOf_9 (by decide) ?_
    exact f_zret C (Or.inr rfl) dX11_isOneOf_13 h
theorem c_X11_isOneOf (x1 : Int32) (x2 : Int32) (σ : Sto) (P : Int32 → Sto → Prop) (h : w_X11_isOneOf x1 x2 σ P) : Ct yX11_isOneOf cX11_isOneOf 3 (some .boolean) 0 0 (fun B => [.ref (B + 1), .int x1, .int x2]) σ (QFi P) := Ct.of (by decide) (fun _ => Nat.le_of_ble_eq_true rfl) (fun B E C => s_X11_isOneOf C x1 x2 σ h)
def w_X11_turnToNow (σ : Sto) (P : Sto → Prop) : Prop :=
  isCity (gr σ 1 11) ∧ w_X6_turnTo (gr σ 1 11) σ (fun σ_2 => isCity (gr σ_2 1 11) ∧ w_X0_turnTo (gr σ_2 1 11) σ_2 (fun σ_5 => isCity (gr σ_5 1 11) ∧ w_X5_turnTo (gr σ_5 1 11) σ_5 (fun σ_8 => isCity (gr σ_8 1 11) ∧ w_X4_turnTo (gr σ_8 1 11) σ_8 (fun σ_11 => isCity (gr σ_11 1 11) ∧ w_X3_turnTo (gr σ_11 1 11) σ_11 (fun σ_14 => P σ_14)))))
theorem s_X11_turnToNow {B : Nat} {E : Nat → List (Nat × Value) → List Value → Sto → Prop} {P : Sto → Prop} (C : Cy B E RX11 cX11_turnToNow 1 none 2 41 (Zm (QFv P))) (σ : Sto) (h : w_X11_turnToNow σ P) : E 0 [(0, .ref (B + 1))] [] σ := by
  unfold w_X11_turnToNow at h
  refine f_aload_n C (j := 0) dX11_turnToNow_0 rfl rfl rfl ?_
  refine f_getc C tF_X11_58 rfl o1 cs1_4 (by decide) dX11_turnToNow_1 rfl ?_
  refine f_aload_n C (j := 0) dX11_turnToNow_4 rfl rfl rfl ?_
  obtain ⟨hc_1, h⟩ := h
  refine f_getm C tF_X11_26 rfl o1 cn1_11 hc_1.z dX11_turnToNow_5 rfl ?_
  refine f_callVv C (a := 88) (ci := 6) (As := fun B => [.ref (B + (gr σ 1 11))]) o88 rfl (c_X6_turnTo  _ _ _ h) tM_X11_148 tI_X6_turnTo tS_X6_turnTo tN_X6 tC_X6_turnTo 1 dd_X6_turnTo rfl (by decide) (by decide) rfl (Nat.le_of_ble_eq_true rfl) dX11_turnToNow_8 rfl (fun σ_2 h => ?_)
  refine f_aload_n C (j := 0) dX11_turnToNow_11 rfl rfl rfl ?_
  refine f_getc C tF_X11_67 rfl o1 cs1_5 (by decide) dX11_turnToNow_12 rfl ?_
  refine f_aload_n C (j := 0) dX11_turnToNow_15 rfl rfl rfl ?_
  obtain ⟨hc_4, h⟩ := h
  refine f_getm C tF_X11_26 rfl o1 cn1_11 hc_4.z dX11_turnToNow_16 rfl ?_
  refine f_callVv C (a := 90) (ci := 0) (As := fun B => [.ref (B + (gr σ_2 1 11))]) o90 rfl (c_X0_turnTo  _ _ _ h) tM_X11_151 tI_X0_turnTo tS_X0_turnTo tN_X0 tC_X0_turnTo 1 dd_X0_turnTo rfl (by decide) (by decide) rfl (Nat.le_of_ble_eq_true rfl) dX11_turnToNow_19 rfl (fun σ_5 h => ?_)
  refine f_aload_n C (j := 0) dX11_turnToNow_22 rfl rfl rfl ?_
  refine f_getc C tF_X11_76 rfl o1 cs1_6 (by decide) dX11_turnToNow_23 rfl ?_
  refine f_aload_n C (j := 0) dX11_turnToNow_26 rfl rfl rfl ?_
  obtain ⟨hc_7, h⟩ := h
  refine f_getm C tF_X11_26 rfl o1 cn1_11 hc_7.z dX11_turnToNow_27 rfl ?_
  refine f_callVv C (a := 93) (ci := 5) (As := fun B => [.ref (B + (gr σ_5 1 11))]) o93 rfl (c_X5_turnTo  _ _ _ h) tM_X11_152 tI_X5_turnTo tS_X5_turnTo tN_X5 tC_X5_turnTo 1 dd_X5_turnTo rfl (by decide) (by decide) rfl (Nat.le_of_ble_eq_true rfl) dX11_turnToNow_30 rfl (fun σ_8 h => ?_)
  refine f_aload_n C (j := 0) dX11_turnToNow_33 rfl rfl rfl ?_
  refine f_getc C tF_X11_85 rfl o1 cs1_7 (by decide) dX11_turnToNow_34 rfl ?_
  refine f_aload_n C (j := 0) dX11_turnToNow_37 rfl rfl rfl ?_
  obtain ⟨hc_10, h⟩ := h
  refine f_getm C tF_X11_26 rfl o1 cn1_11 hc_10.z dX11_turnToNow_38 rfl ?_
  refine f_callVv C (a := 95) (ci := 4) (As := fun B => [.ref (B + (gr σ_8 1 11))]) o95 rfl (c_X4_turnTo  _ _ _ h) tM_X11_153 tI_X4_turnTo tS_X4_turnTo tN_X4 tC_X4_turnTo 1 dd_X4_turnTo rfl (by decide) (by decide) rfl (Nat.le_of_ble_eq_true rfl) dX11_turnToNow_41 rfl (fun σ_11 h => ?_)
  refine f_aload_n C (j := 0) dX11_turnToNow_44 rfl rfl rfl ?_
  refine f_getc C tF_X11_94 rfl o1 cs1_8 (by decide) dX11_turnToNow_45 rfl ?_
  refine f_aload_n C (j := 0) dX11_turnToNow_48 rfl rfl rfl ?_
  obtain ⟨hc_13, h⟩ := h
  refine f_getm C tF_X11_26 rfl o1 cn1_11 hc_13.z dX11_turnToNow_49 rfl ?_
  refine f_callVv C (a := 97) (ci := 3) (As := fun B => [.ref (B + (gr σ_11 1 11))]) o97 rfl (c_X3_turnTo  _ _ _ h) tM_X11_154 tI_X3_turnTo tS_X3_turnTo tN_X3 tC_X3_turnTo 1 dd_X3_turnTo rfl (by decide) (by decide) rfl (Nat.le_of_ble_eq_true rfl) dX11_turnToNow_52 rfl (fun σ_14 h => ?_)
  exact f_vret C dX11_turnToNow_55 h
theorem c_X11_turnToNow (σ : Sto) (P : Sto → Prop) (h : w_X11_turnToNow σ P) : Ct yX11_turnToNow cX11_turnToNow 1 none 2 41 (fun B => [.ref (B + 1)]) σ (QFv P) := Ct.of (by decide) (fun _ => Nat.le_of_ble_eq_true rfl) (fun B E C => s_X11_turnToNow C σ h)
def w_X11_status (σ : Sto) (P : Int32 → Sto → Prop) : Prop :=
  P (gi σ 1 15) σ
theorem s_X11_status {B : Nat} {E : Nat → List (Nat × Value) → List Value → Sto → Prop} {P : Int32 → Sto → Prop} (C : Cy B E RX11 cX11_status 1 (some .int) 0 0 (Zm (QFi P))) (σ : Sto) (h : w_X11_status σ P) : E 0 [(0, .ref (B + 1))] [] σ := by
  unfold w_X11_status at h
  refine f_aload_n C (j := 0) dX11_status_0 rfl rfl rfl ?_
  refine f_geti C tF_X11_110 rfl o1 dX11_status_1 rfl ?_
  exact f_iret C dX11_status_4 h
theorem c_X11_status (σ : Sto) (P : Int32 → Sto → Prop) (h : w_X11_status σ P) : Ct yX11_status cX11_status 1 (some .int) 0 0 (fun B => [.ref (B + 1)]) σ (QFi P) := Ct.of (by decide) (fun _ => Nat.le_of_ble_eq_true rfl) (fun B E C => s_X11_status C σ h)
def w_X11_top (σ : Sto) (P : Int64 → Sto → Prop) : Prop :=
  P (gl σ 1 16) σ
theorem s_X11_top {B : Nat} {E : Nat → List (Nat × Value) → List Value → Sto → Prop} {P : Int64 → Sto → Prop} (C : Cy B E RX11 cX11_top 1 (some .long) 0 0 (Zm (QFl P))) (σ : Sto) (h : w_X11_top σ P) : E 0 [(0, .ref (B + 1))] [] σ := by
  unfold w_X11_top at h
  refine f_aload_n C (j := 0) dX11_top_0 rfl rfl rfl ?_
  refine f_getl C tF_X11_113 rfl o1 dX11_top_1 rfl ?_
  exact f_lret C dX11_top_4 h
theorem c_X11_top (σ : Sto) (P : Int64 → Sto → Prop) (h : w_X11_top σ P) : Ct yX11_top cX11_top 1 (some .long) 0 0 (fun B => [.ref (B + 1)]) σ (QFl P) := Ct.of (by decide) (fun _ => Nat.le_of_ble_eq_true rfl) (fun B E C => s_X11_top C σ h)
def w_X11_bottom (σ : Sto) (P : Int64 → Sto → Prop) : Prop :=
  P (gl σ 1 17) σ
theorem s_X11_bottom {B : Nat} {E : Nat → List (Nat × Value) → List Value → Sto → Prop} {P : Int64 → Sto → Prop} (C : Cy B E RX11 cX11_bottom 1 (some .long) 0 0 (Zm (QFl P))) (σ : Sto) (h : w_X11_bottom σ P) : E 0 [(0, .ref (B + 1))] [] σ := by
  unfold w_X11_bottom at h
  refine f_aload_n C (j := 0) dX11_bottom_0 rfl rfl rfl ?_
  refine f_getl C tF_X11_117 rfl o1 dX11_bottom_1 rfl ?_
  exact f_lret C dX11_bottom_4 h
theorem c_X11_bottom (σ : Sto) (P : Int64 → Sto → Prop) (h : w_X11_bottom σ P) : Ct yX11_bottom cX11_bottom 1 (some .long) 0 0 (fun B => [.ref (B + 1)]) σ (QFl P) := Ct.of (by decide) (fun _ => Nat.le_of_ble_eq_true rfl) (fun B E C => s_X11_bottom C σ h)
def w_X11_tray_22 (σ : Sto) (P : Int32 → Sto → Prop) : Prop :=
  w_X11_refuseSo 1 σ (fun r_5 σ_4 => (r_5 = 0 ∨ r_5 = 1) ∧ P r_5 σ_4)
theorem s_X11_tray_22 {B : Nat} {E : Nat → List (Nat × Value) → List Value → Sto → Prop} {P : Int32 → Sto → Prop} (C : Cy B E RX11 cX11_tray 4 (some .boolean) 2 47 (Zm (QFi P))) (σ : Sto) (h : w_X11_tray_22 σ P) : E 22 [(0, .ref (B + 1))] [] σ := by
  unfold w_X11_tray_22 at h
  refine f_aload_n C (j := 0) dX11_tray_22 rfl rfl rfl ?_
  refine f_iconst C (v := 1) dX11_tray_23 kc1 rfl ?_
  refine f_callVi C (a := 1) (ci := 11) (As := fun B => [.int 1]) o1 rfl (c_X11_refuseSo  _ _ _ h) tM_X11_162 tI_X11_refuseSo tS_X11_refuseSo tN_X11 tC_X11_refuseSo 1 dd_X11_refuseSo rfl (by decide) (by decide) rfl (Nat.le_of_ble_eq_true rfl) dX11_tray_24 rfl (fun r_5 σ_4 h => ?_)
  obtain ⟨hb_6, h⟩ := h
  exact f_zret C hb_6 dX11_tray_27 h
def w_X11_tray (x1 : Int32) (x2 : Int32) (x3 : Int32) (σ : Sto) (P : Int32 → Sto → Prop) : Prop :=
  w_X10_isTray x1 σ (fun r_2 σ_1 => (if r_2 = 0 then w_X11_tray_22 σ_1 P else w_X10_isSort x2 σ_1 (fun r_8 σ_7 => (if r_8 = 0 then w_X11_tray_22 σ_7 P else (if x3 ≤ 60 then (if 0 ≤ x3 then w_X10_lay x1 x2 x3 σ_7 (fun σ_12 => w_X11_fineSo σ_12 (fun r_15 σ_14 => (r_15 = 0 ∨ r_15 = 1) ∧ P r_15 σ_14)) else w_X11_refuseSo 6 σ_7 (fun r_18 σ_17 => (r_18 = 0 ∨ r_18 = 1) ∧ P r_18 σ_17)) else w_X11_refuseSo 5 σ_7 (fun r_21 σ_20 => (r_21 = 0 ∨ r_21 = 1) ∧ P r_21 σ_20))))))
theorem s_X11_tray {B : Nat} {E : Nat → List (Nat × Value) → List Value → Sto → Prop} {P : Int32 → Sto → Prop} (C : Cy B E RX11 cX11_tray 4 (some .boolean) 2 47 (Zm (QFi P))) (x1 : Int32) (x2 : Int32) (x3 : Int32) (σ : Sto) (h : w_X11_tray x1 x2 x3 σ P) : E 0 [(0, .ref (B + 1)), (1, .int x1), (2, .int x2), (3, .int x3)] [] σ := by
  unfold w_X11_tray at h
  refine f_aload_n C (j := 0) dX11_tray_0 rfl rfl rfl ?_
  refine f_getc C tF_X11_12 rfl o1 cs1_0 (by decide) dX11_tray_1 rfl ?_
  refine f_iload_n C (j := 1) dX11_tray_4 rfl rfl rfl ?_
  refine f_callVi C (a := 2) (ci := 10) (As := fun B => [.int x1]) o2 rfl (c_X10_isTray  _ _ _ h) tM_X11_155 tI_X10_isTray tS_X10_isTray tN_X10 tC_X10_isTray 1 dd_X10_isTray rfl (by decide) (by decide) rfl (Nat.le_of_ble_eq_true rfl) dX11_tray_5 rfl (fun r_2 σ_1 h => ?_)
  refine f_if_eq C (t := 22) dX11_tray_8 (by decide) rfl (fun hq_3 => ?_) (fun hq_3 => ?_)
  · replace h := Eq.mp (if_pos hq_3) h
    refine f_lv C (lv2 := [(0, .ref (B + 1))]) [0] rfl ?_
    exact s_X11_tray_22 C  _ h
  · replace h := Eq.mp (if_neg hq_3) h
    refine f_aload_n C (j := 0) dX11_tray_11 rfl rfl rfl ?_
    refine f_getc C tF_X11_12 rfl o1 cs1_0 (by decide) dX11_tray_12 rfl ?_
    refine f_iload_n C (j := 2) dX11_tray_15 rfl rfl rfl ?_
    refine f_callVi C (a := 2) (ci := 10) (As := fun B => [.int x2]) o2 rfl (c_X10_isSort  _ _ _ h) tM_X11_159 tI_X10_isSort tS_X10_isSort tN_X10 tC_X10_isSort 1 dd_X10_isSort rfl (by decide) (by decide) rfl (Nat.le_of_ble_eq_true rfl) dX11_tray_16 rfl (fun r_8 σ_7 h => ?_)
    refine f_if_ne C (t := 28) dX11_tray_19 (by decide) rfl (fun hq_9 => ?_) (fun hq_9 => ?_)
    · replace h := Eq.mp (if_neg hq_9) h
      refine f_iload_n C (j := 3) dX11_tray_28 rfl rfl rfl ?_
      refine f_bipush C (v := 60) dX11_tray_29 kb60 rfl ?_
      refine f_icmp_le C (t := 40) dX11_tray_31 (by decide) rfl (fun hq_10 => ?_) (fun hq_10 => ?_)
      · replace h := Eq.mp (if_pos hq_10) h
        refine f_iload_n C (j := 3) dX11_tray_40 rfl rfl rfl ?_
        refine f_if_ge C (t := 51) dX11_tray_41 (by decide) rfl (fun hq_11 => ?_) (fun hq_11 => ?_)
        · replace h := Eq.mp (if_pos hq_11) h
          refine f_aload_n C (j := 0) dX11_tray_51 rfl rfl rfl ?_
          refine f_getc C tF_X11_12 rfl o1 cs1_0 (by decide) dX11_tray_52 rfl ?_
          refine f_iload_n C (j := 1) dX11_tray_55 rfl rfl rfl ?_
          refine f_iload_n C (j := 2) dX11_tray_56 rfl rfl rfl ?_
          refine f_iload_n C (j := 3) dX11_tray_57 rfl rfl rfl ?_
          refine f_callVv C (a := 2) (ci := 10) (As := fun B => [.int x1, .int x2, .int x3]) o2 rfl (c_X10_lay  _ _ _ _ _ h) tM_X11_165 tI_X10_lay tS_X10_lay tN_X10 tC_X10_lay 3 dd_X10_lay rfl (by decide) (by decide) rfl (Nat.le_of_ble_eq_true rfl) dX11_tray_58 rfl (fun σ_12 h => ?_)
          refine f_aload_n C (j := 0) dX11_tray_61 rfl rfl rfl ?_
          refine f_callVi C (a := 1) (ci := 11) (As := fun B => []) o1 rfl (c_X11_fineSo   _ _ h) tM_X11_169 tI_X11_fineSo tS_X11_fineSo tN_X11 tC_X11_fineSo 0 dd_X11_fineSo rfl (by decide) (by decide) rfl (Nat.le_of_ble_eq_true rfl) dX11_tray_62 rfl (fun r_15 σ_14 h => ?_)
          obtain ⟨hb_16, h⟩ := h
          exact f_zret C hb_16 dX11_tray_65 h
        · replace h := Eq.mp (if_neg hq_11) h
          refine f_aload_n C (j := 0) dX11_tray_44 rfl rfl rfl ?_
          refine f_bipush C (v := 6) dX11_tray_45 kb6 rfl ?_
          refine f_callVi C (a := 1) (ci := 11) (As := fun B => [.int 6]) o1 rfl (c_X11_refuseSo  _ _ _ h) tM_X11_162 tI_X11_refuseSo tS_X11_refuseSo tN_X11 tC_X11_refuseSo 1 dd_X11_refuseSo rfl (by decide) (by decide) rfl (Nat.le_of_ble_eq_true rfl) dX11_tray_47 rfl (fun r_18 σ_17 h => ?_)
          obtain ⟨hb_19, h⟩ := h
          exact f_zret C hb_19 dX11_tray_50 h
      · replace h := Eq.mp (if_neg hq_10) h
        refine f_aload_n C (j := 0) dX11_tray_34 rfl rfl rfl ?_
        refine f_iconst C (v := 5) dX11_tray_35 kc5 rfl ?_
        refine f_callVi C (a := 1) (ci := 11) (As := fun B => [.int 5]) o1 rfl (c_X11_refuseSo  _ _ _ h) tM_X11_162 tI_X11_refuseSo tS_X11_refuseSo tN_X11 tC_X11_refuseSo 1 dd_X11_refuseSo rfl (by decide) (by decide) rfl (Nat.le_of_ble_eq_true rfl) dX11_tray_36 rfl (fun r_21 σ_20 h => ?_)
        obtain ⟨hb_22, h⟩ := h
        exact f_zret C hb_22 dX11_tray_39 h
    · replace h := Eq.mp (if_pos hq_9) h
      refine f_lv C (lv2 := [(0, .ref (B + 1))]) [0] rfl ?_
      exact s_X11_tray_22 C  _ h
theorem c_X11_tray (x1 : Int32) (x2 : Int32) (x3 : Int32) (σ : Sto) (P : Int32 → Sto → Prop) (h : w_X11_tray x1 x2 x3 σ P) : Ct yX11_tray cX11_tray 4 (some .boolean) 2 47 (fun B => [.ref (B + 1), .int x1, .int x2, .int x3]) σ (QFi P) := Ct.of (by decide) (fun _ => Nat.le_of_ble_eq_true rfl) (fun B E C => s_X11_tray C x1 x2 x3 σ h)
def w_X11_placeFault (x1 : Int32) (x2 : Int32) (σ : Sto) (P : Int32 → Sto → Prop) : Prop :=
  w_X10_isTray x1 σ (fun r_2 σ_1 => (if r_2 = 0 then P 1 σ_1 else w_X10_isMissing x1 σ_1 (fun r_5 σ_4 => (if r_5 = 0 then w_X10_has x1 x2 1 σ_4 (fun r_8 σ_7 => (if r_8 = 0 then P 4 σ_7 else P 0 σ_7)) else P 3 σ_4))))
theorem s_X11_placeFault {B : Nat} {E : Nat → List (Nat × Value) → List Value → Sto → Prop} {P : Int32 → Sto → Prop} (C : Cy B E RX11 cX11_placeFault 3 (some .int) 1 23 (Zm (QFi P))) (x1 : Int32) (x2 : Int32) (σ : Sto) (h : w_X11_placeFault x1 x2 σ P) : E 0 [(0, .ref (B + 1)), (1, .int x1), (2, .int x2)] [] σ := by
  unfold w_X11_placeFault at h
  refine f_aload_n C (j := 0) dX11_placeFault_0 rfl rfl rfl ?_
  refine f_getc C tF_X11_12 rfl o1 cs1_0 (by decide) dX11_placeFault_1 rfl ?_
  refine f_iload_n C (j := 1) dX11_placeFault_4 rfl rfl rfl ?_
  refine f_callVi C (a := 2) (ci := 10) (As := fun B => [.int x1]) o2 rfl (c_X10_isTray  _ _ _ h) tM_X11_155 tI_X10_isTray tS_X10_isTray tN_X10 tC_X10_isTray 1 dd_X10_isTray rfl (by decide) (by decide) rfl (Nat.le_of_ble_eq_true rfl) dX11_placeFault_5 rfl (fun r_2 σ_1 h => ?_)
  refine f_if_ne C (t := 13) dX11_placeFault_8 (by decide) rfl (fun hq_3 => ?_) (fun hq_3 => ?_)
  · replace h := Eq.mp (if_neg hq_3) h
    refine f_aload_n C (j := 0) dX11_placeFault_13 rfl rfl rfl ?_
    refine f_getc C tF_X11_12 rfl o1 cs1_0 (by decide) dX11_placeFault_14 rfl ?_
    refine f_iload_n C (j := 1) dX11_placeFault_17 rfl rfl rfl ?_
    refine f_callVi C (a := 2) (ci := 10) (As := fun B => [.int x1]) o2 rfl (c_X10_isMissing  _ _ _ h) tM_X11_185 tI_X10_isMissing tS_X10_isMissing tN_X10 tC_X10_isMissing 1 dd_X10_isMissing rfl (by decide) (by decide) rfl (Nat.le_of_ble_eq_true rfl) dX11_placeFault_18 rfl (fun r_5 σ_4 h => ?_)
    refine f_if_eq C (t := 26) dX11_placeFault_21 (by decide) rfl (fun hq_6 => ?_) (fun hq_6 => ?_)
    · replace h := Eq.mp (if_pos hq_6) h
      refine f_aload_n C (j := 0) dX11_placeFault_26 rfl rfl rfl ?_
      refine f_getc C tF_X11_12 rfl o1 cs1_0 (by decide) dX11_placeFault_27 rfl ?_
      refine f_iload_n C (j := 1) dX11_placeFault_30 rfl rfl rfl ?_
      refine f_iload_n C (j := 2) dX11_placeFault_31 rfl rfl rfl ?_
      refine f_iconst C (v := 1) dX11_placeFault_32 kc1 rfl ?_
      refine f_callVi C (a := 2) (ci := 10) (As := fun B => [.int x1, .int x2, .int 1]) o2 rfl (c_X10_has  _ _ _ _ _ h) tM_X11_188 tI_X10_has tS_X10_has tN_X10 tC_X10_has 3 dd_X10_has rfl (by decide) (by decide) rfl (Nat.le_of_ble_eq_true rfl) dX11_placeFault_33 rfl (fun r_8 σ_7 h => ?_)
      refine f_if_eq C (t := 43) dX11_placeFault_36 (by decide) rfl (fun hq_9 => ?_) (fun hq_9 => ?_)
      · replace h := Eq.mp (if_pos hq_9) h
        refine f_iconst C (v := 4) dX11_placeFault_43 kc4 rfl ?_
        exact f_iret C dX11_placeFault_44 h
      · replace h := Eq.mp (if_neg hq_9) h
        refine f_iconst C (v := 0) dX11_placeFault_39 kc0 rfl ?_
        refine f_goto C (t := 44) dX11_placeFault_40 (by decide) ?_
        exact f_iret C dX11_placeFault_44 h
    · replace h := Eq.mp (if_neg hq_6) h
      refine f_iconst C (v := 3) dX11_placeFault_24 kc3 rfl ?_
      exact f_iret C dX11_placeFault_25 h
  · replace h := Eq.mp (if_pos hq_3) h
    refine f_iconst C (v := 1) dX11_placeFault_11 kc1 rfl ?_
    exact f_iret C dX11_placeFault_12 h
theorem c_X11_placeFault (x1 : Int32) (x2 : Int32) (σ : Sto) (P : Int32 → Sto → Prop) (h : w_X11_placeFault x1 x2 σ P) : Ct yX11_placeFault cX11_placeFault 3 (some .int) 1 23 (fun B => [.ref (B + 1), .int x1, .int x2]) σ (QFi P) := Ct.of (by decide) (fun _ => Nat.le_of_ble_eq_true rfl) (fun B E C => s_X11_placeFault C x1 x2 σ h)
def w_X11_write (x1 : Int32) (x2 : Int32) (x3 : Int64) (σ : Sto) (P : Int32 → Sto → Prop) : Prop :=
  w_X11_placeFault x1 x2 σ (fun r_2 σ_1 => (if r_2 = 0 then w_X10_put x1 x2 x3 σ_1 (fun σ_4 => w_X11_fineSo σ_4 (fun r_7 σ_6 => (r_7 = 0 ∨ r_7 = 1) ∧ P r_7 σ_6)) else w_X11_refuseSo r_2 σ_1 (fun r_10 σ_9 => (r_10 = 0 ∨ r_10 = 1) ∧ P r_10 σ_9)))
theorem s_X11_write {B : Nat} {E : Nat → List (Nat × Value) → List Value → Sto → Prop} {P : Int32 → Sto → Prop} (C : Cy B E RX11 cX11_write 6 (some .boolean) 2 46 (Zm (QFi P))) (x1 : Int32) (x2 : Int32) (x3 : Int64) (σ : Sto) (h : w_X11_write x1 x2 x3 σ P) : E 0 [(0, .ref (B + 1)), (1, .int x1), (2, .int x2), (3, .long x3)] [] σ := by
  unfold w_X11_write at h
  refine f_aload_n C (j := 0) dX11_write_0 rfl rfl rfl ?_
  refine f_iload_n C (j := 1) dX11_write_1 rfl rfl rfl ?_
  refine f_iload_n C (j := 2) dX11_write_2 rfl rfl rfl ?_
  refine f_callVi C (a := 1) (ci := 11) (As := fun B => [.int x1, .int x2]) o1 rfl (c_X11_placeFault  _ _ _ _ h) tM_X11_173 tI_X11_placeFault tS_X11_placeFault tN_X11 tC_X11_placeFault 2 dd_X11_placeFault rfl (by decide) (by decide) rfl (Nat.le_of_ble_eq_true rfl) dX11_write_3 rfl (fun r_2 σ_1 h => ?_)
  refine f_istore C (lv2 := [(5, .int r_2), (0, .ref (B + 1)), (1, .int x1), (2, .int x2), (3, .long x3)]) dX11_write_6 (by decide) rfl rfl ?_
  refine f_iload C (j := 0) dX11_write_8 rfl rfl ?_
  refine f_if_eq C (t := 20) dX11_write_10 (by decide) rfl (fun hq_3 => ?_) (fun hq_3 => ?_)
  · replace h := Eq.mp (if_pos hq_3) h
    refine f_aload_n C (j := 1) dX11_write_20 rfl rfl rfl ?_
    refine f_getc C tF_X11_12 rfl o1 cs1_0 (by decide) dX11_write_21 rfl ?_
    refine f_iload_n C (j := 2) dX11_write_24 rfl rfl rfl ?_
    refine f_iload_n C (j := 3) dX11_write_25 rfl rfl rfl ?_
    refine f_lload_n C (j := 4) dX11_write_26 rfl rfl rfl ?_
    refine f_callVv C (a := 2) (ci := 10) (As := fun B => [.int x1, .int x2, .long x3]) o2 rfl (c_X10_put  _ _ _ _ _ h) tM_X11_177 tI_X10_put tS_X10_put tN_X10 tC_X10_put 3 dd_X10_put rfl (by decide) (by decide) rfl (Nat.le_of_ble_eq_true rfl) dX11_write_27 rfl (fun σ_4 h => ?_)
    refine f_aload_n C (j := 1) dX11_write_30 rfl rfl rfl ?_
    refine f_callVi C (a := 1) (ci := 11) (As := fun B => []) o1 rfl (c_X11_fineSo   _ _ h) tM_X11_169 tI_X11_fineSo tS_X11_fineSo tN_X11 tC_X11_fineSo 0 dd_X11_fineSo rfl (by decide) (by decide) rfl (Nat.le_of_ble_eq_true rfl) dX11_write_31 rfl (fun r_7 σ_6 h => ?_)
    obtain ⟨hb_8, h⟩ := h
    exact f_zret C hb_8 dX11_write_34 h
  · replace h := Eq.mp (if_neg hq_3) h
    refine f_aload_n C (j := 1) dX11_write_13 rfl rfl rfl ?_
    refine f_iload C (j := 0) dX11_write_14 rfl rfl ?_
    refine f_callVi C (a := 1) (ci := 11) (As := fun B => [.int r_2]) o1 rfl (c_X11_refuseSo  _ _ _ h) tM_X11_162 tI_X11_refuseSo tS_X11_refuseSo tN_X11 tC_X11_refuseSo 1 dd_X11_refuseSo rfl (by decide) (by decide) rfl (Nat.le_of_ble_eq_true rfl) dX11_write_16 rfl (fun r_10 σ_9 h => ?_)
    obtain ⟨hb_11, h⟩ := h
    exact f_zret C hb_11 dX11_write_19 h
theorem c_X11_write (x1 : Int32) (x2 : Int32) (x3 : Int64) (σ : Sto) (P : Int32 → Sto → Prop) (h : w_X11_write x1 x2 x3 σ P) : Ct yX11_write cX11_write 6 (some .boolean) 2 46 (fun B => [.ref (B + 1), .int x1, .int x2, .long x3]) σ (QFi P) := Ct.of (by decide) (fun _ => Nat.le_of_ble_eq_true rfl) (fun B E C => s_X11_write C x1 x2 x3 σ h)
def w_X11_read (x1 : Int32) (x2 : Int32) (σ : Sto) (P : Int64 → Sto → Prop) : Prop :=
  w_X11_placeFault x1 x2 σ (fun r_2 σ_1 => (if r_2 = 0 then w_X10_number x1 x2 (si σ_1 1 15 0) (fun r_5 σ_4 => P r_5 σ_4) else w_X11_refuse r_2 σ_1 (fun r_7 σ_6 => P r_7.toInt64 σ_6)))
theorem s_X11_read {B : Nat} {E : Nat → List (Nat × Value) → List Value → Sto → Prop} {P : Int64 → Sto → Prop} (C : Cy B E RX11 cX11_read 4 (some .long) 2 45 (Zm (QFl P))) (x1 : Int32) (x2 : Int32) (σ : Sto) (h : w_X11_read x1 x2 σ P) : E 0 [(0, .ref (B + 1)), (1, .int x1), (2, .int x2)] [] σ := by
  unfold w_X11_read at h
  refine f_aload_n C (j := 0) dX11_read_0 rfl rfl rfl ?_
  refine f_iload_n C (j := 1) dX11_read_1 rfl rfl rfl ?_
  refine f_iload_n C (j := 2) dX11_read_2 rfl rfl rfl ?_
  refine f_callVi C (a := 1) (ci := 11) (As := fun B => [.int x1, .int x2]) o1 rfl (c_X11_placeFault  _ _ _ _ h) tM_X11_173 tI_X11_placeFault tS_X11_placeFault tN_X11 tC_X11_placeFault 2 dd_X11_placeFault rfl (by decide) (by decide) rfl (Nat.le_of_ble_eq_true rfl) dX11_read_3 rfl (fun r_2 σ_1 h => ?_)
  refine f_istore_n C (lv2 := [(3, .int r_2), (0, .ref (B + 1)), (1, .int x1), (2, .int x2)]) dX11_read_6 rfl (by decide) rfl rfl ?_
  refine f_iload_n C (j := 0) dX11_read_7 rfl rfl rfl ?_
  refine f_if_eq C (t := 18) dX11_read_8 (by decide) rfl (fun hq_3 => ?_) (fun hq_3 => ?_)
  · replace h := Eq.mp (if_pos hq_3) h
    refine f_aload_n C (j := 1) dX11_read_18 rfl rfl rfl ?_
    refine f_iconst C (v := 0) dX11_read_19 kc0 rfl ?_
    refine f_puti C tF_X11_110 fm_11_15 rfl o1 dX11_read_20 rfl ?_
    refine f_aload_n C (j := 1) dX11_read_23 rfl rfl rfl ?_
    refine f_getc C tF_X11_12 rfl o1 cs1_0 (by decide) dX11_read_24 rfl ?_
    refine f_iload_n C (j := 2) dX11_read_27 rfl rfl rfl ?_
    refine f_iload_n C (j := 3) dX11_read_28 rfl rfl rfl ?_
    refine f_callVl C (a := 2) (ci := 10) (As := fun B => [.int x1, .int x2]) o2 rfl (c_X10_number  _ _ _ _ h) tM_X11_181 tI_X10_number tS_X10_number tN_X10 tC_X10_number 2 dd_X10_number rfl (by decide) (by decide) rfl (Nat.le_of_ble_eq_true rfl) dX11_read_29 rfl (fun r_5 σ_4 h => ?_)
    exact f_lret C dX11_read_32 h
  · replace h := Eq.mp (if_neg hq_3) h
    refine f_aload_n C (j := 1) dX11_read_11 rfl rfl rfl ?_
    refine f_iload_n C (j := 0) dX11_read_12 rfl rfl rfl ?_
    refine f_callVi C (a := 1) (ci := 11) (As := fun B => [.int r_2]) o1 rfl (c_X11_refuse  _ _ _ h) tM_X11_126 tI_X11_refuse tS_X11_refuse tN_X11 tC_X11_refuse 1 dd_X11_refuse rfl (by decide) (by decide) rfl (Nat.le_of_ble_eq_true rfl) dX11_read_13 rfl (fun r_7 σ_6 h => ?_)
    refine f_i2l C dX11_read_16 rfl ?_
    exact f_lret C dX11_read_17 h
theorem c_X11_read (x1 : Int32) (x2 : Int32) (σ : Sto) (P : Int64 → Sto → Prop) (h : w_X11_read x1 x2 σ P) : Ct yX11_read cX11_read 4 (some .long) 2 45 (fun B => [.ref (B + 1), .int x1, .int x2]) σ (QFl P) := Ct.of (by decide) (fun _ => Nat.le_of_ble_eq_true rfl) (fun B E C => s_X11_read C x1 x2 σ h)
def w_X11_pour_22 (σ : Sto) (P : Int32 → Sto → Prop) : Prop :=
  w_X11_refuseSo 1 σ (fun r_5 σ_4 => (r_5 = 0 ∨ r_5 = 1) ∧ P r_5 σ_4)
theorem s_X11_pour_22 {B : Nat} {E : Nat → List (Nat × Value) → List Value → Sto → Prop} {P : Int32 → Sto → Prop} (C : Cy B E RX11 cX11_pour 6 (some .boolean) 2 51 (Zm (QFi P))) (σ : Sto) (h : w_X11_pour_22 σ P) : E 22 [(0, .ref (B + 1))] [] σ := by
  unfold w_X11_pour_22 at h
  refine f_aload_n C (j := 0) dX11_pour_22 rfl rfl rfl ?_
  refine f_iconst C (v := 1) dX11_pour_23 kc1 rfl ?_
  refine f_callVi C (a := 1) (ci := 11) (As := fun B => [.int 1]) o1 rfl (c_X11_refuseSo  _ _ _ h) tM_X11_162 tI_X11_refuseSo tS_X11_refuseSo tN_X11 tC_X11_refuseSo 1 dd_X11_refuseSo rfl (by decide) (by decide) rfl (Nat.le_of_ble_eq_true rfl) dX11_pour_24 rfl (fun r_5 σ_4 h => ?_)
  obtain ⟨hb_6, h⟩ := h
  exact f_zret C hb_6 dX11_pour_27 h
def w_X11_pour_50 (σ : Sto) (P : Int32 → Sto → Prop) : Prop :=
  w_X11_refuseSo 3 σ (fun r_14 σ_13 => (r_14 = 0 ∨ r_14 = 1) ∧ P r_14 σ_13)
theorem s_X11_pour_50 {B : Nat} {E : Nat → List (Nat × Value) → List Value → Sto → Prop} {P : Int32 → Sto → Prop} (C : Cy B E RX11 cX11_pour 6 (some .boolean) 2 51 (Zm (QFi P))) (σ : Sto) (h : w_X11_pour_50 σ P) : E 50 [(0, .ref (B + 1))] [] σ := by
  unfold w_X11_pour_50 at h
  refine f_aload_n C (j := 0) dX11_pour_50 rfl rfl rfl ?_
  refine f_iconst C (v := 3) dX11_pour_51 kc3 rfl ?_
  refine f_callVi C (a := 1) (ci := 11) (As := fun B => [.int 3]) o1 rfl (c_X11_refuseSo  _ _ _ h) tM_X11_162 tI_X11_refuseSo tS_X11_refuseSo tN_X11 tC_X11_refuseSo 1 dd_X11_refuseSo rfl (by decide) (by decide) rfl (Nat.le_of_ble_eq_true rfl) dX11_pour_52 rfl (fun r_14 σ_13 h => ?_)
  obtain ⟨hb_15, h⟩ := h
  exact f_zret C hb_15 dX11_pour_55 h
def w_X11_pour_116 (σ : Sto) (P : Int32 → Sto → Prop) : Prop :=
  w_X11_refuseSo 4 σ (fun r_27 σ_26 => (r_27 = 0 ∨ r_27 = 1) ∧ P r_27 σ_26)
theorem s_X11_pour_116 {B : Nat} {E : Nat → List (Nat × Value) → List Value → Sto → Prop} {P : Int32 → Sto → Prop} (C : Cy B E RX11 cX11_pour 6 (some .boolean) 2 51 (Zm (QFi P))) (σ : Sto) (h : w_X11_pour_116 σ P) : E 116 [(0, .ref (B + 1))] [] σ := by
  unfold w_X11_pour_116 at h
  refine f_aload_n C (j := 0) dX11_pour_116 rfl rfl rfl ?_
  refine f_iconst C (v := 4) dX11_pour_117 kc4 rfl ?_
  refine f_callVi C (a := 1) (ci := 11) (As := fun B => [.int 4]) o1 rfl (c_X11_refuseSo  _ _ _ h) tM_X11_162 tI_X11_refuseSo tS_X11_refuseSo tN_X11 tC_X11_refuseSo 1 dd_X11_refuseSo rfl (by decide) (by decide) rfl (Nat.le_of_ble_eq_true rfl) dX11_pour_118 rfl (fun r_27 σ_26 h => ?_)
  obtain ⟨hb_28, h⟩ := h
  exact f_zret C hb_28 dX11_pour_121 h
def w_X11_pour (x1 : Int32) (x2 : Int32) (x3 : Int32) (x4 : Int32) (x5 : Int32) (σ : Sto) (P : Int32 → Sto → Prop) : Prop :=
  w_X10_isTray x1 σ (fun r_2 σ_1 => (if r_2 = 0 then w_X11_pour_22 σ_1 P else w_X10_isTray x3 σ_1 (fun r_8 σ_7 => (if r_8 = 0 then w_X11_pour_22 σ_7 P else w_X10_isMissing x1 σ_7 (fun r_11 σ_10 => (if r_11 = 0 then w_X10_isMissing x3 σ_10 (fun r_17 σ_16 => (if r_17 = 0 then w_X10_areAlike x1 x3 σ_16 (fun r_20 σ_19 => (if r_20 = 0 then w_X11_refuseSo 11 σ_19 (fun r_41 σ_40 => (r_41 = 0 ∨ r_41 = 1) ∧ P r_41 σ_40) else (if 0 ≤ x5 then w_X10_has x1 x2 x5 σ_19 (fun r_24 σ_23 => (if r_24 = 0 then w_X11_pour_116 σ_23 P else w_X10_has x3 x4 x5 σ_23 (fun r_30 σ_29 => (if r_30 = 0 then w_X11_pour_116 σ_29 P else w_X10_move x1 x2 x3 x4 x5 σ_29 (fun σ_32 => w_X11_fineSo σ_32 (fun r_35 σ_34 => (r_35 = 0 ∨ r_35 = 1) ∧ P r_35 σ_34)))))) else w_X11_refuseSo 6 σ_19 (fun r_38 σ_37 => (r_38 = 0 ∨ r_38 = 1) ∧ P r_38 σ_37)))) else w_X11_pour_50 σ_16 P)) else w_X11_pour_50 σ_10 P))))))
theorem s_X11_pour {B : Nat} {E : Nat → List (Nat × Value) → List Value → Sto → Prop} {P : Int32 → Sto → Prop} (C : Cy B E RX11 cX11_pour 6 (some .boolean) 2 51 (Zm (QFi P))) (x1 : Int32) (x2 : Int32) (x3 : Int32) (x4 : Int32) (x5 : Int32) (σ : Sto) (h : w_X11_pour x1 x2 x3 x4 x5 σ P) : E 0 [(0, .ref (B + 1)), (1, .int x1), (2, .int x2), (3, .int x3), (4, .int x4), (5, .int x5)] [] σ := by
  unfold w_X11_pour at h
  refine f_aload_n C (j := 0) dX11_pour_0 rfl rfl rfl ?_
  refine f_getc C tF_X11_12 rfl o1 cs1_0 (by decide) dX11_pour_1 rfl ?_
  refine f_iload_n C (j := 1) dX11_pour_4 rfl rfl rfl ?_
  refine f_callVi C (a := 2) (ci := 10) (As := fun B => [.int x1]) o2 rfl (c_X10_isTray  _ _ _ h) tM_X11_155 tI_X10_isTray tS_X10_isTray tN_X10 tC_X10_isTray 1 dd_X10_isTray rfl (by decide) (by decide) rfl (Nat.le_of_ble_eq_true rfl) dX11_pour_5 rfl (fun r_2 σ_1 h => ?_)
  refine f_if_eq C (t := 22) dX11_pour_8 (by decide) rfl (fun hq_3 => ?_) (fun hq_3 => ?_)
  · replace h := Eq.mp (if_pos hq_3) h
    refine f_lv C (lv2 := [(0, .ref (B + 1))]) [0] rfl ?_
    exact s_X11_pour_22 C  _ h
  · replace h := Eq.mp (if_neg hq_3) h
    refine f_aload_n C (j := 0) dX11_pour_11 rfl rfl rfl ?_
    refine f_getc C tF_X11_12 rfl o1 cs1_0 (by decide) dX11_pour_12 rfl ?_
    refine f_iload_n C (j := 3) dX11_pour_15 rfl rfl rfl ?_
    refine f_callVi C (a := 2) (ci := 10) (As := fun B => [.int x3]) o2 rfl (c_X10_isTray  _ _ _ h) tM_X11_155 tI_X10_isTray tS_X10_isTray tN_X10 tC_X10_isTray 1 dd_X10_isTray rfl (by decide) (by decide) rfl (Nat.le_of_ble_eq_true rfl) dX11_pour_16 rfl (fun r_8 σ_7 h => ?_)
    refine f_if_ne C (t := 28) dX11_pour_19 (by decide) rfl (fun hq_9 => ?_) (fun hq_9 => ?_)
    · replace h := Eq.mp (if_neg hq_9) h
      refine f_aload_n C (j := 0) dX11_pour_28 rfl rfl rfl ?_
      refine f_getc C tF_X11_12 rfl o1 cs1_0 (by decide) dX11_pour_29 rfl ?_
      refine f_iload_n C (j := 1) dX11_pour_32 rfl rfl rfl ?_
      refine f_callVi C (a := 2) (ci := 10) (As := fun B => [.int x1]) o2 rfl (c_X10_isMissing  _ _ _ h) tM_X11_185 tI_X10_isMissing tS_X10_isMissing tN_X10 tC_X10_isMissing 1 dd_X10_isMissing rfl (by decide) (by decide) rfl (Nat.le_of_ble_eq_true rfl) dX11_pour_33 rfl (fun r_11 σ_10 h => ?_)
      refine f_if_ne C (t := 50) dX11_pour_36 (by decide) rfl (fun hq_12 => ?_) (fun hq_12 => ?_)
      · replace h := Eq.mp (if_neg hq_12) h
        refine f_lv C (lv2 := [(0, .ref (B + 1))]) [0] rfl ?_
        exact s_X11_pour_50 C  _ h
      · replace h := Eq.mp (if_pos hq_12) h
        refine f_aload_n C (j := 0) dX11_pour_39 rfl rfl rfl ?_
        refine f_getc C tF_X11_12 rfl o1 cs1_0 (by decide) dX11_pour_40 rfl ?_
        refine f_iload_n C (j := 3) dX11_pour_43 rfl rfl rfl ?_
        refine f_callVi C (a := 2) (ci := 10) (As := fun B => [.int x3]) o2 rfl (c_X10_isMissing  _ _ _ h) tM_X11_185 tI_X10_isMissing tS_X10_isMissing tN_X10 tC_X10_isMissing 1 dd_X10_isMissing rfl (by decide) (by decide) rfl (Nat.le_of_ble_eq_true rfl) dX11_pour_44 rfl (fun r_17 σ_16 h => ?_)
        refine f_if_eq C (t := 56) dX11_pour_47 (by decide) rfl (fun hq_18 => ?_) (fun hq_18 => ?_)
        · replace h := Eq.mp (if_pos hq_18) h
          refine f_aload_n C (j := 0) dX11_pour_56 rfl rfl rfl ?_
          refine f_getc C tF_X11_12 rfl o1 cs1_0 (by decide) dX11_pour_57 rfl ?_
          refine f_iload_n C (j := 1) dX11_pour_60 rfl rfl rfl ?_
          refine f_iload_n C (j := 3) dX11_pour_61 rfl rfl rfl ?_
          refine f_callVi C (a := 2) (ci := 10) (As := fun B => [.int x1, .int x3]) o2 rfl (c_X10_areAlike  _ _ _ _ h) tM_X11_192 tI_X10_areAlike tS_X10_areAlike tN_X10 tC_X10_areAlike 2 dd_X10_areAlike rfl (by decide) (by decide) rfl (Nat.le_of_ble_eq_true rfl) dX11_pour_62 rfl (fun r_20 σ_19 h => ?_)
          refine f_if_ne C (t := 75) dX11_pour_65 (by decide) rfl (fun hq_21 => ?_) (fun hq_21 => ?_)
          · replace h := Eq.mp (if_neg hq_21) h
            refine f_iload C (j := 5) dX11_pour_75 rfl rfl ?_
            refine f_if_ge C (t := 87) dX11_pour_77 (by decide) rfl (fun hq_22 => ?_) (fun hq_22 => ?_)
            · replace h := Eq.mp (if_pos hq_22) h
              refine f_aload_n C (j := 0) dX11_pour_87 rfl rfl rfl ?_
              refine f_getc C tF_X11_12 rfl o1 cs1_0 (by decide) dX11_pour_88 rfl ?_
              refine f_iload_n C (j := 1) dX11_pour_91 rfl rfl rfl ?_
              refine f_iload_n C (j := 2) dX11_pour_92 rfl rfl rfl ?_
              refine f_iload C (j := 5) dX11_pour_93 rfl rfl ?_
              refine f_callVi C (a := 2) (ci := 10) (As := fun B => [.int x1, .int x2, .int x5]) o2 rfl (c_X10_has  _ _ _ _ _ h) tM_X11_188 tI_X10_has tS_X10_has tN_X10 tC_X10_has 3 dd_X10_has rfl (by decide) (by decide) rfl (Nat.le_of_ble_eq_true rfl) dX11_pour_95 rfl (fun r_24 σ_23 h => ?_)
              refine f_if_eq C (t := 116) dX11_pour_98 (by decide) rfl (fun hq_25 => ?_) (fun hq_25 => ?_)
              · replace h := Eq.mp (if_pos hq_25) h
                refine f_lv C (lv2 := [(0, .ref (B + 1))]) [0] rfl ?_
                exact s_X11_pour_116 C  _ h
              · replace h := Eq.mp (if_neg hq_25) h
                refine f_aload_n C (j := 0) dX11_pour_101 rfl rfl rfl ?_
                refine f_getc C tF_X11_12 rfl o1 cs1_0 (by decide) dX11_pour_102 rfl ?_
                refine f_iload_n C (j := 3) dX11_pour_105 rfl rfl rfl ?_
                refine f_iload C (j := 4) dX11_pour_106 rfl rfl ?_
                refine f_iload C (j := 5) dX11_pour_108 rfl rfl ?_
                refine f_callVi C (a := 2) (ci := 10) (As := fun B => [.int x3, .int x4, .int x5]) o2 rfl (c_X10_has  _ _ _ _ _ h) tM_X11_188 tI_X10_has tS_X10_has tN_X10 tC_X10_has 3 dd_X10_has rfl (by decide) (by decide) rfl (Nat.le_of_ble_eq_true rfl) dX11_pour_110 rfl (fun r_30 σ_29 h => ?_)
                refine f_if_ne C (t := 122) dX11_pour_113 (by decide) rfl (fun hq_31 => ?_) (fun hq_31 => ?_)
                · replace h := Eq.mp (if_neg hq_31) h
                  refine f_aload_n C (j := 0) dX11_pour_122 rfl rfl rfl ?_
                  refine f_getc C tF_X11_12 rfl o1 cs1_0 (by decide) dX11_pour_123 rfl ?_
                  refine f_iload_n C (j := 1) dX11_pour_126 rfl rfl rfl ?_
                  refine f_iload_n C (j := 2) dX11_pour_127 rfl rfl rfl ?_
                  refine f_iload_n C (j := 3) dX11_pour_128 rfl rfl rfl ?_
                  refine f_iload C (j := 4) dX11_pour_129 rfl rfl ?_
                  refine f_iload C (j := 5) dX11_pour_131 rfl rfl ?_
                  refine f_callVv C (a := 2) (ci := 10) (As := fun B => [.int x1, .int x2, .int x3, .int x4, .int x5]) o2 rfl (c_X10_move  _ _ _ _ _ _ _ h) tM_X11_196 tI_X10_move tS_X10_move tN_X10 tC_X10_move 5 dd_X10_move rfl (by decide) (by decide) rfl (Nat.le_of_ble_eq_true rfl) dX11_pour_133 rfl (fun σ_32 h => ?_)
                  refine f_aload_n C (j := 0) dX11_pour_136 rfl rfl rfl ?_
                  refine f_callVi C (a := 1) (ci := 11) (As := fun B => []) o1 rfl (c_X11_fineSo   _ _ h) tM_X11_169 tI_X11_fineSo tS_X11_fineSo tN_X11 tC_X11_fineSo 0 dd_X11_fineSo rfl (by decide) (by decide) rfl (Nat.le_of_ble_eq_true rfl) dX11_pour_137 rfl (fun r_35 σ_34 h => ?_)
                  obtain ⟨hb_36, h⟩ := h
                  exact f_zret C hb_36 dX11_pour_140 h
                · replace h := Eq.mp (if_pos hq_31) h
                  refine f_lv C (lv2 := [(0, .ref (B + 1))]) [0] rfl ?_
                  exact s_X11_pour_116 C  _ h
            · replace h := Eq.mp (if_neg hq_22) h
              refine f_aload_n C (j := 0) dX11_pour_80 rfl rfl rfl ?_
              refine f_bipush C (v := 6) dX11_pour_81 kb6 rfl ?_
              refine f_callVi C (a := 1) (ci := 11) (As := fun B => [.int 6]) o1 rfl (c_X11_refuseSo  _ _ _ h) tM_X11_162 tI_X11_refuseSo tS_X11_refuseSo tN_X11 tC_X11_refuseSo 1 dd_X11_refuseSo rfl (by decide) (by decide) rfl (Nat.le_of_ble_eq_true rfl) dX11_pour_83 rfl (fun r_38 σ_37 h => ?_)
              obtain ⟨hb_39, h⟩ := h
              exact f_zret C hb_39 dX11_pour_86 h
          · replace h := Eq.mp (if_pos hq_21) h
            refine f_aload_n C (j := 0) dX11_pour_68 rfl rfl rfl ?_
            refine f_bipush C (v := 11) dX11_pour_69 kb11 rfl ?_
            refine f_callVi C (a := 1) (ci := 11) (As := fun B => [.int 11]) o1 rfl (c_X11_refuseSo  _ _ _ h) tM_X11_162 tI_X11_refuseSo tS_X11_refuseSo tN_X11 tC_X11_refuseSo 1 dd_X11_refuseSo rfl (by decide) (by decide) rfl (Nat.le_of_ble_eq_true rfl) dX11_pour_71 rfl (fun r_41 σ_40 h => ?_)
            obtain ⟨hb_42, h⟩ := h
            exact f_zret C hb_42 dX11_pour_74 h
        · replace h := Eq.mp (if_neg hq_18) h
          refine f_lv C (lv2 := [(0, .ref (B + 1))]) [0] rfl ?_
          exact s_X11_pour_50 C  _ h
    · replace h := Eq.mp (if_pos hq_9) h
      refine f_lv C (lv2 := [(0, .ref (B + 1))]) [0] rfl ?_
      exact s_X11_pour_22 C  _ h
theorem c_X11_pour (x1 : Int32) (x2 : Int32) (x3 : Int32) (x4 : Int32) (x5 : Int32) (σ : Sto) (P : Int32 → Sto → Prop) (h : w_X11_pour x1 x2 x3 x4 x5 σ P) : Ct yX11_pour cX11_pour 6 (some .boolean) 2 51 (fun B => [.ref (B + 1), .int x1, .int x2, .int x3, .int x4, .int x5]) σ (QFi P) := Ct.of (by decide) (fun _ => Nat.le_of_ble_eq_true rfl) (fun B E C => s_X11_pour C x1 x2 x3 x4 x5 σ h)
def w_X11_feed (x1 : Int32) (x2 : Int32) (x3 : Int32) (x4 : Int32) (x5 : Int32) (σ : Sto) (P : Int32 → Sto → Prop) : Prop :=
  w_X9_hasRoom σ (fun r_2 σ_1 => (if r_2 = 0 then P (-1) σ_1 else w_X9_add x1 σ_1 (fun σ_4 => w_X9_add x2 σ_4 (fun σ_6 => w_X9_add x3 σ_6 (fun σ_8 => w_X9_add x4 σ_8 (fun σ_10 => w_X9_add x5 σ_10 (fun σ_12 => P (gi σ_12 10 2) σ_12)))))))
theorem s_X11_feed {B : Nat} {E : Nat → List (Nat × Value) → List Value → Sto → Prop} {P : Int32 → Sto → Prop} (C : Cy B E RX11 cX11_feed 6 (some .int) 1 22 (Zm (QFi P))) (x1 : Int32) (x2 : Int32) (x3 : Int32) (x4 : Int32) (x5 : Int32) (σ : Sto) (h : w_X11_feed x1 x2 x3 x4 x5 σ P) : E 0 [(0, .ref (B + 1)), (1, .int x1), (2, .int x2), (3, .int x3), (4, .int x4), (5, .int x5)] [] σ := by
  unfold w_X11_feed at h
  refine f_aload_n C (j := 0) dX11_feed_0 rfl rfl rfl ?_
  refine f_getc C tF_X11_19 rfl o1 cs1_1 (by decide) dX11_feed_1 rfl ?_
  refine f_callVi C (a := 10) (ci := 9) (As := fun B => []) o10 rfl (c_X9_hasRoom   _ _ h) tM_X11_200 tI_X9_hasRoom tS_X9_hasRoom tN_X9 tC_X9_hasRoom 0 dd_X9_hasRoom rfl (by decide) (by decide) rfl (Nat.le_of_ble_eq_true rfl) dX11_feed_4 rfl (fun r_2 σ_1 h => ?_)
  refine f_if_ne C (t := 12) dX11_feed_7 (by decide) rfl (fun hq_3 => ?_) (fun hq_3 => ?_)
  · replace h := Eq.mp (if_neg hq_3) h
    refine f_aload_n C (j := 0) dX11_feed_12 rfl rfl rfl ?_
    refine f_getc C tF_X11_19 rfl o1 cs1_1 (by decide) dX11_feed_13 rfl ?_
    refine f_iload_n C (j := 1) dX11_feed_16 rfl rfl rfl ?_
    refine f_callVv C (a := 10) (ci := 9) (As := fun B => [.int x1]) o10 rfl (c_X9_add  _ _ _ h) tM_X11_203 tI_X9_add tS_X9_add tN_X9 tC_X9_add 1 dd_X9_add rfl (by decide) (by decide) rfl (Nat.le_of_ble_eq_true rfl) dX11_feed_17 rfl (fun σ_4 h => ?_)
    refine f_aload_n C (j := 0) dX11_feed_20 rfl rfl rfl ?_
    refine f_getc C tF_X11_19 rfl o1 cs1_1 (by decide) dX11_feed_21 rfl ?_
    refine f_iload_n C (j := 2) dX11_feed_24 rfl rfl rfl ?_
    refine f_callVv C (a := 10) (ci := 9) (As := fun B => [.int x2]) o10 rfl (c_X9_add  _ _ _ h) tM_X11_203 tI_X9_add tS_X9_add tN_X9 tC_X9_add 1 dd_X9_add rfl (by decide) (by decide) rfl (Nat.le_of_ble_eq_true rfl) dX11_feed_25 rfl (fun σ_6 h => ?_)
    refine f_aload_n C (j := 0) dX11_feed_28 rfl rfl rfl ?_
    refine f_getc C tF_X11_19 rfl o1 cs1_1 (by decide) dX11_feed_29 rfl ?_
    refine f_iload_n C (j := 3) dX11_feed_32 rfl rfl rfl ?_
    refine f_callVv C (a := 10) (ci := 9) (As := fun B => [.int x3]) o10 rfl (c_X9_add  _ _ _ h) tM_X11_203 tI_X9_add tS_X9_add tN_X9 tC_X9_add 1 dd_X9_add rfl (by decide) (by decide) rfl (Nat.le_of_ble_eq_true rfl) dX11_feed_33 rfl (fun σ_8 h => ?_)
    refine f_aload_n C (j := 0) dX11_feed_36 rfl rfl rfl ?_
    refine f_getc C tF_X11_19 rfl o1 cs1_1 (by decide) dX11_feed_37 rfl ?_
    refine f_iload C (j := 4) dX11_feed_40 rfl rfl ?_
    refine f_callVv C (a := 10) (ci := 9) (As := fun B => [.int x4]) o10 rfl (c_X9_add  _ _ _ h) tM_X11_203 tI_X9_add tS_X9_add tN_X9 tC_X9_add 1 dd_X9_add rfl (by decide) (by decide) rfl (Nat.le_of_ble_eq_true rfl) dX11_feed_42 rfl (fun σ_10 h => ?_)
    refine f_aload_n C (j := 0) dX11_feed_45 rfl rfl rfl ?_
    refine f_getc C tF_X11_19 rfl o1 cs1_1 (by decide) dX11_feed_46 rfl ?_
    refine f_iload C (j := 5) dX11_feed_49 rfl rfl ?_
    refine f_callVv C (a := 10) (ci := 9) (As := fun B => [.int x5]) o10 rfl (c_X9_add  _ _ _ h) tM_X11_203 tI_X9_add tS_X9_add tN_X9 tC_X9_add 1 dd_X9_add rfl (by decide) (by decide) rfl (Nat.le_of_ble_eq_true rfl) dX11_feed_51 rfl (fun σ_12 h => ?_)
    refine f_aload_n C (j := 0) dX11_feed_54 rfl rfl rfl ?_
    refine f_getc C tF_X11_19 rfl o1 cs1_1 (by decide) dX11_feed_55 rfl ?_
    refine f_geti C tF_X11_207 rfl o10 dX11_feed_58 rfl ?_
    exact f_iret C dX11_feed_61 h
  · replace h := Eq.mp (if_pos hq_3) h
    refine f_iconst C (v := (-1)) dX11_feed_10 kcm1 rfl ?_
    exact f_iret C dX11_feed_11 h
theorem c_X11_feed (x1 : Int32) (x2 : Int32) (x3 : Int32) (x4 : Int32) (x5 : Int32) (σ : Sto) (P : Int32 → Sto → Prop) (h : w_X11_feed x1 x2 x3 x4 x5 σ P) : Ct yX11_feed cX11_feed 6 (some .int) 1 22 (fun B => [.ref (B + 1), .int x1, .int x2, .int x3, .int x4, .int x5]) σ (QFi P) := Ct.of (by decide) (fun _ => Nat.le_of_ble_eq_true rfl) (fun B E C => s_X11_feed C x1 x2 x3 x4 x5 σ h)
def w_X11_tellFault_35 (z0 : Int32) (σ : Sto) (P : Sto → Prop) : Prop :=
  w_X9_empty (si σ 1 19 z0) (fun σ_5 => P σ_5)
theorem s_X11_tellFault_35 {B : Nat} {E : Nat → List (Nat × Value) → List Value → Sto → Prop} {P : Sto → Prop} (C : Cy B E RX11 cX11_tellFault 2 none 1 20 (Zm (QFv P))) (z0 : Int32) (σ : Sto) (h : w_X11_tellFault_35 z0 σ P) : E 35 [(0, .ref (B + 1))] [.int z0, .ref (B + 1)] σ := by
  unfold w_X11_tellFault_35 at h
  refine f_puti C tF_X11_123 fm_11_19 rfl o1 dX11_tellFault_35 rfl ?_
  refine f_aload_n C (j := 0) dX11_tellFault_38 rfl rfl rfl ?_
  refine f_getc C tF_X11_19 rfl o1 cs1_1 (by decide) dX11_tellFault_39 rfl ?_
  refine f_callVv C (a := 10) (ci := 9) (As := fun B => []) o10 rfl (c_X9_empty   _ _ h) tM_X11_239 tI_X9_empty tS_X9_empty tN_X9 tC_X9_empty 0 dd_X9_empty rfl (by decide) (by decide) rfl (Nat.le_of_ble_eq_true rfl) dX11_tellFault_42 rfl (fun σ_5 h => ?_)
  exact f_vret C dX11_tellFault_45 h
def w_X11_tellFault_16 (x1 : Int32) (z0 : Int32) (σ : Sto) (P : Sto → Prop) : Prop :=
  (if x1 = 0 then ∀ σ_3 : Sto, σ_3 = si σ 1 18 z0 → w_X11_tellFault_35 (gi σ_3 10 10) σ_3 P else w_X11_tellFault_35 (-1) (si σ 1 18 z0) P)
theorem s_X11_tellFault_16 {B : Nat} {E : Nat → List (Nat × Value) → List Value → Sto → Prop} {P : Sto → Prop} (C : Cy B E RX11 cX11_tellFault 2 none 1 20 (Zm (QFv P))) (x1 : Int32) (z0 : Int32) (σ : Sto) (h : w_X11_tellFault_16 x1 z0 σ P) : E 16 [(0, .ref (B + 1)), (1, .int x1)] [.int z0, .ref (B + 1)] σ := by
  unfold w_X11_tellFault_16 at h
  refine f_puti C tF_X11_120 fm_11_18 rfl o1 dX11_tellFault_16 rfl ?_
  refine f_aload_n C (j := 0) dX11_tellFault_19 rfl rfl rfl ?_
  refine f_iload_n C (j := 1) dX11_tellFault_20 rfl rfl rfl ?_
  refine f_if_eq C (t := 28) dX11_tellFault_21 (by decide) rfl (fun hq_2 => ?_) (fun hq_2 => ?_)
  · replace h := Eq.mp (if_pos hq_2) h
    refine f_aload_n C (j := 0) dX11_tellFault_28 rfl rfl rfl ?_
    refine f_getc C tF_X11_19 rfl o1 cs1_1 (by decide) dX11_tellFault_29 rfl ?_
    refine f_names (fun σ_3 hσ_4 => ?_)
    replace h := h σ_3 hσ_4
    refine f_geti C tF_X11_238 rfl o10 dX11_tellFault_32 rfl ?_
    refine f_lv C (lv2 := [(0, .ref (B + 1))]) [0] rfl ?_
    exact s_X11_tellFault_35 C _  _ h
  · replace h := Eq.mp (if_neg hq_2) h
    refine f_iconst C (v := (-1)) dX11_tellFault_24 kcm1 rfl ?_
    refine f_goto C (t := 35) dX11_tellFault_25 (by decide) ?_
    refine f_lv C (lv2 := [(0, .ref (B + 1))]) [0] rfl ?_
    exact s_X11_tellFault_35 C _  _ h
def w_X11_tellFault (x1 : Int32) (σ : Sto) (P : Sto → Prop) : Prop :=
  (if x1 = 0 then w_X11_tellFault_16 x1 (gi σ 10 9) σ P else w_X11_tellFault_16 x1 0 σ P)
theorem s_X11_tellFault {B : Nat} {E : Nat → List (Nat × Value) → List Value → Sto → Prop} {P : Sto → Prop} (C : Cy B E RX11 cX11_tellFault 2 none 1 20 (Zm (QFv P))) (x1 : Int32) (σ : Sto) (h : w_X11_tellFault x1 σ P) : E 0 [(0, .ref (B + 1)), (1, .int x1)] [] σ := by
  unfold w_X11_tellFault at h
  refine f_aload_n C (j := 0) dX11_tellFault_0 rfl rfl rfl ?_
  refine f_iload_n C (j := 1) dX11_tellFault_1 rfl rfl rfl ?_
  refine f_if_eq C (t := 9) dX11_tellFault_2 (by decide) rfl (fun hq_1 => ?_) (fun hq_1 => ?_)
  · replace h := Eq.mp (if_pos hq_1) h
    refine f_aload_n C (j := 0) dX11_tellFault_9 rfl rfl rfl ?_
    refine f_getc C tF_X11_19 rfl o1 cs1_1 (by decide) dX11_tellFault_10 rfl ?_
    refine f_geti C tF_X11_237 rfl o10 dX11_tellFault_13 rfl ?_
    exact s_X11_tellFault_16 C _ _  _ h
  · replace h := Eq.mp (if_neg hq_1) h
    refine f_iconst C (v := 0) dX11_tellFault_5 kc0 rfl ?_
    refine f_goto C (t := 16) dX11_tellFault_6 (by decide) ?_
    exact s_X11_tellFault_16 C _ _  _ h
theorem c_X11_tellFault (x1 : Int32) (σ : Sto) (P : Sto → Prop) (h : w_X11_tellFault x1 σ P) : Ct yX11_tellFault cX11_tellFault 2 none 1 20 (fun B => [.ref (B + 1), .int x1]) σ (QFv P) := Ct.of (by decide) (fun _ => Nat.le_of_ble_eq_true rfl) (fun B E C => s_X11_tellFault C x1 σ h)
def w_X11_city_15 (σ : Sto) (P : Int32 → Sto → Prop) : Prop :=
  w_X11_refuse 5 σ (fun r_3 σ_2 => P r_3 σ_2)
theorem s_X11_city_15 {B : Nat} {E : Nat → List (Nat × Value) → List Value → Sto → Prop} {P : Int32 → Sto → Prop} (C : Cy B E RX11 cX11_city 4 (some .int) 6 138 (Zm (QFi P))) (σ : Sto) (h : w_X11_city_15 σ P) : E 15 [(0, .ref (B + 1))] [] σ := by
  unfold w_X11_city_15 at h
  refine f_aload_n C (j := 0) dX11_city_15 rfl rfl rfl ?_
  refine f_iconst C (v := 5) dX11_city_16 kc5 rfl ?_
  refine f_callVi C (a := 1) (ci := 11) (As := fun B => [.int 5]) o1 rfl (c_X11_refuse  _ _ _ h) tM_X11_126 tI_X11_refuse tS_X11_refuse tN_X11 tC_X11_refuse 1 dd_X11_refuse rfl (by decide) (by decide) rfl (Nat.le_of_ble_eq_true rfl) dX11_city_17 rfl (fun r_3 σ_2 h => ?_)
  exact f_iret C dX11_city_20 h
def w_X11_city (x1 : Int32) (σ : Sto) (P : Int32 → Sto → Prop) : Prop :=
  (if x1 < 0 then w_X11_city_15 σ P else (if x1 ≤ (gi σ 10 2) then isCity (gr σ 1 12) ∧ w_X2_takes (gr σ 1 12) x1 σ (fun r_7 σ_6 => w_X11_tellFault r_7 σ_6 (fun σ_8 => (if r_7 = 0 then w_X11_refuse 10 σ_8 (fun r_19 σ_18 => P r_19 σ_18) else isCity (gr σ_8 1 11) ∧ isCity (gr σ_8 1 12) ∧ w_X11_turnToNow (sr (sr σ_8 1 11 (gr σ_8 1 12)) 1 12 (gr σ_8 1 11)) (fun σ_13 => isCity (gr σ_13 1 11) ∧ w_X11_fine (gi σ_13 (gr σ_13 1 11) 8) σ_13 (fun r_17 σ_16 => P r_17 σ_16))))) else w_X11_city_15 σ P))
theorem s_X11_city {B : Nat} {E : Nat → List (Nat × Value) → List Value → Sto → Prop} {P : Int32 → Sto → Prop} (C : Cy B E RX11 cX11_city 4 (some .int) 6 138 (Zm (QFi P))) (x1 : Int32) (σ : Sto) (h : w_X11_city x1 σ P) : E 0 [(0, .ref (B + 1)), (1, .int x1)] [] σ := by
  unfold w_X11_city at h
  refine f_iload_n C (j := 1) dX11_city_0 rfl rfl rfl ?_
  refine f_if_lt C (t := 15) dX11_city_1 (by decide) rfl (fun hq_1 => ?_) (fun hq_1 => ?_)
  · replace h := Eq.mp (if_pos hq_1) h
    refine f_lv C (lv2 := [(0, .ref (B + 1))]) [0] rfl ?_
    exact s_X11_city_15 C  _ h
  · replace h := Eq.mp (if_neg hq_1) h
    refine f_iload_n C (j := 1) dX11_city_4 rfl rfl rfl ?_
    refine f_aload_n C (j := 0) dX11_city_5 rfl rfl rfl ?_
    refine f_getc C tF_X11_19 rfl o1 cs1_1 (by decide) dX11_city_6 rfl ?_
    refine f_geti C tF_X11_207 rfl o10 dX11_city_9 rfl ?_
    refine f_icmp_le C (t := 21) dX11_city_12 (by decide) rfl (fun hq_4 => ?_) (fun hq_4 => ?_)
    · replace h := Eq.mp (if_pos hq_4) h
      refine f_aload_n C (j := 0) dX11_city_21 rfl rfl rfl ?_
      refine f_getc C tF_X11_38 rfl o1 cs1_2 (by decide) dX11_city_22 rfl ?_
      refine f_aload_n C (j := 0) dX11_city_25 rfl rfl rfl ?_
      obtain ⟨hc_5, h⟩ := h
      refine f_getm C tF_X11_30 rfl o1 cn1_12 hc_5.z dX11_city_26 rfl ?_
      refine f_iload_n C (j := 1) dX11_city_29 rfl rfl rfl ?_
      refine f_callVi C (a := 41) (ci := 2) (As := fun B => [.ref (B + (gr σ 1 12)), .int x1]) o41 rfl (c_X2_takes  _ _ _ _ h) tM_X11_210 tI_X2_takes tS_X2_takes tN_X2 tC_X2_takes 2 dd_X2_takes rfl (by decide) (by decide) rfl (Nat.le_of_ble_eq_true rfl) dX11_city_30 rfl (fun r_7 σ_6 h => ?_)
      refine f_istore_n C (lv2 := [(2, .int r_7), (0, .ref (B + 1)), (1, .int x1)]) dX11_city_33 rfl (by decide) rfl rfl ?_
      refine f_aload_n C (j := 1) dX11_city_34 rfl rfl rfl ?_
      refine f_iload_n C (j := 0) dX11_city_35 rfl rfl rfl ?_
      refine f_callVv C (a := 1) (ci := 11) (As := fun B => [.int r_7]) o1 rfl (c_X11_tellFault  _ _ _ h) tM_X11_214 tI_X11_tellFault tS_X11_tellFault tN_X11 tC_X11_tellFault 1 dd_X11_tellFault rfl (by decide) (by decide) rfl (Nat.le_of_ble_eq_true rfl) dX11_city_36 rfl (fun σ_8 h => ?_)
      refine f_iload_n C (j := 0) dX11_city_39 rfl rfl rfl ?_
      refine f_if_ne C (t := 50) dX11_city_40 (by decide) rfl (fun hq_10 => ?_) (fun hq_10 => ?_)
      · replace h := Eq.mp (if_neg hq_10) h
        refine f_aload_n C (j := 1) dX11_city_50 rfl rfl rfl ?_
        obtain ⟨hc_11, h⟩ := h
        refine f_getm C tF_X11_26 rfl o1 cn1_11 hc_11.z dX11_city_51 rfl ?_
        refine f_astore_n C (lv2 := [(3, .ref (B + (gr σ_8 1 11))), (2, .int r_7), (0, .ref (B + 1)), (1, .int x1)]) dX11_city_54 rfl (by decide) rfl rfl ?_
        refine f_aload_n C (j := 2) dX11_city_55 rfl rfl rfl ?_
        refine f_aload_n C (j := 2) dX11_city_56 rfl rfl rfl ?_
        obtain ⟨hc_12, h⟩ := h
        refine f_getm C tF_X11_30 rfl o1 cn1_12 hc_12.z dX11_city_57 rfl ?_
        refine f_putr C tF_X11_26 fm_11_11 rfl hc_12.z cn1_11 o1 dX11_city_60 rfl ?_
        refine f_aload_n C (j := 2) dX11_city_63 rfl rfl rfl ?_
        refine f_aload_n C (j := 0) dX11_city_64 rfl rfl rfl ?_
        refine f_putr C tF_X11_30 fm_11_12 rfl hc_11.z cn1_12 o1 dX11_city_65 rfl ?_
        refine f_aload_n C (j := 2) dX11_city_68 rfl rfl rfl ?_
        refine f_callVv C (a := 1) (ci := 11) (As := fun B => []) o1 rfl (c_X11_turnToNow   _ _ h) tM_X11_218 tI_X11_turnToNow tS_X11_turnToNow tN_X11 tC_X11_turnToNow 0 dd_X11_turnToNow rfl (by decide) (by decide) rfl (Nat.le_of_ble_eq_true rfl) dX11_city_69 rfl (fun σ_13 h => ?_)
        refine f_aload_n C (j := 2) dX11_city_72 rfl rfl rfl ?_
        refine f_aload_n C (j := 2) dX11_city_73 rfl rfl rfl ?_
        obtain ⟨hc_15, h⟩ := h
        refine f_getm C tF_X11_26 rfl o1 cn1_11 hc_15.z dX11_city_74 rfl ?_
        refine f_geti C tF_X11_139 rfl hc_15.o dX11_city_77 rfl ?_
        refine f_callVi C (a := 1) (ci := 11) (As := fun B => [.int (gi σ_13 (gr σ_13 1 11) 8)]) o1 rfl (c_X11_fine  _ _ _ h) tM_X11_130 tI_X11_fine tS_X11_fine tN_X11 tC_X11_fine 1 dd_X11_fine rfl (by decide) (by decide) rfl (Nat.le_of_ble_eq_true rfl) dX11_city_80 rfl (fun r_17 σ_16 h => ?_)
        exact f_iret C dX11_city_83 h
      · replace h := Eq.mp (if_pos hq_10) h
        refine f_aload_n C (j := 1) dX11_city_43 rfl rfl rfl ?_
        refine f_bipush C (v := 10) dX11_city_44 kb10 rfl ?_
        refine f_callVi C (a := 1) (ci := 11) (As := fun B => [.int 10]) o1 rfl (c_X11_refuse  _ _ _ h) tM_X11_126 tI_X11_refuse tS_X11_refuse tN_X11 tC_X11_refuse 1 dd_X11_refuse rfl (by decide) (by decide) rfl (Nat.le_of_ble_eq_true rfl) dX11_city_46 rfl (fun r_19 σ_18 h => ?_)
        exact f_iret C dX11_city_49 h
    · replace h := Eq.mp (if_neg hq_4) h
      refine f_lv C (lv2 := [(0, .ref (B + 1))]) [0] rfl ?_
      exact s_X11_city_15 C  _ h
theorem c_X11_city (x1 : Int32) (σ : Sto) (P : Int32 → Sto → Prop) (h : w_X11_city x1 σ P) : Ct yX11_city cX11_city 4 (some .int) 6 138 (fun B => [.ref (B + 1), .int x1]) σ (QFi P) := Ct.of (by decide) (fun _ => Nat.le_of_ble_eq_true rfl) (fun B E C => s_X11_city C x1 σ h)
def w_X11_centuries_22 (σ : Sto) (P : Int32 → Sto → Prop) : Prop :=
  w_X11_refuse 5 σ (fun r_3 σ_2 => P r_3 σ_2)
theorem s_X11_centuries_22 {B : Nat} {E : Nat → List (Nat × Value) → List Value → Sto → Prop} {P : Int32 → Sto → Prop} (C : Cy B E RX11 cX11_centuries 3 (some .int) 6 140 (Zm (QFi P))) (σ : Sto) (h : w_X11_centuries_22 σ P) : E 22 [(0, .ref (B + 1))] [] σ := by
  unfold w_X11_centuries_22 at h
  refine f_aload_n C (j := 0) dX11_centuries_22 rfl rfl rfl ?_
  refine f_iconst C (v := 5) dX11_centuries_23 kc5 rfl ?_
  refine f_callVi C (a := 1) (ci := 11) (As := fun B => [.int 5]) o1 rfl (c_X11_refuse  _ _ _ h) tM_X11_126 tI_X11_refuse tS_X11_refuse tN_X11 tC_X11_refuse 1 dd_X11_refuse rfl (by decide) (by decide) rfl (Nat.le_of_ble_eq_true rfl) dX11_centuries_24 rfl (fun r_3 σ_2 h => ?_)
  exact f_iret C dX11_centuries_27 h
def w_X11_centuries (x1 : Int32) (σ : Sto) (P : Int32 → Sto → Prop) : Prop :=
  (if x1 < 0 then w_X11_centuries_22 σ P else (if (gi σ 10 2) < x1 then w_X11_centuries_22 σ P else (if x1 ≤ 300 then isCity (gr σ 1 12) ∧ isCity (gr σ 1 11) ∧ w_X8_takes ((gr σ 1 12) + 8) (gr σ 1 11) x1 σ (fun r_9 σ_8 => w_X11_tellFault r_9 σ_8 (fun σ_10 => (if r_9 = 0 then w_X11_refuse 10 σ_10 (fun r_21 σ_20 => P r_21 σ_20) else isCity (gr σ_10 1 11) ∧ isCity (gr σ_10 1 12) ∧ w_X7_copyFrom ((gr σ_10 1 11) + 8) ((gr σ_10 1 12) + 8) σ_10 (fun σ_15 => isCity (gr σ_15 1 11) ∧ w_X11_fine (gi σ_15 ((gr σ_15 1 11) + 8) 6) σ_15 (fun r_19 σ_18 => P r_19 σ_18))))) else w_X11_centuries_22 σ P)))
theorem s_X11_centuries {B : Nat} {E : Nat → List (Nat × Value) → List Value → Sto → Prop} {P : Int32 → Sto → Prop} (C : Cy B E RX11 cX11_centuries 3 (some .int) 6 140 (Zm (QFi P))) (x1 : Int32) (σ : Sto) (h : w_X11_centuries x1 σ P) : E 0 [(0, .ref (B + 1)), (1, .int x1)] [] σ := by
  unfold w_X11_centuries at h
  refine f_iload_n C (j := 1) dX11_centuries_0 rfl rfl rfl ?_
  refine f_if_lt C (t := 22) dX11_centuries_1 (by decide) rfl (fun hq_1 => ?_) (fun hq_1 => ?_)
  · replace h := Eq.mp (if_pos hq_1) h
    refine f_lv C (lv2 := [(0, .ref (B + 1))]) [0] rfl ?_
    exact s_X11_centuries_22 C  _ h
  · replace h := Eq.mp (if_neg hq_1) h
    refine f_iload_n C (j := 1) dX11_centuries_4 rfl rfl rfl ?_
    refine f_aload_n C (j := 0) dX11_centuries_5 rfl rfl rfl ?_
    refine f_getc C tF_X11_19 rfl o1 cs1_1 (by decide) dX11_centuries_6 rfl ?_
    refine f_geti C tF_X11_207 rfl o10 dX11_centuries_9 rfl ?_
    refine f_icmp_gt C (t := 22) dX11_centuries_12 (by decide) rfl (fun hq_4 => ?_) (fun hq_4 => ?_)
    · replace h := Eq.mp (if_pos hq_4) h
      refine f_lv C (lv2 := [(0, .ref (B + 1))]) [0] rfl ?_
      exact s_X11_centuries_22 C  _ h
    · replace h := Eq.mp (if_neg hq_4) h
      refine f_iload_n C (j := 1) dX11_centuries_15 rfl rfl rfl ?_
      refine f_sipush C (v := 300) dX11_centuries_16 ks300 rfl ?_
      refine f_icmp_le C (t := 28) dX11_centuries_19 (by decide) rfl (fun hq_5 => ?_) (fun hq_5 => ?_)
      · replace h := Eq.mp (if_pos hq_5) h
        refine f_aload_n C (j := 0) dX11_centuries_28 rfl rfl rfl ?_
        refine f_getc C tF_X11_45 rfl o1 cs1_3 (by decide) dX11_centuries_29 rfl ?_
        refine f_aload_n C (j := 0) dX11_centuries_32 rfl rfl rfl ?_
        obtain ⟨hc_6, h⟩ := h
        refine f_getm C tF_X11_30 rfl o1 cn1_12 hc_6.z dX11_centuries_33 rfl ?_
        refine f_getc C tF_X11_221 rfl hc_6.o hc_6.c7 (Nat.succ_ne_zero _) dX11_centuries_36 rfl ?_
        refine f_aload_n C (j := 0) dX11_centuries_39 rfl rfl rfl ?_
        obtain ⟨hc_7, h⟩ := h
        refine f_getm C tF_X11_26 rfl o1 cn1_11 hc_7.z dX11_centuries_40 rfl ?_
        refine f_iload_n C (j := 1) dX11_centuries_43 rfl rfl rfl ?_
        refine f_callVi C (a := 42) (ci := 8) (As := fun B => [.ref (B + ((gr σ 1 12) + 8)), .ref (B + (gr σ 1 11)), .int x1]) o42 rfl (c_X8_takes  _ _ _ _ _ h) tM_X11_225 tI_X8_takes tS_X8_takes tN_X8 tC_X8_takes 3 dd_X8_takes rfl (by decide) (by decide) rfl (Nat.le_of_ble_eq_true rfl) dX11_centuries_44 rfl (fun r_9 σ_8 h => ?_)
        refine f_istore_n C (lv2 := [(2, .int r_9), (0, .ref (B + 1)), (1, .int x1)]) dX11_centuries_47 rfl (by decide) rfl rfl ?_
        refine f_aload_n C (j := 1) dX11_centuries_48 rfl rfl rfl ?_
        refine f_iload_n C (j := 0) dX11_centuries_49 rfl rfl rfl ?_
        refine f_callVv C (a := 1) (ci := 11) (As := fun B => [.int r_9]) o1 rfl (c_X11_tellFault  _ _ _ h) tM_X11_214 tI_X11_tellFault tS_X11_tellFault tN_X11 tC_X11_tellFault 1 dd_X11_tellFault rfl (by decide) (by decide) rfl (Nat.le_of_ble_eq_true rfl) dX11_centuries_50 rfl (fun σ_10 h => ?_)
        refine f_iload_n C (j := 0) dX11_centuries_53 rfl rfl rfl ?_
        refine f_if_ne C (t := 64) dX11_centuries_54 (by decide) rfl (fun hq_12 => ?_) (fun hq_12 => ?_)
        · replace h := Eq.mp (if_neg hq_12) h
          refine f_aload_n C (j := 1) dX11_centuries_64 rfl rfl rfl ?_
          obtain ⟨hc_13, h⟩ := h
          refine f_getm C tF_X11_26 rfl o1 cn1_11 hc_13.z dX11_centuries_65 rfl ?_
          refine f_getc C tF_X11_221 rfl hc_13.o hc_13.c7 (Nat.succ_ne_zero _) dX11_centuries_68 rfl ?_
          refine f_aload_n C (j := 1) dX11_centuries_71 rfl rfl rfl ?_
          obtain ⟨hc_14, h⟩ := h
          refine f_getm C tF_X11_30 rfl o1 cn1_12 hc_14.z dX11_centuries_72 rfl ?_
          refine f_getc C tF_X11_221 rfl hc_14.o hc_14.c7 (Nat.succ_ne_zero _) dX11_centuries_75 rfl ?_
          refine f_callVv C (a := (gr σ_10 1 11) + 8) (ci := 7) (As := fun B => [.ref (B + ((gr σ_10 1 12) + 8))]) hc_13.s.o rfl (c_X7_copyFrom  _ _ _ _ h) tM_X11_228 tI_X7_copyFrom tS_X7_copyFrom tN_X7 tC_X7_copyFrom 1 dd_X7_copyFrom rfl (by decide) (by decide) rfl (Nat.le_of_ble_eq_true rfl) dX11_centuries_78 rfl (fun σ_15 h => ?_)
          refine f_aload_n C (j := 1) dX11_centuries_81 rfl rfl rfl ?_
          refine f_aload_n C (j := 1) dX11_centuries_82 rfl rfl rfl ?_
          obtain ⟨hc_17, h⟩ := h
          refine f_getm C tF_X11_26 rfl o1 cn1_11 hc_17.z dX11_centuries_83 rfl ?_
          refine f_getc C tF_X11_221 rfl hc_17.o hc_17.c7 (Nat.succ_ne_zero _) dX11_centuries_86 rfl ?_
          refine f_geti C tF_X11_234 rfl hc_17.s.o dX11_centuries_89 rfl ?_
          refine f_callVi C (a := 1) (ci := 11) (As := fun B => [.int (gi σ_15 ((gr σ_15 1 11) + 8) 6)]) o1 rfl (c_X11_fine  _ _ _ h) tM_X11_130 tI_X11_fine tS_X11_fine tN_X11 tC_X11_fine 1 dd_X11_fine rfl (by decide) (by decide) rfl (Nat.le_of_ble_eq_true rfl) dX11_centuries_92 rfl (fun r_19 σ_18 h => ?_)
          exact f_iret C dX11_centuries_95 h
        · replace h := Eq.mp (if_pos hq_12) h
          refine f_aload_n C (j := 1) dX11_centuries_57 rfl rfl rfl ?_
          refine f_bipush C (v := 10) dX11_centuries_58 kb10 rfl ?_
          refine f_callVi C (a := 1) (ci := 11) (As := fun B => [.int 10]) o1 rfl (c_X11_refuse  _ _ _ h) tM_X11_126 tI_X11_refuse tS_X11_refuse tN_X11 tC_X11_refuse 1 dd_X11_refuse rfl (by decide) (by decide) rfl (Nat.le_of_ble_eq_true rfl) dX11_centuries_60 rfl (fun r_21 σ_20 h => ?_)
          exact f_iret C dX11_centuries_63 h
      · replace h := Eq.mp (if_neg hq_5) h
        refine f_lv C (lv2 := [(0, .ref (B + 1))]) [0] rfl ?_
        exact s_X11_centuries_22 C  _ h
theorem c_X11_centuries (x1 : Int32) (σ : Sto) (P : Int32 → Sto → Prop) (h : w_X11_centuries x1 σ P) : Ct yX11_centuries cX11_centuries 3 (some .int) 6 140 (fun B => [.ref (B + 1), .int x1]) σ (QFi P) := Ct.of (by decide) (fun _ => Nat.le_of_ble_eq_true rfl) (fun B E C => s_X11_centuries C x1 σ h)
def w_X11_fault (x1 : Int32) (σ : Sto) (P : Int32 → Sto → Prop) : Prop :=
  (if x1 = 0 then P (gi σ 1 18) σ else (if x1 = 1 then P (gi σ 1 19) σ else P (-1) σ))
theorem s_X11_fault {B : Nat} {E : Nat → List (Nat × Value) → List Value → Sto → Prop} {P : Int32 → Sto → Prop} (C : Cy B E RX11 cX11_fault 2 (some .int) 0 0 (Zm (QFi P))) (x1 : Int32) (σ : Sto) (h : w_X11_fault x1 σ P) : E 0 [(0, .ref (B + 1)), (1, .int x1)] [] σ := by
  unfold w_X11_fault at h
  refine f_iload_n C (j := 1) dX11_fault_0 rfl rfl rfl ?_
  refine f_if_ne C (t := 9) dX11_fault_1 (by decide) rfl (fun hq_1 => ?_) (fun hq_1 => ?_)
  · replace h := Eq.mp (if_neg hq_1) h
    refine f_iload_n C (j := 1) dX11_fault_9 rfl rfl rfl ?_
    refine f_iconst C (v := 1) dX11_fault_10 kc1 rfl ?_
    refine f_icmp_ne C (t := 21) dX11_fault_11 (by decide) rfl (fun hq_2 => ?_) (fun hq_2 => ?_)
    · replace h := Eq.mp (if_neg hq_2) h
      refine f_iconst C (v := (-1)) dX11_fault_21 kcm1 rfl ?_
      exact f_iret C dX11_fault_22 h
    · replace h := Eq.mp (if_pos hq_2) h
      refine f_aload_n C (j := 0) dX11_fault_14 rfl rfl rfl ?_
      refine f_geti C tF_X11_123 rfl o1 dX11_fault_15 rfl ?_
      refine f_goto C (t := 22) dX11_fault_18 (by decide) ?_
      exact f_iret C dX11_fault_22 h
  · replace h := Eq.mp (if_pos hq_1) h
    refine f_aload_n C (j := 0) dX11_fault_4 rfl rfl rfl ?_
    refine f_geti C tF_X11_120 rfl o1 dX11_fault_5 rfl ?_
    exact f_iret C dX11_fault_8 h
theorem c_X11_fault (x1 : Int32) (σ : Sto) (P : Int32 → Sto → Prop) (h : w_X11_fault x1 σ P) : Ct yX11_fault cX11_fault 2 (some .int) 0 0 (fun B => [.ref (B + 1), .int x1]) σ (QFi P) := Ct.of (by decide) (fun _ => Nat.le_of_ble_eq_true rfl) (fun B E C => s_X11_fault C x1 σ h)
def w_X11_many (x1 : Int32) (σ : Sto) (P : Int32 → Sto → Prop) : Prop :=
  w_X6_atPresent σ (fun r_2 σ_1 => isCity (gr σ_1 1 11) ∧ ∀ x3_4 : Int32, x3_4 = (1 <<< ((gi σ_1 (gr σ_1 1 11) 8) &&& 31)) - 1 → ∀ sw_6 : Int32, sw_6 = x1 → (if sw_6 = 0 then w_X11_fine (gi σ_1 (gr σ_1 1 11) 8) σ_1 (fun r_8 σ_7 => P r_8 σ_7) else (if sw_6 = 1 then w_X11_fine (gi σ_1 (gr σ_1 1 11) 9) σ_1 (fun r_11 σ_10 => P r_11 σ_10) else (if sw_6 = 2 then w_X11_fine (gi σ_1 (gr σ_1 1 11) 10) σ_1 (fun r_14 σ_13 => P r_14 σ_13) else (if sw_6 = 3 then w_X11_fine (gi σ_1 (gr σ_1 1 11) 11) σ_1 (fun r_17 σ_16 => P r_17 σ_16) else (if sw_6 = 4 then w_X11_fine (gi σ_1 (gr σ_1 1 11) 12) σ_1 (fun r_20 σ_19 => P r_20 σ_19) else (if sw_6 = 5 then w_X11_fine (gi σ_1 (gr σ_1 1 11) 13) σ_1 (fun r_23 σ_22 => P r_23 σ_22) else (if sw_6 = 6 then w_X11_fine r_2 σ_1 (fun r_26 σ_25 => P r_26 σ_25) else (if sw_6 = 7 then w_X11_fine (gi σ_1 (gr σ_1 1 11) 14) σ_1 (fun r_29 σ_28 => P r_29 σ_28) else (if sw_6 = 8 then w_X11_fine ((x3_4 &&& (~~~r_2)) &&& (~~~(gi σ_1 (gr σ_1 1 11) 14))) σ_1 (fun r_32 σ_31 => P r_32 σ_31) else (if sw_6 = 9 then w_X11_fine (gi σ_1 (gr σ_1 1 11) 15) σ_1 (fun r_35 σ_34 => P r_35 σ_34) else (if sw_6 = 10 then w_X6_doable r_2 σ_1 (fun r_38 σ_37 => w_X11_fine r_38 σ_37 (fun r_40 σ_39 => P r_40 σ_39)) else (if sw_6 = 11 then w_X1_worthOf (gr σ_1 1 11) r_2 σ_1 (fun r_43 σ_42 => w_X11_fine r_43 σ_42 (fun r_45 σ_44 => P r_45 σ_44)) else w_X11_refuse 5 σ_1 (fun r_48 σ_47 => P r_48 σ_47))))))))))))))
theorem s_X11_many {B : Nat} {E : Nat → List (Nat × Value) → List Value → Sto → Prop} {P : Int32 → Sto → Prop} (C : Cy B E RX11 cX11_many 4 (some .int) 3 69 (Zm (QFi P))) (x1 : Int32) (σ : Sto) (h : w_X11_many x1 σ P) : E 0 [(0, .ref (B + 1)), (1, .int x1)] [] σ := by
  unfold w_X11_many at h
  refine f_aload_n C (j := 0) dX11_many_0 rfl rfl rfl ?_
  refine f_getc C tF_X11_58 rfl o1 cs1_4 (by decide) dX11_many_1 rfl ?_
  refine f_callVi C (a := 88) (ci := 6) (As := fun B => []) o88 rfl (c_X6_atPresent   _ _ h) tM_X11_242 tI_X6_atPresent tS_X6_atPresent tN_X6 tC_X6_atPresent 0 dd_X6_atPresent rfl (by decide) (by decide) rfl (Nat.le_of_ble_eq_true rfl) dX11_many_4 rfl (fun r_2 σ_1 h => ?_)
  refine f_istore_n C (lv2 := [(2, .int r_2), (0, .ref (B + 1)), (1, .int x1)]) dX11_many_7 rfl (by decide) rfl rfl ?_
  refine f_iconst C (v := 1) dX11_many_8 kc1 rfl ?_
  refine f_aload_n C (j := 1) dX11_many_9 rfl rfl rfl ?_
  obtain ⟨hc_3, h⟩ := h
  refine f_getm C tF_X11_26 rfl o1 cn1_11 hc_3.z dX11_many_10 rfl ?_
  refine f_geti C tF_X11_139 rfl hc_3.o dX11_many_13 rfl ?_
  refine f_ishl C dX11_many_16 rfl ?_
  refine f_iconst C (v := 1) dX11_many_17 kc1 rfl ?_
  refine f_isub C dX11_many_18 rfl ?_
  refine f_name (fun x3_4 hx_5 => ?_)
  replace h := h x3_4 hx_5
  refine f_istore_n C (lv2 := [(3, .int x3_4), (2, .int r_2), (0, .ref (B + 1)), (1, .int x1)]) dX11_many_19 rfl (by decide) rfl rfl ?_
  refine f_iload_n C (j := 3) dX11_many_20 rfl rfl rfl ?_
  refine f_name (fun sw_6 hsw_6 => ?_)
  replace h := h sw_6 hsw_6
  by_cases hq_9 : sw_6 = 0
  · replace h := Eq.mp (if_pos hq_9) h
    refine f_tableIn C (off := 63) (t := 84) dX11_many_21 (by rw [hq_9]; decide) (by rw [hq_9]; decide) (by rw [hq_9]; rfl) (by decide) ?_
    refine f_aload_n C (j := 2) dX11_many_84 rfl rfl rfl ?_
    refine f_aload_n C (j := 2) dX11_many_85 rfl rfl rfl ?_
    refine f_getm C tF_X11_26 rfl o1 cn1_11 hc_3.z dX11_many_86 rfl ?_
    refine f_geti C tF_X11_139 rfl hc_3.o dX11_many_89 rfl ?_
    refine f_callVi C (a := 1) (ci := 11) (As := fun B => [.int (gi σ_1 (gr σ_1 1 11) 8)]) o1 rfl (c_X11_fine  _ _ _ h) tM_X11_130 tI_X11_fine tS_X11_fine tN_X11 tC_X11_fine 1 dd_X11_fine rfl (by decide) (by decide) rfl (Nat.le_of_ble_eq_true rfl) dX11_many_92 rfl (fun r_8 σ_7 h => ?_)
    exact f_iret C dX11_many_95 h
  replace h := Eq.mp (if_neg hq_9) h
  by_cases hq_12 : sw_6 = 1
  · replace h := Eq.mp (if_pos hq_12) h
    refine f_tableIn C (off := 75) (t := 96) dX11_many_21 (by rw [hq_12]; decide) (by rw [hq_12]; decide) (by rw [hq_12]; rfl) (by decide) ?_
    refine f_aload_n C (j := 2) dX11_many_96 rfl rfl rfl ?_
    refine f_aload_n C (j := 2) dX11_many_97 rfl rfl rfl ?_
    refine f_getm C tF_X11_26 rfl o1 cn1_11 hc_3.z dX11_many_98 rfl ?_
    refine f_geti C tF_X11_246 rfl hc_3.o dX11_many_101 rfl ?_
    refine f_callVi C (a := 1) (ci := 11) (As := fun B => [.int (gi σ_1 (gr σ_1 1 11) 9)]) o1 rfl (c_X11_fine  _ _ _ h) tM_X11_130 tI_X11_fine tS_X11_fine tN_X11 tC_X11_fine 1 dd_X11_fine rfl (by decide) (by decide) rfl (Nat.le_of_ble_eq_true rfl) dX11_many_104 rfl (fun r_11 σ_10 h => ?_)
    exact f_iret C dX11_many_107 h
  replace h := Eq.mp (if_neg hq_12) h
  by_cases hq_15 : sw_6 = 2
  · replace h := Eq.mp (if_pos hq_15) h
    refine f_tableIn C (off := 87) (t := 108) dX11_many_21 (by rw [hq_15]; decide) (by rw [hq_15]; decide) (by rw [hq_15]; rfl) (by decide) ?_
    refine f_aload_n C (j := 2) dX11_many_108 rfl rfl rfl ?_
    refine f_aload_n C (j := 2) dX11_many_109 rfl rfl rfl ?_
    refine f_getm C tF_X11_26 rfl o1 cn1_11 hc_3.z dX11_many_110 rfl ?_
    refine f_geti C tF_X11_142 rfl hc_3.o dX11_many_113 rfl ?_
    refine f_callVi C (a := 1) (ci := 11) (As := fun B => [.int (gi σ_1 (gr σ_1 1 11) 10)]) o1 rfl (c_X11_fine  _ _ _ h) tM_X11_130 tI_X11_fine tS_X11_fine tN_X11 tC_X11_fine 1 dd_X11_fine rfl (by decide) (by decide) rfl (Nat.le_of_ble_eq_true rfl) dX11_many_116 rfl (fun r_14 σ_13 h => ?_)
    exact f_iret C dX11_many_119 h
  replace h := Eq.mp (if_neg hq_15) h
  by_cases hq_18 : sw_6 = 3
  · replace h := Eq.mp (if_pos hq_18) h
    refine f_tableIn C (off := 99) (t := 120) dX11_many_21 (by rw [hq_18]; decide) (by rw [hq_18]; decide) (by rw [hq_18]; rfl) (by decide) ?_
    refine f_aload_n C (j := 2) dX11_many_120 rfl rfl rfl ?_
    refine f_aload_n C (j := 2) dX11_many_121 rfl rfl rfl ?_
    refine f_getm C tF_X11_26 rfl o1 cn1_11 hc_3.z dX11_many_122 rfl ?_
    refine f_geti C tF_X11_145 rfl hc_3.o dX11_many_125 rfl ?_
    refine f_callVi C (a := 1) (ci := 11) (As := fun B => [.int (gi σ_1 (gr σ_1 1 11) 11)]) o1 rfl (c_X11_fine  _ _ _ h) tM_X11_130 tI_X11_fine tS_X11_fine tN_X11 tC_X11_fine 1 dd_X11_fine rfl (by decide) (by decide) rfl (Nat.le_of_ble_eq_true rfl) dX11_many_128 rfl (fun r_17 σ_16 h => ?_)
    exact f_iret C dX11_many_131 h
  replace h := Eq.mp (if_neg hq_18) h
  by_cases hq_21 : sw_6 = 4
  · replace h := Eq.mp (if_pos hq_21) h
    refine f_tableIn C (off := 111) (t := 132) dX11_many_21 (by rw [hq_21]; decide) (by rw [hq_21]; decide) (by rw [hq_21]; rfl) (by decide) ?_
    refine f_aload_n C (j := 2) dX11_many_132 rfl rfl rfl ?_
    refine f_aload_n C (j := 2) dX11_many_133 rfl rfl rfl ?_
    refine f_getm C tF_X11_26 rfl o1 cn1_11 hc_3.z dX11_many_134 rfl ?_
    refine f_geti C tF_X11_249 rfl hc_3.o dX11_many_137 rfl ?_
    refine f_callVi C (a := 1) (ci := 11) (As := fun B => [.int (gi σ_1 (gr σ_1 1 11) 12)]) o1 rfl (c_X11_fine  _ _ _ h) tM_X11_130 tI_X11_fine tS_X11_fine tN_X11 tC_X11_fine 1 dd_X11_fine rfl (by decide) (by decide) rfl (Nat.le_of_ble_eq_true rfl) dX11_many_140 rfl (fun r_20 σ_19 h => ?_)
    exact f_iret C dX11_many_143 h
  replace h := Eq.mp (if_neg hq_21) h
  by_cases hq_24 : sw_6 = 5
  · replace h := Eq.mp (if_pos hq_24) h
    refine f_tableIn C (off := 123) (t := 144) dX11_many_21 (by rw [hq_24]; decide) (by rw [hq_24]; decide) (by rw [hq_24]; rfl) (by decide) ?_
    refine f_aload_n C (j := 2) dX11_many_144 rfl rfl rfl ?_
    refine f_aload_n C (j := 2) dX11_many_145 rfl rfl rfl ?_
    refine f_getm C tF_X11_26 rfl o1 cn1_11 hc_3.z dX11_many_146 rfl ?_
    refine f_geti C tF_X11_252 rfl hc_3.o dX11_many_149 rfl ?_
    refine f_callVi C (a := 1) (ci := 11) (As := fun B => [.int (gi σ_1 (gr σ_1 1 11) 13)]) o1 rfl (c_X11_fine  _ _ _ h) tM_X11_130 tI_X11_fine tS_X11_fine tN_X11 tC_X11_fine 1 dd_X11_fine rfl (by decide) (by decide) rfl (Nat.le_of_ble_eq_true rfl) dX11_many_152 rfl (fun r_23 σ_22 h => ?_)
    exact f_iret C dX11_many_155 h
  replace h := Eq.mp (if_neg hq_24) h
  by_cases hq_27 : sw_6 = 6
  · replace h := Eq.mp (if_pos hq_27) h
    refine f_tableIn C (off := 135) (t := 156) dX11_many_21 (by rw [hq_27]; decide) (by rw [hq_27]; decide) (by rw [hq_27]; rfl) (by decide) ?_
    refine f_aload_n C (j := 2) dX11_many_156 rfl rfl rfl ?_
    refine f_iload_n C (j := 1) dX11_many_157 rfl rfl rfl ?_
    refine f_callVi C (a := 1) (ci := 11) (As := fun B => [.int r_2]) o1 rfl (c_X11_fine  _ _ _ h) tM_X11_130 tI_X11_fine tS_X11_fine tN_X11 tC_X11_fine 1 dd_X11_fine rfl (by decide) (by decide) rfl (Nat.le_of_ble_eq_true rfl) dX11_many_158 rfl (fun r_26 σ_25 h => ?_)
    exact f_iret C dX11_many_161 h
  replace h := Eq.mp (if_neg hq_27) h
  by_cases hq_30 : sw_6 = 7
  · replace h := Eq.mp (if_pos hq_30) h
    refine f_tableIn C (off := 141) (t := 162) dX11_many_21 (by rw [hq_30]; decide) (by rw [hq_30]; decide) (by rw [hq_30]; rfl) (by decide) ?_
    refine f_aload_n C (j := 2) dX11_many_162 rfl rfl rfl ?_
    refine f_aload_n C (j := 2) dX11_many_163 rfl rfl rfl ?_
    refine f_getm C tF_X11_26 rfl o1 cn1_11 hc_3.z dX11_many_164 rfl ?_
    refine f_geti C tF_X11_255 rfl hc_3.o dX11_many_167 rfl ?_
    refine f_callVi C (a := 1) (ci := 11) (As := fun B => [.int (gi σ_1 (gr σ_1 1 11) 14)]) o1 rfl (c_X11_fine  _ _ _ h) tM_X11_130 tI_X11_fine tS_X11_fine tN_X11 tC_X11_fine 1 dd_X11_fine rfl (by decide) (by decide) rfl (Nat.le_of_ble_eq_true rfl) dX11_many_170 rfl (fun r_29 σ_28 h => ?_)
    exact f_iret C dX11_many_173 h
  replace h := Eq.mp (if_neg hq_30) h
  by_cases hq_33 : sw_6 = 8
  · replace h := Eq.mp (if_pos hq_33) h
    refine f_tableIn C (off := 153) (t := 174) dX11_many_21 (by rw [hq_33]; decide) (by rw [hq_33]; decide) (by rw [hq_33]; rfl) (by decide) ?_
    refine f_aload_n C (j := 2) dX11_many_174 rfl rfl rfl ?_
    refine f_iload_n C (j := 0) dX11_many_175 rfl rfl rfl ?_
    refine f_iload_n C (j := 1) dX11_many_176 rfl rfl rfl ?_
    refine f_iconst C (v := (-1)) dX11_many_177 kcm1 rfl ?_
    refine f_inot C dX11_many_178 rfl ?_
    refine f_iand C dX11_many_179 rfl ?_
    refine f_aload_n C (j := 2) dX11_many_180 rfl rfl rfl ?_
    refine f_getm C tF_X11_26 rfl o1 cn1_11 hc_3.z dX11_many_181 rfl ?_
    refine f_geti C tF_X11_255 rfl hc_3.o dX11_many_184 rfl ?_
    refine f_iconst C (v := (-1)) dX11_many_187 kcm1 rfl ?_
    refine f_inot C dX11_many_188 rfl ?_
    refine f_iand C dX11_many_189 rfl ?_
    refine f_callVi C (a := 1) (ci := 11) (As := fun B => [.int ((x3_4 &&& (~~~r_2)) &&& (~~~(gi σ_1 (gr σ_1 1 11) 14)))]) o1 rfl (c_X11_fine  _ _ _ h) tM_X11_130 tI_X11_fine tS_X11_fine tN_X11 tC_X11_fine 1 dd_X11_fine rfl (by decide) (by decide) rfl (Nat.le_of_ble_eq_true rfl) dX11_many_190 rfl (fun r_32 σ_31 h => ?_)
    exact f_iret C dX11_many_193 h
  replace h := Eq.mp (if_neg hq_33) h
  by_cases hq_36 : sw_6 = 9
  · replace h := Eq.mp (if_pos hq_36) h
    refine f_tableIn C (off := 173) (t := 194) dX11_many_21 (by rw [hq_36]; decide) (by rw [hq_36]; decide) (by rw [hq_36]; rfl) (by decide) ?_
    refine f_aload_n C (j := 2) dX11_many_194 rfl rfl rfl ?_
    refine f_aload_n C (j := 2) dX11_many_195 rfl rfl rfl ?_
    refine f_getm C tF_X11_26 rfl o1 cn1_11 hc_3.z dX11_many_196 rfl ?_
    refine f_geti C tF_X11_258 rfl hc_3.o dX11_many_199 rfl ?_
    refine f_callVi C (a := 1) (ci := 11) (As := fun B => [.int (gi σ_1 (gr σ_1 1 11) 15)]) o1 rfl (c_X11_fine  _ _ _ h) tM_X11_130 tI_X11_fine tS_X11_fine tN_X11 tC_X11_fine 1 dd_X11_fine rfl (by decide) (by decide) rfl (Nat.le_of_ble_eq_true rfl) dX11_many_202 rfl (fun r_35 σ_34 h => ?_)
    exact f_iret C dX11_many_205 h
  replace h := Eq.mp (if_neg hq_36) h
  by_cases hq_41 : sw_6 = 10
  · replace h := Eq.mp (if_pos hq_41) h
    refine f_tableIn C (off := 185) (t := 206) dX11_many_21 (by rw [hq_41]; decide) (by rw [hq_41]; decide) (by rw [hq_41]; rfl) (by decide) ?_
    refine f_aload_n C (j := 2) dX11_many_206 rfl rfl rfl ?_
    refine f_aload_n C (j := 2) dX11_many_207 rfl rfl rfl ?_
    refine f_getc C tF_X11_58 rfl o1 cs1_4 (by decide) dX11_many_208 rfl ?_
    refine f_iload_n C (j := 1) dX11_many_211 rfl rfl rfl ?_
    refine f_callVi C (a := 88) (ci := 6) (As := fun B => [.int r_2]) o88 rfl (c_X6_doable  _ _ _ h) tM_X11_261 tI_X6_doable tS_X6_doable tN_X6 tC_X6_doable 1 dd_X6_doable rfl (by decide) (by decide) rfl (Nat.le_of_ble_eq_true rfl) dX11_many_212 rfl (fun r_38 σ_37 h => ?_)
    refine f_callVi C (a := 1) (ci := 11) (As := fun B => [.int r_38]) o1 rfl (c_X11_fine  _ _ _ h) tM_X11_130 tI_X11_fine tS_X11_fine tN_X11 tC_X11_fine 1 dd_X11_fine rfl (by decide) (by decide) rfl (Nat.le_of_ble_eq_true rfl) dX11_many_215 rfl (fun r_40 σ_39 h => ?_)
    exact f_iret C dX11_many_218 h
  replace h := Eq.mp (if_neg hq_41) h
  by_cases hq_46 : sw_6 = 11
  · replace h := Eq.mp (if_pos hq_46) h
    refine f_tableIn C (off := 198) (t := 219) dX11_many_21 (by rw [hq_46]; decide) (by rw [hq_46]; decide) (by rw [hq_46]; rfl) (by decide) ?_
    refine f_aload_n C (j := 2) dX11_many_219 rfl rfl rfl ?_
    refine f_aload_n C (j := 2) dX11_many_220 rfl rfl rfl ?_
    refine f_getm C tF_X11_26 rfl o1 cn1_11 hc_3.z dX11_many_221 rfl ?_
    refine f_iload_n C (j := 1) dX11_many_224 rfl rfl rfl ?_
    refine f_callVi C (a := gr σ_1 1 11) (ci := 1) (As := fun B => [.int r_2]) hc_3.o rfl (c_X1_worthOf  _ _ _ _ h) tM_X11_264 tI_X1_worthOf tS_X1_worthOf tN_X1 tC_X1_worthOf 1 dd_X1_worthOf rfl (by decide) (by decide) rfl (Nat.le_of_ble_eq_true rfl) dX11_many_225 rfl (fun r_43 σ_42 h => ?_)
    refine f_callVi C (a := 1) (ci := 11) (As := fun B => [.int r_43]) o1 rfl (c_X11_fine  _ _ _ h) tM_X11_130 tI_X11_fine tS_X11_fine tN_X11 tC_X11_fine 1 dd_X11_fine rfl (by decide) (by decide) rfl (Nat.le_of_ble_eq_true rfl) dX11_many_228 rfl (fun r_45 σ_44 h => ?_)
    exact f_iret C dX11_many_231 h
  replace h := Eq.mp (if_neg hq_46) h
  refine f_tableOut C (t := 232) dX11_many_21 (tsw_out (lo := 0) (hi := 11) 12 (by decide) (fun k hk => ?_)) (by decide) ?_
  · match k, hk with
    | 0, _ => exact toInt_ne (by decide) hq_9
    | 1, _ => exact toInt_ne (by decide) hq_12
    | 2, _ => exact toInt_ne (by decide) hq_15
    | 3, _ => exact toInt_ne (by decide) hq_18
    | 4, _ => exact toInt_ne (by decide) hq_21
    | 5, _ => exact toInt_ne (by decide) hq_24
    | 6, _ => exact toInt_ne (by decide) hq_27
    | 7, _ => exact toInt_ne (by decide) hq_30
    | 8, _ => exact toInt_ne (by decide) hq_33
    | 9, _ => exact toInt_ne (by decide) hq_36
    | 10, _ => exact toInt_ne (by decide) hq_41
    | 11, _ => exact toInt_ne (by decide) hq_46
  refine f_aload_n C (j := 2) dX11_many_232 rfl rfl rfl ?_
  refine f_iconst C (v := 5) dX11_many_233 kc5 rfl ?_
  refine f_callVi C (a := 1) (ci := 11) (As := fun B => [.int 5]) o1 rfl (c_X11_refuse  _ _ _ h) tM_X11_126 tI_X11_refuse tS_X11_refuse tN_X11 tC_X11_refuse 1 dd_X11_refuse rfl (by decide) (by decide) rfl (Nat.le_of_ble_eq_true rfl) dX11_many_234 rfl (fun r_48 σ_47 h => ?_)
  exact f_iret C dX11_many_237 h
theorem c_X11_many (x1 : Int32) (σ : Sto) (P : Int32 → Sto → Prop) (h : w_X11_many x1 σ P) : Ct yX11_many cX11_many 4 (some .int) 3 69 (fun B => [.ref (B + 1), .int x1]) σ (QFi P) := Ct.of (by decide) (fun _ => Nat.le_of_ble_eq_true rfl) (fun B E C => s_X11_many C x1 σ h)
def w_X11_thing (x1 : Int32) (x2 : Int32) (σ : Sto) (P : Int32 → Sto → Prop) : Prop :=
  w_X11_noThing x1 σ (fun r_2 σ_1 => (if r_2 = 0 then ∀ sw_4 : Int32, sw_4 = x2 → (if sw_4 = 0 then isCity (gr σ_1 1 11) ∧ vp_in x1 12 ∧ w_X11_fine (gi σ_1 ((gr σ_1 1 11) + 2) (tn x1)) σ_1 (fun r_8 σ_7 => P r_8 σ_7) else (if sw_4 = 1 then w_X6_atPresent σ_1 (fun r_11 σ_10 => w_X11_fine ((r_11 >>> (x1 &&& 31)) &&& 1) σ_10 (fun r_13 σ_12 => P r_13 σ_12)) else (if sw_4 = 2 then isCity (gr σ_1 1 11) ∧ w_X1_makingsOf (gr σ_1 1 11) x1 σ_1 (fun r_17 σ_16 => w_X11_fine r_17 σ_16 (fun r_19 σ_18 => P r_19 σ_18)) else (if sw_4 = 3 then isCity (gr σ_1 1 11) ∧ vp_in x1 12 ∧ w_X11_fine (gi σ_1 ((gr σ_1 1 11) + 7) (tn x1)) σ_1 (fun r_24 σ_23 => P r_24 σ_23) else w_X11_refuse 5 σ_1 (fun r_27 σ_26 => P r_27 σ_26))))) else w_X11_refuse 2 σ_1 (fun r_29 σ_28 => P r_29 σ_28)))
theorem s_X11_thing {B : Nat} {E : Nat → List (Nat × Value) → List Value → Sto → Prop} {P : Int32 → Sto → Prop} (C : Cy B E RX11 cX11_thing 3 (some .int) 3 69 (Zm (QFi P))) (x1 : Int32) (x2 : Int32) (σ : Sto) (h : w_X11_thing x1 x2 σ P) : E 0 [(0, .ref (B + 1)), (1, .int x1), (2, .int x2)] [] σ := by
  unfold w_X11_thing at h
  refine f_aload_n C (j := 0) dX11_thing_0 rfl rfl rfl ?_
  refine f_iload_n C (j := 1) dX11_thing_1 rfl rfl rfl ?_
  refine f_callVi C (a := 1) (ci := 11) (As := fun B => [.int x1]) o1 rfl (c_X11_noThing  _ _ _ h) tM_X11_267 tI_X11_noThing tS_X11_noThing tN_X11 tC_X11_noThing 1 dd_X11_noThing rfl (by decide) (by decide) rfl (Nat.le_of_ble_eq_true rfl) dX11_thing_2 rfl (fun r_2 σ_1 h => ?_)
  refine f_if_eq C (t := 14) dX11_thing_5 (by decide) rfl (fun hq_3 => ?_) (fun hq_3 => ?_)
  · replace h := Eq.mp (if_pos hq_3) h
    refine f_iload_n C (j := 2) dX11_thing_14 rfl rfl rfl ?_
    refine f_name (fun sw_4 hsw_4 => ?_)
    replace h := h sw_4 hsw_4
    by_cases hq_9 : sw_4 = 0
    · replace h := Eq.mp (if_pos hq_9) h
      refine f_tableIn C (off := 29) (t := 44) dX11_thing_15 (by rw [hq_9]; decide) (by rw [hq_9]; decide) (by rw [hq_9]; rfl) (by decide) ?_
      refine f_aload_n C (j := 0) dX11_thing_44 rfl rfl rfl ?_
      refine f_aload_n C (j := 0) dX11_thing_45 rfl rfl rfl ?_
      obtain ⟨hc_5, h⟩ := h
      refine f_getm C tF_X11_26 rfl o1 cn1_11 hc_5.z dX11_thing_46 rfl ?_
      refine f_getc C tF_X11_270 rfl hc_5.o hc_5.c1 (Nat.succ_ne_zero _) dX11_thing_49 rfl ?_
      refine f_iload_n C (j := 1) dX11_thing_52 rfl rfl rfl ?_
      obtain ⟨hi_6, h⟩ := h
      refine f_iald C (j := tn x1) hc_5.a1 hi_6 rfl dX11_thing_53 rfl ?_
      refine f_callVi C (a := 1) (ci := 11) (As := fun B => [.int (gi σ_1 ((gr σ_1 1 11) + 2) (tn x1))]) o1 rfl (c_X11_fine  _ _ _ h) tM_X11_130 tI_X11_fine tS_X11_fine tN_X11 tC_X11_fine 1 dd_X11_fine rfl (by decide) (by decide) rfl (Nat.le_of_ble_eq_true rfl) dX11_thing_54 rfl (fun r_8 σ_7 h => ?_)
      exact f_iret C dX11_thing_57 h
    replace h := Eq.mp (if_neg hq_9) h
    by_cases hq_14 : sw_4 = 1
    · replace h := Eq.mp (if_pos hq_14) h
      refine f_tableIn C (off := 43) (t := 58) dX11_thing_15 (by rw [hq_14]; decide) (by rw [hq_14]; decide) (by rw [hq_14]; rfl) (by decide) ?_
      refine f_aload_n C (j := 0) dX11_thing_58 rfl rfl rfl ?_
      refine f_aload_n C (j := 0) dX11_thing_59 rfl rfl rfl ?_
      refine f_getc C tF_X11_58 rfl o1 cs1_4 (by decide) dX11_thing_60 rfl ?_
      refine f_callVi C (a := 88) (ci := 6) (As := fun B => []) o88 rfl (c_X6_atPresent   _ _ h) tM_X11_242 tI_X6_atPresent tS_X6_atPresent tN_X6 tC_X6_atPresent 0 dd_X6_atPresent rfl (by decide) (by decide) rfl (Nat.le_of_ble_eq_true rfl) dX11_thing_63 rfl (fun r_11 σ_10 h => ?_)
      refine f_iload_n C (j := 1) dX11_thing_66 rfl rfl rfl ?_
      refine f_ishr C dX11_thing_67 rfl ?_
      refine f_iconst C (v := 1) dX11_thing_68 kc1 rfl ?_
      refine f_iand C dX11_thing_69 rfl ?_
      refine f_callVi C (a := 1) (ci := 11) (As := fun B => [.int ((r_11 >>> (x1 &&& 31)) &&& 1)]) o1 rfl (c_X11_fine  _ _ _ h) tM_X11_130 tI_X11_fine tS_X11_fine tN_X11 tC_X11_fine 1 dd_X11_fine rfl (by decide) (by decide) rfl (Nat.le_of_ble_eq_true rfl) dX11_thing_70 rfl (fun r_13 σ_12 h => ?_)
      exact f_iret C dX11_thing_73 h
    replace h := Eq.mp (if_neg hq_14) h
    by_cases hq_20 : sw_4 = 2
    · replace h := Eq.mp (if_pos hq_20) h
      refine f_tableIn C (off := 59) (t := 74) dX11_thing_15 (by rw [hq_20]; decide) (by rw [hq_20]; decide) (by rw [hq_20]; rfl) (by decide) ?_
      refine f_aload_n C (j := 0) dX11_thing_74 rfl rfl rfl ?_
      refine f_aload_n C (j := 0) dX11_thing_75 rfl rfl rfl ?_
      obtain ⟨hc_15, h⟩ := h
      refine f_getm C tF_X11_26 rfl o1 cn1_11 hc_15.z dX11_thing_76 rfl ?_
      refine f_iload_n C (j := 1) dX11_thing_79 rfl rfl rfl ?_
      refine f_callVi C (a := gr σ_1 1 11) (ci := 1) (As := fun B => [.int x1]) hc_15.o rfl (c_X1_makingsOf  _ _ _ _ h) tM_X11_273 tI_X1_makingsOf tS_X1_makingsOf tN_X1 tC_X1_makingsOf 1 dd_X1_makingsOf rfl (by decide) (by decide) rfl (Nat.le_of_ble_eq_true rfl) dX11_thing_80 rfl (fun r_17 σ_16 h => ?_)
      refine f_callVi C (a := 1) (ci := 11) (As := fun B => [.int r_17]) o1 rfl (c_X11_fine  _ _ _ h) tM_X11_130 tI_X11_fine tS_X11_fine tN_X11 tC_X11_fine 1 dd_X11_fine rfl (by decide) (by decide) rfl (Nat.le_of_ble_eq_true rfl) dX11_thing_83 rfl (fun r_19 σ_18 h => ?_)
      exact f_iret C dX11_thing_86 h
    replace h := Eq.mp (if_neg hq_20) h
    by_cases hq_25 : sw_4 = 3
    · replace h := Eq.mp (if_pos hq_25) h
      refine f_tableIn C (off := 72) (t := 87) dX11_thing_15 (by rw [hq_25]; decide) (by rw [hq_25]; decide) (by rw [hq_25]; rfl) (by decide) ?_
      refine f_aload_n C (j := 0) dX11_thing_87 rfl rfl rfl ?_
      refine f_aload_n C (j := 0) dX11_thing_88 rfl rfl rfl ?_
      obtain ⟨hc_21, h⟩ := h
      refine f_getm C tF_X11_26 rfl o1 cn1_11 hc_21.z dX11_thing_89 rfl ?_
      refine f_getc C tF_X11_276 rfl hc_21.o hc_21.c6 (Nat.succ_ne_zero _) dX11_thing_92 rfl ?_
      refine f_iload_n C (j := 1) dX11_thing_95 rfl rfl rfl ?_
      obtain ⟨hi_22, h⟩ := h
      refine f_iald C (j := tn x1) hc_21.a6 hi_22 rfl dX11_thing_96 rfl ?_
      refine f_callVi C (a := 1) (ci := 11) (As := fun B => [.int (gi σ_1 ((gr σ_1 1 11) + 7) (tn x1))]) o1 rfl (c_X11_fine  _ _ _ h) tM_X11_130 tI_X11_fine tS_X11_fine tN_X11 tC_X11_fine 1 dd_X11_fine rfl (by decide) (by decide) rfl (Nat.le_of_ble_eq_true rfl) dX11_thing_97 rfl (fun r_24 σ_23 h => ?_)
      exact f_iret C dX11_thing_100 h
    replace h := Eq.mp (if_neg hq_25) h
    refine f_tableOut C (t := 101) dX11_thing_15 (tsw_out (lo := 0) (hi := 3) 4 (by decide) (fun k hk => ?_)) (by decide) ?_
    · match k, hk with
      | 0, _ => exact toInt_ne (by decide) hq_9
      | 1, _ => exact toInt_ne (by decide) hq_14
      | 2, _ => exact toInt_ne (by decide) hq_20
      | 3, _ => exact toInt_ne (by decide) hq_25
    refine f_aload_n C (j := 0) dX11_thing_101 rfl rfl rfl ?_
    refine f_iconst C (v := 5) dX11_thing_102 kc5 rfl ?_
    refine f_callVi C (a := 1) (ci := 11) (As := fun B => [.int 5]) o1 rfl (c_X11_refuse  _ _ _ h) tM_X11_126 tI_X11_refuse tS_X11_refuse tN_X11 tC_X11_refuse 1 dd_X11_refuse rfl (by decide) (by decide) rfl (Nat.le_of_ble_eq_true rfl) dX11_thing_103 rfl (fun r_27 σ_26 h => ?_)
    exact f_iret C dX11_thing_106 h
  · replace h := Eq.mp (if_neg hq_3) h
    refine f_aload_n C (j := 0) dX11_thing_8 rfl rfl rfl ?_
    refine f_iconst C (v := 2) dX11_thing_9 kc2 rfl ?_
    refine f_callVi C (a := 1) (ci := 11) (As := fun B => [.int 2]) o1 rfl (c_X11_refuse  _ _ _ h) tM_X11_126 tI_X11_refuse tS_X11_refuse tN_X11 tC_X11_refuse 1 dd_X11_refuse rfl (by decide) (by decide) rfl (Nat.le_of_ble_eq_true rfl) dX11_thing_10 rfl (fun r_29 σ_28 h => ?_)
    exact f_iret C dX11_thing_13 h
theorem c_X11_thing (x1 : Int32) (x2 : Int32) (σ : Sto) (P : Int32 → Sto → Prop) (h : w_X11_thing x1 x2 σ P) : Ct yX11_thing cX11_thing 3 (some .int) 3 69 (fun B => [.ref (B + 1), .int x1, .int x2]) σ (QFi P) := Ct.of (by decide) (fun _ => Nat.le_of_ble_eq_true rfl) (fun B E C => s_X11_thing C x1 x2 σ h)
def w_X11_making_15 (σ : Sto) (P : Int32 → Sto → Prop) : Prop :=
  w_X11_refuse 2 σ (fun r_3 σ_2 => P r_3 σ_2)
theorem s_X11_making_15 {B : Nat} {E : Nat → List (Nat × Value) → List Value → Sto → Prop} {P : Int32 → Sto → Prop} (C : Cy B E RX11 cX11_making 3 (some .int) 1 21 (Zm (QFi P))) (σ : Sto) (h : w_X11_making_15 σ P) : E 15 [(0, .ref (B + 1))] [] σ := by
  unfold w_X11_making_15 at h
  refine f_aload_n C (j := 0) dX11_making_15 rfl rfl rfl ?_
  refine f_iconst C (v := 2) dX11_making_16 kc2 rfl ?_
  refine f_callVi C (a := 1) (ci := 11) (As := fun B => [.int 2]) o1 rfl (c_X11_refuse  _ _ _ h) tM_X11_126 tI_X11_refuse tS_X11_refuse tN_X11 tC_X11_refuse 1 dd_X11_refuse rfl (by decide) (by decide) rfl (Nat.le_of_ble_eq_true rfl) dX11_making_17 rfl (fun r_3 σ_2 h => ?_)
  exact f_iret C dX11_making_20 h
def w_X11_making (x1 : Int32) (x2 : Int32) (σ : Sto) (P : Int32 → Sto → Prop) : Prop :=
  (if x1 < 0 then w_X11_making_15 σ P else isCity (gr σ 1 11) ∧ (if x1 < (gi σ (gr σ 1 11) 9) then ∀ sw_6 : Int32, sw_6 = x2 → (if sw_6 = 0 then vp_in x1 16 ∧ w_X11_fine (gi σ ((gr σ 1 11) + 3) (tn x1)) σ (fun r_9 σ_8 => P r_9 σ_8) else (if sw_6 = 1 then vp_in x1 16 ∧ w_X11_fine (gi σ ((gr σ 1 11) + 4) (tn x1)) σ (fun r_13 σ_12 => P r_13 σ_12) else w_X11_refuse 5 σ (fun r_16 σ_15 => P r_16 σ_15))) else w_X11_making_15 σ P))
theorem s_X11_making {B : Nat} {E : Nat → List (Nat × Value) → List Value → Sto → Prop} {P : Int32 → Sto → Prop} (C : Cy B E RX11 cX11_making 3 (some .int) 1 21 (Zm (QFi P))) (x1 : Int32) (x2 : Int32) (σ : Sto) (h : w_X11_making x1 x2 σ P) : E 0 [(0, .ref (B + 1)), (1, .int x1), (2, .int x2)] [] σ := by
  unfold w_X11_making at h
  refine f_iload_n C (j := 1) dX11_making_0 rfl rfl rfl ?_
  refine f_if_lt C (t := 15) dX11_making_1 (by decide) rfl (fun hq_1 => ?_) (fun hq_1 => ?_)
  · replace h := Eq.mp (if_pos hq_1) h
    refine f_lv C (lv2 := [(0, .ref (B + 1))]) [0] rfl ?_
    exact s_X11_making_15 C  _ h
  · replace h := Eq.mp (if_neg hq_1) h
    refine f_iload_n C (j := 1) dX11_making_4 rfl rfl rfl ?_
    refine f_aload_n C (j := 0) dX11_making_5 rfl rfl rfl ?_
    obtain ⟨hc_4, h⟩ := h
    refine f_getm C tF_X11_26 rfl o1 cn1_11 hc_4.z dX11_making_6 rfl ?_
    refine f_geti C tF_X11_246 rfl hc_4.o dX11_making_9 rfl ?_
    refine f_icmp_lt C (t := 21) dX11_making_12 (by decide) rfl (fun hq_5 => ?_) (fun hq_5 => ?_)
    · replace h := Eq.mp (if_pos hq_5) h
      refine f_iload_n C (j := 2) dX11_making_21 rfl rfl rfl ?_
      refine f_name (fun sw_6 hsw_6 => ?_)
      replace h := h sw_6 hsw_6
      by_cases hq_10 : sw_6 = 0
      · replace h := Eq.mp (if_pos hq_10) h
        refine f_lookup C (off := 26) (t := 48) dX11_making_22 (by decide) (by rw [hq_10]; decide) (by decide) ?_
        refine f_aload_n C (j := 0) dX11_making_48 rfl rfl rfl ?_
        refine f_aload_n C (j := 0) dX11_making_49 rfl rfl rfl ?_
        refine f_getm C tF_X11_26 rfl o1 cn1_11 hc_4.z dX11_making_50 rfl ?_
        refine f_getc C tF_X11_279 rfl hc_4.o hc_4.c2 (Nat.succ_ne_zero _) dX11_making_53 rfl ?_
        refine f_iload_n C (j := 1) dX11_making_56 rfl rfl rfl ?_
        obtain ⟨hi_7, h⟩ := h
        refine f_iald C (j := tn x1) hc_4.a2 hi_7 rfl dX11_making_57 rfl ?_
        refine f_callVi C (a := 1) (ci := 11) (As := fun B => [.int (gi σ ((gr σ 1 11) + 3) (tn x1))]) o1 rfl (c_X11_fine  _ _ _ h) tM_X11_130 tI_X11_fine tS_X11_fine tN_X11 tC_X11_fine 1 dd_X11_fine rfl (by decide) (by decide) rfl (Nat.le_of_ble_eq_true rfl) dX11_making_58 rfl (fun r_9 σ_8 h => ?_)
        exact f_iret C dX11_making_61 h
      replace h := Eq.mp (if_neg hq_10) h
      by_cases hq_14 : sw_6 = 1
      · replace h := Eq.mp (if_pos hq_14) h
        refine f_lookup C (off := 40) (t := 62) dX11_making_22 (by decide) (by rw [hq_14]; decide) (by decide) ?_
        refine f_aload_n C (j := 0) dX11_making_62 rfl rfl rfl ?_
        refine f_aload_n C (j := 0) dX11_making_63 rfl rfl rfl ?_
        refine f_getm C tF_X11_26 rfl o1 cn1_11 hc_4.z dX11_making_64 rfl ?_
        refine f_getc C tF_X11_282 rfl hc_4.o hc_4.c3 (Nat.succ_ne_zero _) dX11_making_67 rfl ?_
        refine f_iload_n C (j := 1) dX11_making_70 rfl rfl rfl ?_
        obtain ⟨hi_11, h⟩ := h
        refine f_iald C (j := tn x1) hc_4.a3 hi_11 rfl dX11_making_71 rfl ?_
        refine f_callVi C (a := 1) (ci := 11) (As := fun B => [.int (gi σ ((gr σ 1 11) + 4) (tn x1))]) o1 rfl (c_X11_fine  _ _ _ h) tM_X11_130 tI_X11_fine tS_X11_fine tN_X11 tC_X11_fine 1 dd_X11_fine rfl (by decide) (by decide) rfl (Nat.le_of_ble_eq_true rfl) dX11_making_72 rfl (fun r_13 σ_12 h => ?_)
        exact f_iret C dX11_making_75 h
      replace h := Eq.mp (if_neg hq_14) h
      refine f_lookup C (off := 54) (t := 76) dX11_making_22 (by decide) (by simp [Op.lookupswitch.offset, toInt_ne (x := sw_6) (y := 0) (z := 0) (by decide) hq_10, toInt_ne (x := sw_6) (y := 1) (z := 1) (by decide) hq_14, Ne.symm (toInt_ne (x := sw_6) (y := 0) (z := 0) (by decide) hq_10), Ne.symm (toInt_ne (x := sw_6) (y := 1) (z := 1) (by decide) hq_14)]) (by decide) ?_
      refine f_aload_n C (j := 0) dX11_making_76 rfl rfl rfl ?_
      refine f_iconst C (v := 5) dX11_making_77 kc5 rfl ?_
      refine f_callVi C (a := 1) (ci := 11) (As := fun B => [.int 5]) o1 rfl (c_X11_refuse  _ _ _ h) tM_X11_126 tI_X11_refuse tS_X11_refuse tN_X11 tC_X11_refuse 1 dd_X11_refuse rfl (by decide) (by decide) rfl (Nat.le_of_ble_eq_true rfl) dX11_making_78 rfl (fun r_16 σ_15 h => ?_)
      exact f_iret C dX11_making_81 h
    · replace h := Eq.mp (if_neg hq_5) h
      refine f_lv C (lv2 := [(0, .ref (B + 1))]) [0] rfl ?_
      exact s_X11_making_15 C  _ h
theorem c_X11_making (x1 : Int32) (x2 : Int32) (σ : Sto) (P : Int32 → Sto → Prop) (h : w_X11_making x1 x2 σ P) : Ct yX11_making cX11_making 3 (some .int) 1 21 (fun B => [.ref (B + 1), .int x1, .int x2]) σ (QFi P) := Ct.of (by decide) (fun _ => Nat.le_of_ble_eq_true rfl) (fun B E C => s_X11_making C x1 x2 σ h)
def w_X11_needs (x1 : Int32) (σ : Sto) (P : Int32 → Sto → Prop) : Prop :=
  w_X11_noWork x1 σ (fun r_2 σ_1 => (if r_2 = 0 then isCity (gr σ_1 1 11) ∧ vp_in x1 6 ∧ w_X11_fine (gi σ_1 ((gr σ_1 1 11) + 5) (tn x1)) σ_1 (fun r_7 σ_6 => P r_7 σ_6) else w_X11_refuse 2 σ_1 (fun r_9 σ_8 => P r_9 σ_8)))
theorem s_X11_needs {B : Nat} {E : Nat → List (Nat × Value) → List Value → Sto → Prop} {P : Int32 → Sto → Prop} (C : Cy B E RX11 cX11_needs 2 (some .int) 1 21 (Zm (QFi P))) (x1 : Int32) (σ : Sto) (h : w_X11_needs x1 σ P) : E 0 [(0, .ref (B + 1)), (1, .int x1)] [] σ := by
  unfold w_X11_needs at h
  refine f_aload_n C (j := 0) dX11_needs_0 rfl rfl rfl ?_
  refine f_iload_n C (j := 1) dX11_needs_1 rfl rfl rfl ?_
  refine f_callVi C (a := 1) (ci := 11) (As := fun B => [.int x1]) o1 rfl (c_X11_noWork  _ _ _ h) tM_X11_285 tI_X11_noWork tS_X11_noWork tN_X11 tC_X11_noWork 1 dd_X11_noWork rfl (by decide) (by decide) rfl (Nat.le_of_ble_eq_true rfl) dX11_needs_2 rfl (fun r_2 σ_1 h => ?_)
  refine f_if_eq C (t := 16) dX11_needs_5 (by decide) rfl (fun hq_3 => ?_) (fun hq_3 => ?_)
  · replace h := Eq.mp (if_pos hq_3) h
    refine f_aload_n C (j := 0) dX11_needs_16 rfl rfl rfl ?_
    refine f_aload_n C (j := 0) dX11_needs_17 rfl rfl rfl ?_
    obtain ⟨hc_4, h⟩ := h
    refine f_getm C tF_X11_26 rfl o1 cn1_11 hc_4.z dX11_needs_18 rfl ?_
    refine f_getc C tF_X11_288 rfl hc_4.o hc_4.c4 (Nat.succ_ne_zero _) dX11_needs_21 rfl ?_
    refine f_iload_n C (j := 1) dX11_needs_24 rfl rfl rfl ?_
    obtain ⟨hi_5, h⟩ := h
    refine f_iald C (j := tn x1) hc_4.a4 hi_5 rfl dX11_needs_25 rfl ?_
    refine f_callVi C (a := 1) (ci := 11) (As := fun B => [.int (gi σ_1 ((gr σ_1 1 11) + 5) (tn x1))]) o1 rfl (c_X11_fine  _ _ _ h) tM_X11_130 tI_X11_fine tS_X11_fine tN_X11 tC_X11_fine 1 dd_X11_fine rfl (by decide) (by decide) rfl (Nat.le_of_ble_eq_true rfl) dX11_needs_26 rfl (fun r_7 σ_6 h => ?_)
    exact f_iret C dX11_needs_29 h
  · replace h := Eq.mp (if_neg hq_3) h
    refine f_aload_n C (j := 0) dX11_needs_8 rfl rfl rfl ?_
    refine f_iconst C (v := 2) dX11_needs_9 kc2 rfl ?_
    refine f_callVi C (a := 1) (ci := 11) (As := fun B => [.int 2]) o1 rfl (c_X11_refuse  _ _ _ h) tM_X11_126 tI_X11_refuse tS_X11_refuse tN_X11 tC_X11_refuse 1 dd_X11_refuse rfl (by decide) (by decide) rfl (Nat.le_of_ble_eq_true rfl) dX11_needs_10 rfl (fun r_9 σ_8 h => ?_)
    refine f_goto C (t := 29) dX11_needs_13 (by decide) ?_
    exact f_iret C dX11_needs_29 h
theorem c_X11_needs (x1 : Int32) (σ : Sto) (P : Int32 → Sto → Prop) (h : w_X11_needs x1 σ P) : Ct yX11_needs cX11_needs 2 (some .int) 1 21 (fun B => [.ref (B + 1), .int x1]) σ (QFi P) := Ct.of (by decide) (fun _ => Nat.le_of_ble_eq_true rfl) (fun B E C => s_X11_needs C x1 σ h)
def w_X11_hate_16 (σ : Sto) (P : Int32 → Sto → Prop) : Prop :=
  w_X11_refuse 2 σ (fun r_5 σ_4 => P r_5 σ_4)
theorem s_X11_hate_16 {B : Nat} {E : Nat → List (Nat × Value) → List Value → Sto → Prop} {P : Int32 → Sto → Prop} (C : Cy B E RX11 cX11_hate 3 (some .int) 1 21 (Zm (QFi P))) (σ : Sto) (h : w_X11_hate_16 σ P) : E 16 [(0, .ref (B + 1))] [] σ := by
  unfold w_X11_hate_16 at h
  refine f_aload_n C (j := 0) dX11_hate_16 rfl rfl rfl ?_
  refine f_iconst C (v := 2) dX11_hate_17 kc2 rfl ?_
  refine f_callVi C (a := 1) (ci := 11) (As := fun B => [.int 2]) o1 rfl (c_X11_refuse  _ _ _ h) tM_X11_126 tI_X11_refuse tS_X11_refuse tN_X11 tC_X11_refuse 1 dd_X11_refuse rfl (by decide) (by decide) rfl (Nat.le_of_ble_eq_true rfl) dX11_hate_18 rfl (fun r_5 σ_4 h => ?_)
  exact f_iret C dX11_hate_21 h
def w_X11_hate (x1 : Int32) (x2 : Int32) (σ : Sto) (P : Int32 → Sto → Prop) : Prop :=
  w_X11_noVoter x1 σ (fun r_2 σ_1 => (if r_2 = 0 then w_X11_noThing x2 σ_1 (fun r_7 σ_6 => (if r_7 = 0 then isCity (gr σ_6 1 11) ∧ vp_in ((x1 * 12) + x2) 72 ∧ w_X11_fine (gi σ_6 ((gr σ_6 1 11) + 6) (tn ((x1 * 12) + x2))) σ_6 (fun r_12 σ_11 => P r_12 σ_11) else w_X11_hate_16 σ_6 P)) else w_X11_hate_16 σ_1 P))
theorem s_X11_hate {B : Nat} {E : Nat → List (Nat × Value) → List Value → Sto → Prop} {P : Int32 → Sto → Prop} (C : Cy B E RX11 cX11_hate 3 (some .int) 1 21 (Zm (QFi P))) (x1 : Int32) (x2 : Int32) (σ : Sto) (h : w_X11_hate x1 x2 σ P) : E 0 [(0, .ref (B + 1)), (1, .int x1), (2, .int x2)] [] σ := by
  unfold w_X11_hate at h
  refine f_aload_n C (j := 0) dX11_hate_0 rfl rfl rfl ?_
  refine f_iload_n C (j := 1) dX11_hate_1 rfl rfl rfl ?_
  refine f_callVi C (a := 1) (ci := 11) (As := fun B => [.int x1]) o1 rfl (c_X11_noVoter  _ _ _ h) tM_X11_291 tI_X11_noVoter tS_X11_noVoter tN_X11 tC_X11_noVoter 1 dd_X11_noVoter rfl (by decide) (by decide) rfl (Nat.le_of_ble_eq_true rfl) dX11_hate_2 rfl (fun r_2 σ_1 h => ?_)
  refine f_if_ne C (t := 16) dX11_hate_5 (by decide) rfl (fun hq_3 => ?_) (fun hq_3 => ?_)
  · replace h := Eq.mp (if_neg hq_3) h
    refine f_lv C (lv2 := [(0, .ref (B + 1))]) [0] rfl ?_
    exact s_X11_hate_16 C  _ h
  · replace h := Eq.mp (if_pos hq_3) h
    refine f_aload_n C (j := 0) dX11_hate_8 rfl rfl rfl ?_
    refine f_iload_n C (j := 2) dX11_hate_9 rfl rfl rfl ?_
    refine f_callVi C (a := 1) (ci := 11) (As := fun B => [.int x2]) o1 rfl (c_X11_noThing  _ _ _ h) tM_X11_267 tI_X11_noThing tS_X11_noThing tN_X11 tC_X11_noThing 1 dd_X11_noThing rfl (by decide) (by decide) rfl (Nat.le_of_ble_eq_true rfl) dX11_hate_10 rfl (fun r_7 σ_6 h => ?_)
    refine f_if_eq C (t := 22) dX11_hate_13 (by decide) rfl (fun hq_8 => ?_) (fun hq_8 => ?_)
    · replace h := Eq.mp (if_pos hq_8) h
      refine f_aload_n C (j := 0) dX11_hate_22 rfl rfl rfl ?_
      refine f_aload_n C (j := 0) dX11_hate_23 rfl rfl rfl ?_
      obtain ⟨hc_9, h⟩ := h
      refine f_getm C tF_X11_26 rfl o1 cn1_11 hc_9.z dX11_hate_24 rfl ?_
      refine f_getc C tF_X11_294 rfl hc_9.o hc_9.c5 (Nat.succ_ne_zero _) dX11_hate_27 rfl ?_
      refine f_iload_n C (j := 1) dX11_hate_30 rfl rfl rfl ?_
      refine f_bipush C (v := 12) dX11_hate_31 kb12 rfl ?_
      refine f_imul C dX11_hate_33 rfl ?_
      refine f_iload_n C (j := 2) dX11_hate_34 rfl rfl rfl ?_
      refine f_iadd C dX11_hate_35 rfl ?_
      obtain ⟨hi_10, h⟩ := h
      refine f_iald C (j := tn ((x1 * 12) + x2)) hc_9.a5 hi_10 rfl dX11_hate_36 rfl ?_
      refine f_callVi C (a := 1) (ci := 11) (As := fun B => [.int (gi σ_6 ((gr σ_6 1 11) + 6) (tn ((x1 * 12) + x2)))]) o1 rfl (c_X11_fine  _ _ _ h) tM_X11_130 tI_X11_fine tS_X11_fine tN_X11 tC_X11_fine 1 dd_X11_fine rfl (by decide) (by decide) rfl (Nat.le_of_ble_eq_true rfl) dX11_hate_37 rfl (fun r_12 σ_11 h => ?_)
      exact f_iret C dX11_hate_40 h
    · replace h := Eq.mp (if_neg hq_8) h
      refine f_lv C (lv2 := [(0, .ref (B + 1))]) [0] rfl ?_
      exact s_X11_hate_16 C  _ h
theorem c_X11_hate (x1 : Int32) (x2 : Int32) (σ : Sto) (P : Int32 → Sto → Prop) (h : w_X11_hate x1 x2 σ P) : Ct yX11_hate cX11_hate 3 (some .int) 1 21 (fun B => [.ref (B + 1), .int x1, .int x2]) σ (QFi P) := Ct.of (by decide) (fun _ => Nat.le_of_ble_eq_true rfl) (fun B E C => s_X11_hate C x1 x2 σ h)
def w_X11_copyWorth_109 (K69 : Int32 × Sto → Prop) (x1 : Int32) (x2 : Int32) (x3 : Int32) (z0 : Int64) (z1 : Int32) (z2 : Int32) (σ : Sto) (P : Int32 → Sto → Prop) : Prop :=
  w_X10_put z2 z1 z0 σ (fun σ_20 => ∀ x3_22 : Int32, x3_22 = x3 + 1 → K69 (x3_22, σ_20))
theorem s_X11_copyWorth_109 {B : Nat} {E : Nat → List (Nat × Value) → List Value → Sto → Prop} {P : Int32 → Sto → Prop} (C : Cy B E RX11 cX11_copyWorth 4 (some .int) 3 69 (Zm (QFi P))) (x1 : Int32) (x2 : Int32) (x3 : Int32) (z0 : Int64) (z1 : Int32) (z2 : Int32) (K69 : Int32 × Sto → Prop) (hK69 : ∀ (x3 : Int32) (σ : Sto), K69 (x3, σ) → E 69 [(0, .ref (B + 1)), (1, .int x1), (2, .int x2), (3, .int x3)] [] σ) (σ : Sto) (h : w_X11_copyWorth_109 K69 x1 x2 x3 z0 z1 z2 σ P) : E 109 [(0, .ref (B + 1)), (1, .int x1), (2, .int x2), (3, .int x3)] [.long z0, .int z1, .int z2, .ref (B + 2)] σ := by
  unfold w_X11_copyWorth_109 at h
  refine f_callVv C (a := 2) (ci := 10) (As := fun B => [.int z2, .int z1, .long z0]) o2 rfl (c_X10_put  _ _ _ _ _ h) tM_X11_177 tI_X10_put tS_X10_put tN_X10 tC_X10_put 3 dd_X10_put rfl (by decide) (by decide) rfl (Nat.le_of_ble_eq_true rfl) dX11_copyWorth_109 rfl (fun σ_20 h => ?_)
  obtain ⟨x3_22, hx_23⟩ : ∃ y : Int32, y = x3 + 1 := ⟨_, rfl⟩
  replace h := h x3_22 hx_23
  refine f_iinc C (j := 3) (v := x3_22) (lv2 := [(3, .int x3_22), (0, .ref (B + 1)), (1, .int x1), (2, .int x2)]) dX11_copyWorth_112 rfl hx_23.symm (by decide) rfl rfl ?_
  refine f_goto C (t := 69) dX11_copyWorth_115 (by decide) ?_
  refine f_lv C (lv2 := [(0, .ref (B + 1)), (1, .int x1), (2, .int x2), (3, .int x3_22)]) [1, 2, 3, 0] rfl ?_
  exact hK69 _ _ h
def w_X11_copyWorth_69 (K69 : Int32 × Sto → Prop) (x1 : Int32) (x2 : Int32) (x3 : Int32) (σ : Sto) (P : Int32 → Sto → Prop) : Prop :=
  isCity (gr σ 1 11) ∧ (if (gi σ (gr σ 1 11) 8) ≤ x3 then w_X11_fine (gi σ (gr σ 1 11) 8) σ (fun r_16 σ_15 => P r_16 σ_15) else w_X11_isOneOf x3 x2 σ (fun r_18 σ_17 => (if r_18 = 0 then w_X11_copyWorth_109 K69 x1 x2 x3 0 x3 x1 σ_17 P else isCity (gr σ_17 1 11) ∧ vp_in x3 12 ∧ w_X11_copyWorth_109 K69 x1 x2 x3 ((gi σ_17 ((gr σ_17 1 11) + 2) (tn x3)).toInt64) x3 x1 σ_17 P)))
theorem s_X11_copyWorth_69 {B : Nat} {E : Nat → List (Nat × Value) → List Value → Sto → Prop} {P : Int32 → Sto → Prop} (C : Cy B E RX11 cX11_copyWorth 4 (some .int) 3 69 (Zm (QFi P))) (x1 : Int32) (x2 : Int32) (x3 : Int32) (K69 : Int32 × Sto → Prop) (hK69 : ∀ (x3 : Int32) (σ : Sto), K69 (x3, σ) → E 69 [(0, .ref (B + 1)), (1, .int x1), (2, .int x2), (3, .int x3)] [] σ) (σ : Sto) (h : w_X11_copyWorth_69 K69 x1 x2 x3 σ P) : E 69 [(0, .ref (B + 1)), (1, .int x1), (2, .int x2), (3, .int x3)] [] σ := by
  unfold w_X11_copyWorth_69 at h
  refine f_iload_n C (j := 3) dX11_copyWorth_69 rfl rfl rfl ?_
  refine f_aload_n C (j := 0) dX11_copyWorth_70 rfl rfl rfl ?_
  obtain ⟨hc_13, h⟩ := h
  refine f_getm C tF_X11_26 rfl o1 cn1_11 hc_13.z dX11_copyWorth_71 rfl ?_
  refine f_geti C tF_X11_139 rfl hc_13.o dX11_copyWorth_74 rfl ?_
  refine f_icmp_ge C (t := 118) dX11_copyWorth_77 (by decide) rfl (fun hq_14 => ?_) (fun hq_14 => ?_)
  · replace h := Eq.mp (if_pos hq_14) h
    refine f_aload_n C (j := 0) dX11_copyWorth_118 rfl rfl rfl ?_
    refine f_aload_n C (j := 0) dX11_copyWorth_119 rfl rfl rfl ?_
    refine f_getm C tF_X11_26 rfl o1 cn1_11 hc_13.z dX11_copyWorth_120 rfl ?_
    refine f_geti C tF_X11_139 rfl hc_13.o dX11_copyWorth_123 rfl ?_
    refine f_callVi C (a := 1) (ci := 11) (As := fun B => [.int (gi σ (gr σ 1 11) 8)]) o1 rfl (c_X11_fine  _ _ _ h) tM_X11_130 tI_X11_fine tS_X11_fine tN_X11 tC_X11_fine 1 dd_X11_fine rfl (by decide) (by decide) rfl (Nat.le_of_ble_eq_true rfl) dX11_copyWorth_126 rfl (fun r_16 σ_15 h => ?_)
    exact f_iret C dX11_copyWorth_129 h
  · replace h := Eq.mp (if_neg hq_14) h
    refine f_aload_n C (j := 0) dX11_copyWorth_80 rfl rfl rfl ?_
    refine f_getc C tF_X11_12 rfl o1 cs1_0 (by decide) dX11_copyWorth_81 rfl ?_
    refine f_iload_n C (j := 1) dX11_copyWorth_84 rfl rfl rfl ?_
    refine f_iload_n C (j := 3) dX11_copyWorth_85 rfl rfl rfl ?_
    refine f_aload_n C (j := 0) dX11_copyWorth_86 rfl rfl rfl ?_
    refine f_iload_n C (j := 3) dX11_copyWorth_87 rfl rfl rfl ?_
    refine f_iload_n C (j := 2) dX11_copyWorth_88 rfl rfl rfl ?_
    refine f_callVi C (a := 1) (ci := 11) (As := fun B => [.int x3, .int x2]) o1 rfl (c_X11_isOneOf  _ _ _ _ h) tM_X11_297 tI_X11_isOneOf tS_X11_isOneOf tN_X11 tC_X11_isOneOf 2 dd_X11_isOneOf rfl (by decide) (by decide) rfl (Nat.le_of_ble_eq_true rfl) dX11_copyWorth_89 rfl (fun r_18 σ_17 h => ?_)
    refine f_if_eq C (t := 108) dX11_copyWorth_92 (by decide) rfl (fun hq_19 => ?_) (fun hq_19 => ?_)
    · replace h := Eq.mp (if_pos hq_19) h
      refine f_lconst C (v := 0) dX11_copyWorth_108 (by decide) rfl ?_
      exact s_X11_copyWorth_109 C _ _ _ _ _ _  K69 hK69 _ h
    · replace h := Eq.mp (if_neg hq_19) h
      refine f_aload_n C (j := 0) dX11_copyWorth_95 rfl rfl rfl ?_
      obtain ⟨hc_24, h⟩ := h
      refine f_getm C tF_X11_26 rfl o1 cn1_11 hc_24.z dX11_copyWorth_96 rfl ?_
      refine f_getc C tF_X11_270 rfl hc_24.o hc_24.c1 (Nat.succ_ne_zero _) dX11_copyWorth_99 rfl ?_
      refine f_iload_n C (j := 3) dX11_copyWorth_102 rfl rfl rfl ?_
      obtain ⟨hi_25, h⟩ := h
      refine f_iald C (j := tn x3) hc_24.a1 hi_25 rfl dX11_copyWorth_103 rfl ?_
      refine f_i2l C dX11_copyWorth_104 rfl ?_
      refine f_goto C (t := 109) dX11_copyWorth_105 (by decide) ?_
      exact s_X11_copyWorth_109 C _ _ _ _ _ _  K69 hK69 _ h
def w_X11_copyWorth (x1 : Int32) (σ : Sto) (P : Int32 → Sto → Prop) : Prop :=
  w_X10_isTray x1 σ (fun r_2 σ_1 => (if r_2 = 0 then w_X11_refuse 1 σ_1 (fun r_31 σ_30 => P r_31 σ_30) else w_X10_isMissing x1 σ_1 (fun r_5 σ_4 => (if r_5 = 0 then isCity (gr σ_4 1 11) ∧ w_X10_has x1 0 (gi σ_4 (gr σ_4 1 11) 8) σ_4 (fun r_9 σ_8 => (if r_9 = 0 then w_X11_refuse 4 σ_8 (fun r_27 σ_26 => P r_27 σ_26) else w_X6_atPresent σ_8 (fun r_12 σ_11 => Lp (fun (K : Int32 × Sto → Prop) s => w_X11_copyWorth_69 K x1 r_12 s.1 s.2 P) (0, σ_11)))) else w_X11_refuse 3 σ_4 (fun r_29 σ_28 => P r_29 σ_28)))))
theorem s_X11_copyWorth {B : Nat} {E : Nat → List (Nat × Value) → List Value → Sto → Prop} {P : Int32 → Sto → Prop} (C : Cy B E RX11 cX11_copyWorth 4 (some .int) 3 69 (Zm (QFi P))) (x1 : Int32) (σ : Sto) (h : w_X11_copyWorth x1 σ P) : E 0 [(0, .ref (B + 1)), (1, .int x1)] [] σ := by
  unfold w_X11_copyWorth at h
  refine f_aload_n C (j := 0) dX11_copyWorth_0 rfl rfl rfl ?_
  refine f_getc C tF_X11_12 rfl o1 cs1_0 (by decide) dX11_copyWorth_1 rfl ?_
  refine f_iload_n C (j := 1) dX11_copyWorth_4 rfl rfl rfl ?_
  refine f_callVi C (a := 2) (ci := 10) (As := fun B => [.int x1]) o2 rfl (c_X10_isTray  _ _ _ h) tM_X11_155 tI_X10_isTray tS_X10_isTray tN_X10 tC_X10_isTray 1 dd_X10_isTray rfl (by decide) (by decide) rfl (Nat.le_of_ble_eq_true rfl) dX11_copyWorth_5 rfl (fun r_2 σ_1 h => ?_)
  refine f_if_ne C (t := 17) dX11_copyWorth_8 (by decide) rfl (fun hq_3 => ?_) (fun hq_3 => ?_)
  · replace h := Eq.mp (if_neg hq_3) h
    refine f_aload_n C (j := 0) dX11_copyWorth_17 rfl rfl rfl ?_
    refine f_getc C tF_X11_12 rfl o1 cs1_0 (by decide) dX11_copyWorth_18 rfl ?_
    refine f_iload_n C (j := 1) dX11_copyWorth_21 rfl rfl rfl ?_
    refine f_callVi C (a := 2) (ci := 10) (As := fun B => [.int x1]) o2 rfl (c_X10_isMissing  _ _ _ h) tM_X11_185 tI_X10_isMissing tS_X10_isMissing tN_X10 tC_X10_isMissing 1 dd_X10_isMissing rfl (by decide) (by decide) rfl (Nat.le_of_ble_eq_true rfl) dX11_copyWorth_22 rfl (fun r_5 σ_4 h => ?_)
    refine f_if_eq C (t := 34) dX11_copyWorth_25 (by decide) rfl (fun hq_6 => ?_) (fun hq_6 => ?_)
    · replace h := Eq.mp (if_pos hq_6) h
      refine f_aload_n C (j := 0) dX11_copyWorth_34 rfl rfl rfl ?_
      refine f_getc C tF_X11_12 rfl o1 cs1_0 (by decide) dX11_copyWorth_35 rfl ?_
      refine f_iload_n C (j := 1) dX11_copyWorth_38 rfl rfl rfl ?_
      refine f_iconst C (v := 0) dX11_copyWorth_39 kc0 rfl ?_
      refine f_aload_n C (j := 0) dX11_copyWorth_40 rfl rfl rfl ?_
      obtain ⟨hc_7, h⟩ := h
      refine f_getm C tF_X11_26 rfl o1 cn1_11 hc_7.z dX11_copyWorth_41 rfl ?_
      refine f_geti C tF_X11_139 rfl hc_7.o dX11_copyWorth_44 rfl ?_
      refine f_callVi C (a := 2) (ci := 10) (As := fun B => [.int x1, .int 0, .int (gi σ_4 (gr σ_4 1 11) 8)]) o2 rfl (c_X10_has  _ _ _ _ _ h) tM_X11_188 tI_X10_has tS_X10_has tN_X10 tC_X10_has 3 dd_X10_has rfl (by decide) (by decide) rfl (Nat.le_of_ble_eq_true rfl) dX11_copyWorth_47 rfl (fun r_9 σ_8 h => ?_)
      refine f_if_ne C (t := 59) dX11_copyWorth_50 (by decide) rfl (fun hq_10 => ?_) (fun hq_10 => ?_)
      · replace h := Eq.mp (if_neg hq_10) h
        refine f_aload_n C (j := 0) dX11_copyWorth_59 rfl rfl rfl ?_
        refine f_getc C tF_X11_58 rfl o1 cs1_4 (by decide) dX11_copyWorth_60 rfl ?_
        refine f_callVi C (a := 88) (ci := 6) (As := fun B => []) o88 rfl (c_X6_atPresent   _ _ h) tM_X11_242 tI_X6_atPresent tS_X6_atPresent tN_X6 tC_X6_atPresent 0 dd_X6_atPresent rfl (by decide) (by decide) rfl (Nat.le_of_ble_eq_true rfl) dX11_copyWorth_63 rfl (fun r_12 σ_11 h => ?_)
        refine f_istore_n C (lv2 := [(2, .int r_12), (0, .ref (B + 1)), (1, .int x1)]) dX11_copyWorth_66 rfl (by decide) rfl rfl ?_
        refine f_iconst C (v := 0) dX11_copyWorth_67 kc0 rfl ?_
        refine f_istore_n C (lv2 := [(3, .int 0), (2, .int r_12), (0, .ref (B + 1)), (1, .int x1)]) dX11_copyWorth_68 rfl (by decide) rfl rfl ?_
        refine f_lv C (lv2 := [(0, .ref (B + 1)), (1, .int x1), (2, .int r_12), (3, .int 0)]) [2, 3, 1, 0] rfl ?_
        exact Lp_sound (fun s : Int32 × Sto => E 69 [(0, .ref (B + 1)), (1, .int x1), (2, .int r_12), (3, .int s.1)] [] s.2) h (fun K s hK h => s_X11_copyWorth_69 C x1 r_12 s.1 K (fun x3 σ hk => hK (x3, σ) hk) s.2 h)
      · replace h := Eq.mp (if_pos hq_10) h
        refine f_aload_n C (j := 0) dX11_copyWorth_53 rfl rfl rfl ?_
        refine f_iconst C (v := 4) dX11_copyWorth_54 kc4 rfl ?_
        refine f_callVi C (a := 1) (ci := 11) (As := fun B => [.int 4]) o1 rfl (c_X11_refuse  _ _ _ h) tM_X11_126 tI_X11_refuse tS_X11_refuse tN_X11 tC_X11_refuse 1 dd_X11_refuse rfl (by decide) (by decide) rfl (Nat.le_of_ble_eq_true rfl) dX11_copyWorth_55 rfl (fun r_27 σ_26 h => ?_)
        exact f_iret C dX11_copyWorth_58 h
    · replace h := Eq.mp (if_neg hq_6) h
      refine f_aload_n C (j := 0) dX11_copyWorth_28 rfl rfl rfl ?_
      refine f_iconst C (v := 3) dX11_copyWorth_29 kc3 rfl ?_
      refine f_callVi C (a := 1) (ci := 11) (As := fun B => [.int 3]) o1 rfl (c_X11_refuse  _ _ _ h) tM_X11_126 tI_X11_refuse tS_X11_refuse tN_X11 tC_X11_refuse 1 dd_X11_refuse rfl (by decide) (by decide) rfl (Nat.le_of_ble_eq_true rfl) dX11_copyWorth_30 rfl (fun r_29 σ_28 h => ?_)
      exact f_iret C dX11_copyWorth_33 h
  · replace h := Eq.mp (if_pos hq_3) h
    refine f_aload_n C (j := 0) dX11_copyWorth_11 rfl rfl rfl ?_
    refine f_iconst C (v := 1) dX11_copyWorth_12 kc1 rfl ?_
    refine f_callVi C (a := 1) (ci := 11) (As := fun B => [.int 1]) o1 rfl (c_X11_refuse  _ _ _ h) tM_X11_126 tI_X11_refuse tS_X11_refuse tN_X11 tC_X11_refuse 1 dd_X11_refuse rfl (by decide) (by decide) rfl (Nat.le_of_ble_eq_true rfl) dX11_copyWorth_13 rfl (fun r_31 σ_30 h => ?_)
    exact f_iret C dX11_copyWorth_16 h
theorem c_X11_copyWorth (x1 : Int32) (σ : Sto) (P : Int32 → Sto → Prop) (h : w_X11_copyWorth x1 σ P) : Ct yX11_copyWorth cX11_copyWorth 4 (some .int) 3 69 (fun B => [.ref (B + 1), .int x1]) σ (QFi P) := Ct.of (by decide) (fun _ => Nat.le_of_ble_eq_true rfl) (fun B E C => s_X11_copyWorth C x1 σ h)
def w_X11_year_11 (σ : Sto) (P : Int32 → Sto → Prop) : Prop :=
  w_X11_refuse 5 σ (fun r_3 σ_2 => P r_3 σ_2)
theorem s_X11_year_11 {B : Nat} {E : Nat → List (Nat × Value) → List Value → Sto → Prop} {P : Int32 → Sto → Prop} (C : Cy B E RX11 cX11_year 4 (some .int) 3 77 (Zm (QFi P))) (σ : Sto) (h : w_X11_year_11 σ P) : E 11 [(0, .ref (B + 1))] [] σ := by
  unfold w_X11_year_11 at h
  refine f_aload_n C (j := 0) dX11_year_11 rfl rfl rfl ?_
  refine f_iconst C (v := 5) dX11_year_12 kc5 rfl ?_
  refine f_callVi C (a := 1) (ci := 11) (As := fun B => [.int 5]) o1 rfl (c_X11_refuse  _ _ _ h) tM_X11_126 tI_X11_refuse tS_X11_refuse tN_X11 tC_X11_refuse 1 dd_X11_refuse rfl (by decide) (by decide) rfl (Nat.le_of_ble_eq_true rfl) dX11_year_13 rfl (fun r_3 σ_2 h => ?_)
  exact f_iret C dX11_year_16 h
def w_X11_year_49 (K49 : Int32 × Sto → Prop) (x1 : Int32) (x2 : Int32) (x3 : Int32) (σ : Sto) (P : Int32 → Sto → Prop) : Prop :=
  (if x1 ≤ x3 then isCity (gr σ 1 11) ∧ ∀ σ_11 : Sto, σ_11 = si σ (gr σ 1 11) 13 ((gi σ (gr σ 1 11) 13) + x1) → isCity (gr σ_11 1 11) ∧ w_X11_fine ((gi σ_11 (gr σ_11 1 11) 14) &&& (~~~x2)) σ_11 (fun r_15 σ_14 => P r_15 σ_14) else isCity (gr σ 1 11) ∧ w_X0_goneNextYear (gi σ (gr σ 1 11) 14) (gi σ (gr σ 1 11) 15) σ (fun r_18 σ_17 => ∀ x3_19 : Int32, x3_19 = x3 + 1 → K49 (x3_19, si σ_17 (gr σ 1 11) 14 r_18)))
theorem s_X11_year_49 {B : Nat} {E : Nat → List (Nat × Value) → List Value → Sto → Prop} {P : Int32 → Sto → Prop} (C : Cy B E RX11 cX11_year 4 (some .int) 3 77 (Zm (QFi P))) (x1 : Int32) (x2 : Int32) (x3 : Int32) (K49 : Int32 × Sto → Prop) (hK49 : ∀ (x3 : Int32) (σ : Sto), K49 (x3, σ) → E 49 [(0, .ref (B + 1)), (1, .int x1), (2, .int x2), (3, .int x3)] [] σ) (σ : Sto) (h : w_X11_year_49 K49 x1 x2 x3 σ P) : E 49 [(0, .ref (B + 1)), (1, .int x1), (2, .int x2), (3, .int x3)] [] σ := by
  unfold w_X11_year_49 at h
  refine f_iload_n C (j := 3) dX11_year_49 rfl rfl rfl ?_
  refine f_iload_n C (j := 1) dX11_year_50 rfl rfl rfl ?_
  refine f_icmp_ge C (t := 88) dX11_year_51 (by decide) rfl (fun hq_9 => ?_) (fun hq_9 => ?_)
  · replace h := Eq.mp (if_pos hq_9) h
    refine f_aload_n C (j := 0) dX11_year_88 rfl rfl rfl ?_
    obtain ⟨hc_10, h⟩ := h
    refine f_getm C tF_X11_26 rfl o1 cn1_11 hc_10.z dX11_year_89 rfl ?_
    refine f_dup C dX11_year_92 rfl rfl ?_
    refine f_geti C tF_X11_252 rfl hc_10.o dX11_year_93 rfl ?_
    refine f_iload_n C (j := 1) dX11_year_96 rfl rfl rfl ?_
    refine f_iadd C dX11_year_97 rfl ?_
    refine f_puti C tF_X11_252 fm_1_13 rfl hc_10.o dX11_year_98 rfl ?_
    refine f_aload_n C (j := 0) dX11_year_101 rfl rfl rfl ?_
    refine f_aload_n C (j := 0) dX11_year_102 rfl rfl rfl ?_
    refine f_names (fun σ_11 hσ_12 => ?_)
    replace h := h σ_11 hσ_12
    obtain ⟨hc_13, h⟩ := h
    refine f_getm C tF_X11_26 rfl o1 cn1_11 hc_13.z dX11_year_103 rfl ?_
    refine f_geti C tF_X11_255 rfl hc_13.o dX11_year_106 rfl ?_
    refine f_iload_n C (j := 2) dX11_year_109 rfl rfl rfl ?_
    refine f_iconst C (v := (-1)) dX11_year_110 kcm1 rfl ?_
    refine f_inot C dX11_year_111 rfl ?_
    refine f_iand C dX11_year_112 rfl ?_
    refine f_callVi C (a := 1) (ci := 11) (As := fun B => [.int ((gi σ_11 (gr σ_11 1 11) 14) &&& (~~~x2))]) o1 rfl (c_X11_fine  _ _ _ h) tM_X11_130 tI_X11_fine tS_X11_fine tN_X11 tC_X11_fine 1 dd_X11_fine rfl (by decide) (by decide) rfl (Nat.le_of_ble_eq_true rfl) dX11_year_113 rfl (fun r_15 σ_14 h => ?_)
    exact f_iret C dX11_year_116 h
  · replace h := Eq.mp (if_neg hq_9) h
    refine f_aload_n C (j := 0) dX11_year_54 rfl rfl rfl ?_
    obtain ⟨hc_16, h⟩ := h
    refine f_getm C tF_X11_26 rfl o1 cn1_11 hc_16.z dX11_year_55 rfl ?_
    refine f_aload_n C (j := 0) dX11_year_58 rfl rfl rfl ?_
    refine f_getc C tF_X11_67 rfl o1 cs1_5 (by decide) dX11_year_59 rfl ?_
    refine f_aload_n C (j := 0) dX11_year_62 rfl rfl rfl ?_
    refine f_getm C tF_X11_26 rfl o1 cn1_11 hc_16.z dX11_year_63 rfl ?_
    refine f_geti C tF_X11_255 rfl hc_16.o dX11_year_66 rfl ?_
    refine f_aload_n C (j := 0) dX11_year_69 rfl rfl rfl ?_
    refine f_getm C tF_X11_26 rfl o1 cn1_11 hc_16.z dX11_year_70 rfl ?_
    refine f_geti C tF_X11_258 rfl hc_16.o dX11_year_73 rfl ?_
    refine f_callVi C (a := 90) (ci := 0) (As := fun B => [.int (gi σ (gr σ 1 11) 14), .int (gi σ (gr σ 1 11) 15)]) o90 rfl (c_X0_goneNextYear  _ _ _ _ h) tM_X11_300 tI_X0_goneNextYear tS_X0_goneNextYear tN_X0 tC_X0_goneNextYear 2 dd_X0_goneNextYear rfl (by decide) (by decide) rfl (Nat.le_of_ble_eq_true rfl) dX11_year_76 rfl (fun r_18 σ_17 h => ?_)
    refine f_puti C tF_X11_255 fm_1_14 rfl hc_16.o dX11_year_79 rfl ?_
    obtain ⟨x3_19, hx_20⟩ : ∃ y : Int32, y = x3 + 1 := ⟨_, rfl⟩
    replace h := h x3_19 hx_20
    refine f_iinc C (j := 3) (v := x3_19) (lv2 := [(3, .int x3_19), (0, .ref (B + 1)), (1, .int x1), (2, .int x2)]) dX11_year_82 rfl hx_20.symm (by decide) rfl rfl ?_
    refine f_goto C (t := 49) dX11_year_85 (by decide) ?_
    refine f_lv C (lv2 := [(0, .ref (B + 1)), (1, .int x1), (2, .int x2), (3, .int x3_19)]) [1, 2, 3, 0] rfl ?_
    exact hK49 _ _ h
def w_X11_year (x1 : Int32) (σ : Sto) (P : Int32 → Sto → Prop) : Prop :=
  (if x1 < 1 then w_X11_year_11 σ P else (if x1 ≤ 99 then isCity (gr σ 1 11) ∧ (if ((gi σ (gr σ 1 11) 13) + x1) ≤ 9999 then ∀ x2_7 : Int32, x2_7 = gi σ (gr σ 1 11) 14 → Lp (fun (K : Int32 × Sto → Prop) s => w_X11_year_49 K x1 x2_7 s.1 s.2 P) (0, σ) else w_X11_refuse 7 σ (fun r_22 σ_21 => P r_22 σ_21)) else w_X11_year_11 σ P))
theorem s_X11_year {B : Nat} {E : Nat → List (Nat × Value) → List Value → Sto → Prop} {P : Int32 → Sto → Prop} (C : Cy B E RX11 cX11_year 4 (some .int) 3 77 (Zm (QFi P))) (x1 : Int32) (σ : Sto) (h : w_X11_year x1 σ P) : E 0 [(0, .ref (B + 1)), (1, .int x1)] [] σ := by
  unfold w_X11_year at h
  refine f_iload_n C (j := 1) dX11_year_0 rfl rfl rfl ?_
  refine f_iconst C (v := 1) dX11_year_1 kc1 rfl ?_
  refine f_icmp_lt C (t := 11) dX11_year_2 (by decide) rfl (fun hq_1 => ?_) (fun hq_1 => ?_)
  · replace h := Eq.mp (if_pos hq_1) h
    refine f_lv C (lv2 := [(0, .ref (B + 1))]) [0] rfl ?_
    exact s_X11_year_11 C  _ h
  · replace h := Eq.mp (if_neg hq_1) h
    refine f_iload_n C (j := 1) dX11_year_5 rfl rfl rfl ?_
    refine f_bipush C (v := 99) dX11_year_6 kb99 rfl ?_
    refine f_icmp_le C (t := 17) dX11_year_8 (by decide) rfl (fun hq_4 => ?_) (fun hq_4 => ?_)
    · replace h := Eq.mp (if_pos hq_4) h
      refine f_aload_n C (j := 0) dX11_year_17 rfl rfl rfl ?_
      obtain ⟨hc_5, h⟩ := h
      refine f_getm C tF_X11_26 rfl o1 cn1_11 hc_5.z dX11_year_18 rfl ?_
      refine f_geti C tF_X11_252 rfl hc_5.o dX11_year_21 rfl ?_
      refine f_iload_n C (j := 1) dX11_year_24 rfl rfl rfl ?_
      refine f_iadd C dX11_year_25 rfl ?_
      refine f_sipush C (v := 9999) dX11_year_26 ks9999 rfl ?_
      refine f_icmp_le C (t := 39) dX11_year_29 (by decide) rfl (fun hq_6 => ?_) (fun hq_6 => ?_)
      · replace h := Eq.mp (if_pos hq_6) h
        refine f_aload_n C (j := 0) dX11_year_39 rfl rfl rfl ?_
        refine f_getm C tF_X11_26 rfl o1 cn1_11 hc_5.z dX11_year_40 rfl ?_
        refine f_geti C tF_X11_255 rfl hc_5.o dX11_year_43 rfl ?_
        refine f_name (fun x2_7 hx_8 => ?_)
        replace h := h x2_7 hx_8
        refine f_istore_n C (lv2 := [(2, .int x2_7), (0, .ref (B + 1)), (1, .int x1)]) dX11_year_46 rfl (by decide) rfl rfl ?_
        refine f_iconst C (v := 0) dX11_year_47 kc0 rfl ?_
        refine f_istore_n C (lv2 := [(3, .int 0), (2, .int x2_7), (0, .ref (B + 1)), (1, .int x1)]) dX11_year_48 rfl (by decide) rfl rfl ?_
        refine f_lv C (lv2 := [(0, .ref (B + 1)), (1, .int x1), (2, .int x2_7), (3, .int 0)]) [2, 3, 1, 0] rfl ?_
        exact Lp_sound (fun s : Int32 × Sto => E 49 [(0, .ref (B + 1)), (1, .int x1), (2, .int x2_7), (3, .int s.1)] [] s.2) h (fun K s hK h => s_X11_year_49 C x1 x2_7 s.1 K (fun x3 σ hk => hK (x3, σ) hk) s.2 h)
      · replace h := Eq.mp (if_neg hq_6) h
        refine f_aload_n C (j := 0) dX11_year_32 rfl rfl rfl ?_
        refine f_bipush C (v := 7) dX11_year_33 kb7 rfl ?_
        refine f_callVi C (a := 1) (ci := 11) (As := fun B => [.int 7]) o1 rfl (c_X11_refuse  _ _ _ h) tM_X11_126 tI_X11_refuse tS_X11_refuse tN_X11 tC_X11_refuse 1 dd_X11_refuse rfl (by decide) (by decide) rfl (Nat.le_of_ble_eq_true rfl) dX11_year_35 rfl (fun r_22 σ_21 h => ?_)
        exact f_iret C dX11_year_38 h
    · replace h := Eq.mp (if_neg hq_4) h
      refine f_lv C (lv2 := [(0, .ref (B + 1))]) [0] rfl ?_
      exact s_X11_year_11 C  _ h
theorem c_X11_year (x1 : Int32) (σ : Sto) (P : Int32 → Sto → Prop) (h : w_X11_year x1 σ P) : Ct yX11_year cX11_year 4 (some .int) 3 77 (fun B => [.ref (B + 1), .int x1]) σ (QFi P) := Ct.of (by decide) (fun _ => Nat.le_of_ble_eq_true rfl) (fun B E C => s_X11_year C x1 σ h)
def w_X11_unmake (x1 : Int32) (σ : Sto) (P : Int32 → Sto → Prop) : Prop :=
  w_X11_noThing x1 σ (fun r_2 σ_1 => (if r_2 = 0 then isCity (gr σ_1 1 11) ∧ w_X11_isOneOf x1 ((gi σ_1 (gr σ_1 1 11) 14) ||| (gi σ_1 (gr σ_1 1 11) 15)) σ_1 (fun r_6 σ_5 => (if r_6 = 0 then w_X6_atPresent σ_5 (fun r_9 σ_8 => isCity (gr σ_8 1 11) ∧ w_X6_atPresent (si σ_8 (gr σ_8 1 11) 14 ((gi σ_8 (gr σ_8 1 11) 14) ||| (1 <<< (x1 &&& 31)))) (fun r_12 σ_11 => w_X11_fine (r_9 &&& (~~~r_12)) σ_11 (fun r_14 σ_13 => P r_14 σ_13))) else w_X11_refuse 9 σ_5 (fun r_16 σ_15 => P r_16 σ_15))) else w_X11_refuse 2 σ_1 (fun r_18 σ_17 => P r_18 σ_17)))
theorem s_X11_unmake {B : Nat} {E : Nat → List (Nat × Value) → List Value → Sto → Prop} {P : Int32 → Sto → Prop} (C : Cy B E RX11 cX11_unmake 3 (some .int) 3 69 (Zm (QFi P))) (x1 : Int32) (σ : Sto) (h : w_X11_unmake x1 σ P) : E 0 [(0, .ref (B + 1)), (1, .int x1)] [] σ := by
  unfold w_X11_unmake at h
  refine f_aload_n C (j := 0) dX11_unmake_0 rfl rfl rfl ?_
  refine f_iload_n C (j := 1) dX11_unmake_1 rfl rfl rfl ?_
  refine f_callVi C (a := 1) (ci := 11) (As := fun B => [.int x1]) o1 rfl (c_X11_noThing  _ _ _ h) tM_X11_267 tI_X11_noThing tS_X11_noThing tN_X11 tC_X11_noThing 1 dd_X11_noThing rfl (by decide) (by decide) rfl (Nat.le_of_ble_eq_true rfl) dX11_unmake_2 rfl (fun r_2 σ_1 h => ?_)
  refine f_if_eq C (t := 14) dX11_unmake_5 (by decide) rfl (fun hq_3 => ?_) (fun hq_3 => ?_)
  · replace h := Eq.mp (if_pos hq_3) h
    refine f_aload_n C (j := 0) dX11_unmake_14 rfl rfl rfl ?_
    refine f_iload_n C (j := 1) dX11_unmake_15 rfl rfl rfl ?_
    refine f_aload_n C (j := 0) dX11_unmake_16 rfl rfl rfl ?_
    obtain ⟨hc_4, h⟩ := h
    refine f_getm C tF_X11_26 rfl o1 cn1_11 hc_4.z dX11_unmake_17 rfl ?_
    refine f_geti C tF_X11_255 rfl hc_4.o dX11_unmake_20 rfl ?_
    refine f_aload_n C (j := 0) dX11_unmake_23 rfl rfl rfl ?_
    refine f_getm C tF_X11_26 rfl o1 cn1_11 hc_4.z dX11_unmake_24 rfl ?_
    refine f_geti C tF_X11_258 rfl hc_4.o dX11_unmake_27 rfl ?_
    refine f_ior C dX11_unmake_30 rfl ?_
    refine f_callVi C (a := 1) (ci := 11) (As := fun B => [.int x1, .int ((gi σ_1 (gr σ_1 1 11) 14) ||| (gi σ_1 (gr σ_1 1 11) 15))]) o1 rfl (c_X11_isOneOf  _ _ _ _ h) tM_X11_297 tI_X11_isOneOf tS_X11_isOneOf tN_X11 tC_X11_isOneOf 2 dd_X11_isOneOf rfl (by decide) (by decide) rfl (Nat.le_of_ble_eq_true rfl) dX11_unmake_31 rfl (fun r_6 σ_5 h => ?_)
    refine f_if_eq C (t := 44) dX11_unmake_34 (by decide) rfl (fun hq_7 => ?_) (fun hq_7 => ?_)
    · replace h := Eq.mp (if_pos hq_7) h
      refine f_aload_n C (j := 0) dX11_unmake_44 rfl rfl rfl ?_
      refine f_getc C tF_X11_58 rfl o1 cs1_4 (by decide) dX11_unmake_45 rfl ?_
      refine f_callVi C (a := 88) (ci := 6) (As := fun B => []) o88 rfl (c_X6_atPresent   _ _ h) tM_X11_242 tI_X6_atPresent tS_X6_atPresent tN_X6 tC_X6_atPresent 0 dd_X6_atPresent rfl (by decide) (by decide) rfl (Nat.le_of_ble_eq_true rfl) dX11_unmake_48 rfl (fun r_9 σ_8 h => ?_)
      refine f_istore_n C (lv2 := [(2, .int r_9), (0, .ref (B + 1)), (1, .int x1)]) dX11_unmake_51 rfl (by decide) rfl rfl ?_
      refine f_aload_n C (j := 1) dX11_unmake_52 rfl rfl rfl ?_
      obtain ⟨hc_10, h⟩ := h
      refine f_getm C tF_X11_26 rfl o1 cn1_11 hc_10.z dX11_unmake_53 rfl ?_
      refine f_dup C dX11_unmake_56 rfl rfl ?_
      refine f_geti C tF_X11_255 rfl hc_10.o dX11_unmake_57 rfl ?_
      refine f_iconst C (v := 1) dX11_unmake_60 kc1 rfl ?_
      refine f_iload_n C (j := 2) dX11_unmake_61 rfl rfl rfl ?_
      refine f_ishl C dX11_unmake_62 rfl ?_
      refine f_ior C dX11_unmake_63 rfl ?_
      refine f_puti C tF_X11_255 fm_1_14 rfl hc_10.o dX11_unmake_64 rfl ?_
      refine f_aload_n C (j := 1) dX11_unmake_67 rfl rfl rfl ?_
      refine f_iload_n C (j := 0) dX11_unmake_68 rfl rfl rfl ?_
      refine f_aload_n C (j := 1) dX11_unmake_69 rfl rfl rfl ?_
      refine f_getc C tF_X11_58 rfl o1 cs1_4 (by decide) dX11_unmake_70 rfl ?_
      refine f_callVi C (a := 88) (ci := 6) (As := fun B => []) o88 rfl (c_X6_atPresent   _ _ h) tM_X11_242 tI_X6_atPresent tS_X6_atPresent tN_X6 tC_X6_atPresent 0 dd_X6_atPresent rfl (by decide) (by decide) rfl (Nat.le_of_ble_eq_true rfl) dX11_unmake_73 rfl (fun r_12 σ_11 h => ?_)
      refine f_iconst C (v := (-1)) dX11_unmake_76 kcm1 rfl ?_
      refine f_inot C dX11_unmake_77 rfl ?_
      refine f_iand C dX11_unmake_78 rfl ?_
      refine f_callVi C (a := 1) (ci := 11) (As := fun B => [.int (r_9 &&& (~~~r_12))]) o1 rfl (c_X11_fine  _ _ _ h) tM_X11_130 tI_X11_fine tS_X11_fine tN_X11 tC_X11_fine 1 dd_X11_fine rfl (by decide) (by decide) rfl (Nat.le_of_ble_eq_true rfl) dX11_unmake_79 rfl (fun r_14 σ_13 h => ?_)
      exact f_iret C dX11_unmake_82 h
    · replace h := Eq.mp (if_neg hq_7) h
      refine f_aload_n C (j := 0) dX11_unmake_37 rfl rfl rfl ?_
      refine f_bipush C (v := 9) dX11_unmake_38 kb9 rfl ?_
      refine f_callVi C (a := 1) (ci := 11) (As := fun B => [.int 9]) o1 rfl (c_X11_refuse  _ _ _ h) tM_X11_126 tI_X11_refuse tS_X11_refuse tN_X11 tC_X11_refuse 1 dd_X11_refuse rfl (by decide) (by decide) rfl (Nat.le_of_ble_eq_true rfl) dX11_unmake_40 rfl (fun r_16 σ_15 h => ?_)
      exact f_iret C dX11_unmake_43 h
  · replace h := Eq.mp (if_neg hq_3) h
    refine f_aload_n C (j := 0) dX11_unmake_8 rfl rfl rfl ?_
    refine f_iconst C (v := 2) dX11_unmake_9 kc2 rfl ?_
    refine f_callVi C (a := 1) (ci := 11) (As := fun B => [.int 2]) o1 rfl (c_X11_refuse  _ _ _ h) tM_X11_126 tI_X11_refuse tS_X11_refuse tN_X11 tC_X11_refuse 1 dd_X11_refuse rfl (by decide) (by decide) rfl (Nat.le_of_ble_eq_true rfl) dX11_unmake_10 rfl (fun r_18 σ_17 h => ?_)
    exact f_iret C dX11_unmake_13 h
theorem c_X11_unmake (x1 : Int32) (σ : Sto) (P : Int32 → Sto → Prop) (h : w_X11_unmake x1 σ P) : Ct yX11_unmake cX11_unmake 3 (some .int) 3 69 (fun B => [.ref (B + 1), .int x1]) σ (QFi P) := Ct.of (by decide) (fun _ => Nat.le_of_ble_eq_true rfl) (fun B E C => s_X11_unmake C x1 σ h)
def w_X11_remake (x1 : Int32) (σ : Sto) (P : Int32 → Sto → Prop) : Prop :=
  w_X11_noThing x1 σ (fun r_2 σ_1 => (if r_2 = 0 then isCity (gr σ_1 1 11) ∧ w_X11_isOneOf x1 (gi σ_1 (gr σ_1 1 11) 14) σ_1 (fun r_6 σ_5 => (if r_6 = 0 then w_X11_refuse 9 σ_5 (fun r_16 σ_15 => P r_16 σ_15) else w_X6_atPresent σ_5 (fun r_9 σ_8 => isCity (gr σ_8 1 11) ∧ w_X6_atPresent (si σ_8 (gr σ_8 1 11) 14 ((gi σ_8 (gr σ_8 1 11) 14) &&& (~~~(1 <<< (x1 &&& 31))))) (fun r_12 σ_11 => w_X11_fine (r_12 &&& (~~~r_9)) σ_11 (fun r_14 σ_13 => P r_14 σ_13))))) else w_X11_refuse 2 σ_1 (fun r_18 σ_17 => P r_18 σ_17)))
theorem s_X11_remake {B : Nat} {E : Nat → List (Nat × Value) → List Value → Sto → Prop} {P : Int32 → Sto → Prop} (C : Cy B E RX11 cX11_remake 3 (some .int) 3 69 (Zm (QFi P))) (x1 : Int32) (σ : Sto) (h : w_X11_remake x1 σ P) : E 0 [(0, .ref (B + 1)), (1, .int x1)] [] σ := by
  unfold w_X11_remake at h
  refine f_aload_n C (j := 0) dX11_remake_0 rfl rfl rfl ?_
  refine f_iload_n C (j := 1) dX11_remake_1 rfl rfl rfl ?_
  refine f_callVi C (a := 1) (ci := 11) (As := fun B => [.int x1]) o1 rfl (c_X11_noThing  _ _ _ h) tM_X11_267 tI_X11_noThing tS_X11_noThing tN_X11 tC_X11_noThing 1 dd_X11_noThing rfl (by decide) (by decide) rfl (Nat.le_of_ble_eq_true rfl) dX11_remake_2 rfl (fun r_2 σ_1 h => ?_)
  refine f_if_eq C (t := 14) dX11_remake_5 (by decide) rfl (fun hq_3 => ?_) (fun hq_3 => ?_)
  · replace h := Eq.mp (if_pos hq_3) h
    refine f_aload_n C (j := 0) dX11_remake_14 rfl rfl rfl ?_
    refine f_iload_n C (j := 1) dX11_remake_15 rfl rfl rfl ?_
    refine f_aload_n C (j := 0) dX11_remake_16 rfl rfl rfl ?_
    obtain ⟨hc_4, h⟩ := h
    refine f_getm C tF_X11_26 rfl o1 cn1_11 hc_4.z dX11_remake_17 rfl ?_
    refine f_geti C tF_X11_255 rfl hc_4.o dX11_remake_20 rfl ?_
    refine f_callVi C (a := 1) (ci := 11) (As := fun B => [.int x1, .int (gi σ_1 (gr σ_1 1 11) 14)]) o1 rfl (c_X11_isOneOf  _ _ _ _ h) tM_X11_297 tI_X11_isOneOf tS_X11_isOneOf tN_X11 tC_X11_isOneOf 2 dd_X11_isOneOf rfl (by decide) (by decide) rfl (Nat.le_of_ble_eq_true rfl) dX11_remake_23 rfl (fun r_6 σ_5 h => ?_)
    refine f_if_ne C (t := 36) dX11_remake_26 (by decide) rfl (fun hq_7 => ?_) (fun hq_7 => ?_)
    · replace h := Eq.mp (if_neg hq_7) h
      refine f_aload_n C (j := 0) dX11_remake_36 rfl rfl rfl ?_
      refine f_getc C tF_X11_58 rfl o1 cs1_4 (by decide) dX11_remake_37 rfl ?_
      refine f_callVi C (a := 88) (ci := 6) (As := fun B => []) o88 rfl (c_X6_atPresent   _ _ h) tM_X11_242 tI_X6_atPresent tS_X6_atPresent tN_X6 tC_X6_atPresent 0 dd_X6_atPresent rfl (by decide) (by decide) rfl (Nat.le_of_ble_eq_true rfl) dX11_remake_40 rfl (fun r_9 σ_8 h => ?_)
      refine f_istore_n C (lv2 := [(2, .int r_9), (0, .ref (B + 1)), (1, .int x1)]) dX11_remake_43 rfl (by decide) rfl rfl ?_
      refine f_aload_n C (j := 1) dX11_remake_44 rfl rfl rfl ?_
      obtain ⟨hc_10, h⟩ := h
      refine f_getm C tF_X11_26 rfl o1 cn1_11 hc_10.z dX11_remake_45 rfl ?_
      refine f_dup C dX11_remake_48 rfl rfl ?_
      refine f_geti C tF_X11_255 rfl hc_10.o dX11_remake_49 rfl ?_
      refine f_iconst C (v := 1) dX11_remake_52 kc1 rfl ?_
      refine f_iload_n C (j := 2) dX11_remake_53 rfl rfl rfl ?_
      refine f_ishl C dX11_remake_54 rfl ?_
      refine f_iconst C (v := (-1)) dX11_remake_55 kcm1 rfl ?_
      refine f_inot C dX11_remake_56 rfl ?_
      refine f_iand C dX11_remake_57 rfl ?_
      refine f_puti C tF_X11_255 fm_1_14 rfl hc_10.o dX11_remake_58 rfl ?_
      refine f_aload_n C (j := 1) dX11_remake_61 rfl rfl rfl ?_
      refine f_aload_n C (j := 1) dX11_remake_62 rfl rfl rfl ?_
      refine f_getc C tF_X11_58 rfl o1 cs1_4 (by decide) dX11_remake_63 rfl ?_
      refine f_callVi C (a := 88) (ci := 6) (As := fun B => []) o88 rfl (c_X6_atPresent   _ _ h) tM_X11_242 tI_X6_atPresent tS_X6_atPresent tN_X6 tC_X6_atPresent 0 dd_X6_atPresent rfl (by decide) (by decide) rfl (Nat.le_of_ble_eq_true rfl) dX11_remake_66 rfl (fun r_12 σ_11 h => ?_)
      refine f_iload_n C (j := 0) dX11_remake_69 rfl rfl rfl ?_
      refine f_iconst C (v := (-1)) dX11_remake_70 kcm1 rfl ?_
      refine f_inot C dX11_remake_71 rfl ?_
      refine f_iand C dX11_remake_72 rfl ?_
      refine f_callVi C (a := 1) (ci := 11) (As := fun B => [.int (r_12 &&& (~~~r_9))]) o1 rfl (c_X11_fine  _ _ _ h) tM_X11_130 tI_X11_fine tS_X11_fine tN_X11 tC_X11_fine 1 dd_X11_fine rfl (by decide) (by decide) rfl (Nat.le_of_ble_eq_true rfl) dX11_remake_73 rfl (fun r_14 σ_13 h => ?_)
      exact f_iret C dX11_remake_76 h
    · replace h := Eq.mp (if_pos hq_7) h
      refine f_aload_n C (j := 0) dX11_remake_29 rfl rfl rfl ?_
      refine f_bipush C (v := 9) dX11_remake_30 kb9 rfl ?_
      refine f_callVi C (a := 1) (ci := 11) (As := fun B => [.int 9]) o1 rfl (c_X11_refuse  _ _ _ h) tM_X11_126 tI_X11_refuse tS_X11_refuse tN_X11 tC_X11_refuse 1 dd_X11_refuse rfl (by decide) (by decide) rfl (Nat.le_of_ble_eq_true rfl) dX11_remake_32 rfl (fun r_16 σ_15 h => ?_)
      exact f_iret C dX11_remake_35 h
  · replace h := Eq.mp (if_neg hq_3) h
    refine f_aload_n C (j := 0) dX11_remake_8 rfl rfl rfl ?_
    refine f_iconst C (v := 2) dX11_remake_9 kc2 rfl ?_
    refine f_callVi C (a := 1) (ci := 11) (As := fun B => [.int 2]) o1 rfl (c_X11_refuse  _ _ _ h) tM_X11_126 tI_X11_refuse tS_X11_refuse tN_X11 tC_X11_refuse 1 dd_X11_refuse rfl (by decide) (by decide) rfl (Nat.le_of_ble_eq_true rfl) dX11_remake_10 rfl (fun r_18 σ_17 h => ?_)
    exact f_iret C dX11_remake_13 h
theorem c_X11_remake (x1 : Int32) (σ : Sto) (P : Int32 → Sto → Prop) (h : w_X11_remake x1 σ P) : Ct yX11_remake cX11_remake 3 (some .int) 3 69 (fun B => [.ref (B + 1), .int x1]) σ (QFi P) := Ct.of (by decide) (fun _ => Nat.le_of_ble_eq_true rfl) (fun B E C => s_X11_remake C x1 σ h)
def w_X11_exempt (x1 : Int32) (x2 : Int32) (σ : Sto) (P : Int32 → Sto → Prop) : Prop :=
  w_X11_noThing x1 σ (fun r_2 σ_1 => (if r_2 = 0 then isCity (gr σ_1 1 11) ∧ w_X11_isOneOf x1 (gi σ_1 (gr σ_1 1 11) 15) σ_1 (fun r_6 σ_5 => (if r_6 = x2 then w_X11_refuseSo 9 σ_5 (fun r_13 σ_12 => (r_13 = 0 ∨ r_13 = 1) ∧ P r_13 σ_12) else isCity (gr σ_5 1 11) ∧ w_X11_fineSo (si σ_5 (gr σ_5 1 11) 15 ((gi σ_5 (gr σ_5 1 11) 15) ^^^ (1 <<< (x1 &&& 31)))) (fun r_10 σ_9 => (r_10 = 0 ∨ r_10 = 1) ∧ P r_10 σ_9))) else w_X11_refuseSo 2 σ_1 (fun r_16 σ_15 => (r_16 = 0 ∨ r_16 = 1) ∧ P r_16 σ_15)))
theorem s_X11_exempt {B : Nat} {E : Nat → List (Nat × Value) → List Value → Sto → Prop} {P : Int32 → Sto → Prop} (C : Cy B E RX11 cX11_exempt 3 (some .boolean) 1 22 (Zm (QFi P))) (x1 : Int32) (x2 : Int32) (σ : Sto) (h : w_X11_exempt x1 x2 σ P) : E 0 [(0, .ref (B + 1)), (1, .int x1), (2, .int x2)] [] σ := by
  unfold w_X11_exempt at h
  refine f_aload_n C (j := 0) dX11_exempt_0 rfl rfl rfl ?_
  refine f_iload_n C (j := 1) dX11_exempt_1 rfl rfl rfl ?_
  refine f_callVi C (a := 1) (ci := 11) (As := fun B => [.int x1]) o1 rfl (c_X11_noThing  _ _ _ h) tM_X11_267 tI_X11_noThing tS_X11_noThing tN_X11 tC_X11_noThing 1 dd_X11_noThing rfl (by decide) (by decide) rfl (Nat.le_of_ble_eq_true rfl) dX11_exempt_2 rfl (fun r_2 σ_1 h => ?_)
  refine f_if_eq C (t := 14) dX11_exempt_5 (by decide) rfl (fun hq_3 => ?_) (fun hq_3 => ?_)
  · replace h := Eq.mp (if_pos hq_3) h
    refine f_aload_n C (j := 0) dX11_exempt_14 rfl rfl rfl ?_
    refine f_iload_n C (j := 1) dX11_exempt_15 rfl rfl rfl ?_
    refine f_aload_n C (j := 0) dX11_exempt_16 rfl rfl rfl ?_
    obtain ⟨hc_4, h⟩ := h
    refine f_getm C tF_X11_26 rfl o1 cn1_11 hc_4.z dX11_exempt_17 rfl ?_
    refine f_geti C tF_X11_258 rfl hc_4.o dX11_exempt_20 rfl ?_
    refine f_callVi C (a := 1) (ci := 11) (As := fun B => [.int x1, .int (gi σ_1 (gr σ_1 1 11) 15)]) o1 rfl (c_X11_isOneOf  _ _ _ _ h) tM_X11_297 tI_X11_isOneOf tS_X11_isOneOf tN_X11 tC_X11_isOneOf 2 dd_X11_isOneOf rfl (by decide) (by decide) rfl (Nat.le_of_ble_eq_true rfl) dX11_exempt_23 rfl (fun r_6 σ_5 h => ?_)
    refine f_iload_n C (j := 2) dX11_exempt_26 rfl rfl rfl ?_
    refine f_icmp_ne C (t := 37) dX11_exempt_27 (by decide) rfl (fun hq_7 => ?_) (fun hq_7 => ?_)
    · replace h := Eq.mp (if_neg hq_7) h
      refine f_aload_n C (j := 0) dX11_exempt_37 rfl rfl rfl ?_
      obtain ⟨hc_8, h⟩ := h
      refine f_getm C tF_X11_26 rfl o1 cn1_11 hc_8.z dX11_exempt_38 rfl ?_
      refine f_dup C dX11_exempt_41 rfl rfl ?_
      refine f_geti C tF_X11_258 rfl hc_8.o dX11_exempt_42 rfl ?_
      refine f_iconst C (v := 1) dX11_exempt_45 kc1 rfl ?_
      refine f_iload_n C (j := 1) dX11_exempt_46 rfl rfl rfl ?_
      refine f_ishl C dX11_exempt_47 rfl ?_
      refine f_ixor C dX11_exempt_48 rfl ?_
      refine f_puti C tF_X11_258 fm_1_15 rfl hc_8.o dX11_exempt_49 rfl ?_
      refine f_aload_n C (j := 0) dX11_exempt_52 rfl rfl rfl ?_
      refine f_callVi C (a := 1) (ci := 11) (As := fun B => []) o1 rfl (c_X11_fineSo   _ _ h) tM_X11_169 tI_X11_fineSo tS_X11_fineSo tN_X11 tC_X11_fineSo 0 dd_X11_fineSo rfl (by decide) (by decide) rfl (Nat.le_of_ble_eq_true rfl) dX11_exempt_53 rfl (fun r_10 σ_9 h => ?_)
      obtain ⟨hb_11, h⟩ := h
      exact f_zret C hb_11 dX11_exempt_56 h
    · replace h := Eq.mp (if_pos hq_7) h
      refine f_aload_n C (j := 0) dX11_exempt_30 rfl rfl rfl ?_
      refine f_bipush C (v := 9) dX11_exempt_31 kb9 rfl ?_
      refine f_callVi C (a := 1) (ci := 11) (As := fun B => [.int 9]) o1 rfl (c_X11_refuseSo  _ _ _ h) tM_X11_162 tI_X11_refuseSo tS_X11_refuseSo tN_X11 tC_X11_refuseSo 1 dd_X11_refuseSo rfl (by decide) (by decide) rfl (Nat.le_of_ble_eq_true rfl) dX11_exempt_33 rfl (fun r_13 σ_12 h => ?_)
      obtain ⟨hb_14, h⟩ := h
      exact f_zret C hb_14 dX11_exempt_36 h
  · replace h := Eq.mp (if_neg hq_3) h
    refine f_aload_n C (j := 0) dX11_exempt_8 rfl rfl rfl ?_
    refine f_iconst C (v := 2) dX11_exempt_9 kc2 rfl ?_
    refine f_callVi C (a := 1) (ci := 11) (As := fun B => [.int 2]) o1 rfl (c_X11_refuseSo  _ _ _ h) tM_X11_162 tI_X11_refuseSo tS_X11_refuseSo tN_X11 tC_X11_refuseSo 1 dd_X11_refuseSo rfl (by decide) (by decide) rfl (Nat.le_of_ble_eq_true rfl) dX11_exempt_10 rfl (fun r_16 σ_15 h => ?_)
    obtain ⟨hb_17, h⟩ := h
    exact f_zret C hb_17 dX11_exempt_13 h
theorem c_X11_exempt (x1 : Int32) (x2 : Int32) (σ : Sto) (P : Int32 → Sto → Prop) (h : w_X11_exempt x1 x2 σ P) : Ct yX11_exempt cX11_exempt 3 (some .boolean) 1 22 (fun B => [.ref (B + 1), .int x1, .int x2]) σ (QFi P) := Ct.of (by decide) (fun _ => Nat.le_of_ble_eq_true rfl) (fun B E C => s_X11_exempt C x1 x2 σ h)
def w_X11_grudge_16 (σ : Sto) (P : Int32 → Sto → Prop) : Prop :=
  w_X11_refuseSo 2 σ (fun r_5 σ_4 => (r_5 = 0 ∨ r_5 = 1) ∧ P r_5 σ_4)
theorem s_X11_grudge_16 {B : Nat} {E : Nat → List (Nat × Value) → List Value → Sto → Prop} {P : Int32 → Sto → Prop} (C : Cy B E RX11 cX11_grudge 4 (some .boolean) 1 21 (Zm (QFi P))) (σ : Sto) (h : w_X11_grudge_16 σ P) : E 16 [(0, .ref (B + 1))] [] σ := by
  unfold w_X11_grudge_16 at h
  refine f_aload_n C (j := 0) dX11_grudge_16 rfl rfl rfl ?_
  refine f_iconst C (v := 2) dX11_grudge_17 kc2 rfl ?_
  refine f_callVi C (a := 1) (ci := 11) (As := fun B => [.int 2]) o1 rfl (c_X11_refuseSo  _ _ _ h) tM_X11_162 tI_X11_refuseSo tS_X11_refuseSo tN_X11 tC_X11_refuseSo 1 dd_X11_refuseSo rfl (by decide) (by decide) rfl (Nat.le_of_ble_eq_true rfl) dX11_grudge_18 rfl (fun r_5 σ_4 h => ?_)
  obtain ⟨hb_6, h⟩ := h
  exact f_zret C hb_6 dX11_grudge_21 h
def w_X11_grudge_32 (σ : Sto) (P : Int32 → Sto → Prop) : Prop :=
  w_X11_refuseSo 5 σ (fun r_12 σ_11 => (r_12 = 0 ∨ r_12 = 1) ∧ P r_12 σ_11)
theorem s_X11_grudge_32 {B : Nat} {E : Nat → List (Nat × Value) → List Value → Sto → Prop} {P : Int32 → Sto → Prop} (C : Cy B E RX11 cX11_grudge 4 (some .boolean) 1 21 (Zm (QFi P))) (σ : Sto) (h : w_X11_grudge_32 σ P) : E 32 [(0, .ref (B + 1))] [] σ := by
  unfold w_X11_grudge_32 at h
  refine f_aload_n C (j := 0) dX11_grudge_32 rfl rfl rfl ?_
  refine f_iconst C (v := 5) dX11_grudge_33 kc5 rfl ?_
  refine f_callVi C (a := 1) (ci := 11) (As := fun B => [.int 5]) o1 rfl (c_X11_refuseSo  _ _ _ h) tM_X11_162 tI_X11_refuseSo tS_X11_refuseSo tN_X11 tC_X11_refuseSo 1 dd_X11_refuseSo rfl (by decide) (by decide) rfl (Nat.le_of_ble_eq_true rfl) dX11_grudge_34 rfl (fun r_12 σ_11 h => ?_)
  obtain ⟨hb_13, h⟩ := h
  exact f_zret C hb_13 dX11_grudge_37 h
def w_X11_grudge (x1 : Int32) (x2 : Int32) (x3 : Int32) (σ : Sto) (P : Int32 → Sto → Prop) : Prop :=
  w_X11_noVoter x1 σ (fun r_2 σ_1 => (if r_2 = 0 then w_X11_noThing x2 σ_1 (fun r_8 σ_7 => (if r_8 = 0 then (if x3 < 0 then w_X11_grudge_32 σ_7 P else (if x3 ≤ 9 then isCity (gr σ_7 1 11) ∧ vp_in ((x1 * 12) + x2) 72 ∧ w_X0_forget (si σ_7 ((gr σ_7 1 11) + 6) (tn ((x1 * 12) + x2)) x3) (fun σ_17 => w_X11_fineSo σ_17 (fun r_20 σ_19 => (r_20 = 0 ∨ r_20 = 1) ∧ P r_20 σ_19)) else w_X11_grudge_32 σ_7 P)) else w_X11_grudge_16 σ_7 P)) else w_X11_grudge_16 σ_1 P))
theorem s_X11_grudge {B : Nat} {E : Nat → List (Nat × Value) → List Value → Sto → Prop} {P : Int32 → Sto → Prop} (C : Cy B E RX11 cX11_grudge 4 (some .boolean) 1 21 (Zm (QFi P))) (x1 : Int32) (x2 : Int32) (x3 : Int32) (σ : Sto) (h : w_X11_grudge x1 x2 x3 σ P) : E 0 [(0, .ref (B + 1)), (1, .int x1), (2, .int x2), (3, .int x3)] [] σ := by
  unfold w_X11_grudge at h
  refine f_aload_n C (j := 0) dX11_grudge_0 rfl rfl rfl ?_
  refine f_iload_n C (j := 1) dX11_grudge_1 rfl rfl rfl ?_
  refine f_callVi C (a := 1) (ci := 11) (As := fun B => [.int x1]) o1 rfl (c_X11_noVoter  _ _ _ h) tM_X11_291 tI_X11_noVoter tS_X11_noVoter tN_X11 tC_X11_noVoter 1 dd_X11_noVoter rfl (by decide) (by decide) rfl (Nat.le_of_ble_eq_true rfl) dX11_grudge_2 rfl (fun r_2 σ_1 h => ?_)
  refine f_if_ne C (t := 16) dX11_grudge_5 (by decide) rfl (fun hq_3 => ?_) (fun hq_3 => ?_)
  · replace h := Eq.mp (if_neg hq_3) h
    refine f_lv C (lv2 := [(0, .ref (B + 1))]) [0] rfl ?_
    exact s_X11_grudge_16 C  _ h
  · replace h := Eq.mp (if_pos hq_3) h
    refine f_aload_n C (j := 0) dX11_grudge_8 rfl rfl rfl ?_
    refine f_iload_n C (j := 2) dX11_grudge_9 rfl rfl rfl ?_
    refine f_callVi C (a := 1) (ci := 11) (As := fun B => [.int x2]) o1 rfl (c_X11_noThing  _ _ _ h) tM_X11_267 tI_X11_noThing tS_X11_noThing tN_X11 tC_X11_noThing 1 dd_X11_noThing rfl (by decide) (by decide) rfl (Nat.le_of_ble_eq_true rfl) dX11_grudge_10 rfl (fun r_8 σ_7 h => ?_)
    refine f_if_eq C (t := 22) dX11_grudge_13 (by decide) rfl (fun hq_9 => ?_) (fun hq_9 => ?_)
    · replace h := Eq.mp (if_pos hq_9) h
      refine f_iload_n C (j := 3) dX11_grudge_22 rfl rfl rfl ?_
      refine f_if_lt C (t := 32) dX11_grudge_23 (by decide) rfl (fun hq_10 => ?_) (fun hq_10 => ?_)
      · replace h := Eq.mp (if_pos hq_10) h
        refine f_lv C (lv2 := [(0, .ref (B + 1))]) [0] rfl ?_
        exact s_X11_grudge_32 C  _ h
      · replace h := Eq.mp (if_neg hq_10) h
        refine f_iload_n C (j := 3) dX11_grudge_26 rfl rfl rfl ?_
        refine f_bipush C (v := 9) dX11_grudge_27 kb9 rfl ?_
        refine f_icmp_le C (t := 38) dX11_grudge_29 (by decide) rfl (fun hq_14 => ?_) (fun hq_14 => ?_)
        · replace h := Eq.mp (if_pos hq_14) h
          refine f_aload_n C (j := 0) dX11_grudge_38 rfl rfl rfl ?_
          obtain ⟨hc_15, h⟩ := h
          refine f_getm C tF_X11_26 rfl o1 cn1_11 hc_15.z dX11_grudge_39 rfl ?_
          refine f_getc C tF_X11_294 rfl hc_15.o hc_15.c5 (Nat.succ_ne_zero _) dX11_grudge_42 rfl ?_
          refine f_iload_n C (j := 1) dX11_grudge_45 rfl rfl rfl ?_
          refine f_bipush C (v := 12) dX11_grudge_46 kb12 rfl ?_
          refine f_imul C dX11_grudge_48 rfl ?_
          refine f_iload_n C (j := 2) dX11_grudge_49 rfl rfl rfl ?_
          refine f_iadd C dX11_grudge_50 rfl ?_
          refine f_iload_n C (j := 3) dX11_grudge_51 rfl rfl rfl ?_
          obtain ⟨hi_16, h⟩ := h
          refine f_iast C (j := tn ((x1 * 12) + x2)) hc_15.a5 hi_16 rfl dX11_grudge_52 rfl ?_
          refine f_aload_n C (j := 0) dX11_grudge_53 rfl rfl rfl ?_
          refine f_getc C tF_X11_67 rfl o1 cs1_5 (by decide) dX11_grudge_54 rfl ?_
          refine f_callVv C (a := 90) (ci := 0) (As := fun B => []) o90 rfl (c_X0_forget   _ _ h) tM_X11_303 tI_X0_forget tS_X0_forget tN_X0 tC_X0_forget 0 dd_X0_forget rfl (by decide) (by decide) rfl (Nat.le_of_ble_eq_true rfl) dX11_grudge_57 rfl (fun σ_17 h => ?_)
          refine f_aload_n C (j := 0) dX11_grudge_60 rfl rfl rfl ?_
          refine f_callVi C (a := 1) (ci := 11) (As := fun B => []) o1 rfl (c_X11_fineSo   _ _ h) tM_X11_169 tI_X11_fineSo tS_X11_fineSo tN_X11 tC_X11_fineSo 0 dd_X11_fineSo rfl (by decide) (by decide) rfl (Nat.le_of_ble_eq_true rfl) dX11_grudge_61 rfl (fun r_20 σ_19 h => ?_)
          obtain ⟨hb_21, h⟩ := h
          exact f_zret C hb_21 dX11_grudge_64 h
        · replace h := Eq.mp (if_neg hq_14) h
          refine f_lv C (lv2 := [(0, .ref (B + 1))]) [0] rfl ?_
          exact s_X11_grudge_32 C  _ h
    · replace h := Eq.mp (if_neg hq_9) h
      refine f_lv C (lv2 := [(0, .ref (B + 1))]) [0] rfl ?_
      exact s_X11_grudge_16 C  _ h
theorem c_X11_grudge (x1 : Int32) (x2 : Int32) (x3 : Int32) (σ : Sto) (P : Int32 → Sto → Prop) (h : w_X11_grudge x1 x2 x3 σ P) : Ct yX11_grudge cX11_grudge 4 (some .boolean) 1 21 (fun B => [.ref (B + 1), .int x1, .int x2, .int x3]) σ (QFi P) := Ct.of (by decide) (fun _ => Nat.le_of_ble_eq_true rfl) (fun B E C => s_X11_grudge C x1 x2 x3 σ h)
def w_X11_rule_9 (σ : Sto) (P : Int32 → Sto → Prop) : Prop :=
  w_X11_refuseSo 5 σ (fun r_3 σ_2 => (r_3 = 0 ∨ r_3 = 1) ∧ P r_3 σ_2)
theorem s_X11_rule_9 {B : Nat} {E : Nat → List (Nat × Value) → List Value → Sto → Prop} {P : Int32 → Sto → Prop} (C : Cy B E RX11 cX11_rule 2 (some .boolean) 1 21 (Zm (QFi P))) (σ : Sto) (h : w_X11_rule_9 σ P) : E 9 [(0, .ref (B + 1))] [] σ := by
  unfold w_X11_rule_9 at h
  refine f_aload_n C (j := 0) dX11_rule_9 rfl rfl rfl ?_
  refine f_iconst C (v := 5) dX11_rule_10 kc5 rfl ?_
  refine f_callVi C (a := 1) (ci := 11) (As := fun B => [.int 5]) o1 rfl (c_X11_refuseSo  _ _ _ h) tM_X11_162 tI_X11_refuseSo tS_X11_refuseSo tN_X11 tC_X11_refuseSo 1 dd_X11_refuseSo rfl (by decide) (by decide) rfl (Nat.le_of_ble_eq_true rfl) dX11_rule_11 rfl (fun r_3 σ_2 h => ?_)
  obtain ⟨hb_4, h⟩ := h
  exact f_zret C hb_4 dX11_rule_14 h
def w_X11_rule (x1 : Int32) (σ : Sto) (P : Int32 → Sto → Prop) : Prop :=
  (if x1 < 0 then w_X11_rule_9 σ P else (if x1 ≤ 2 then isCity (gr σ 1 11) ∧ w_X0_forget (si σ (gr σ 1 11) 12 x1) (fun σ_7 => w_X11_fineSo σ_7 (fun r_10 σ_9 => (r_10 = 0 ∨ r_10 = 1) ∧ P r_10 σ_9)) else w_X11_rule_9 σ P))
theorem s_X11_rule {B : Nat} {E : Nat → List (Nat × Value) → List Value → Sto → Prop} {P : Int32 → Sto → Prop} (C : Cy B E RX11 cX11_rule 2 (some .boolean) 1 21 (Zm (QFi P))) (x1 : Int32) (σ : Sto) (h : w_X11_rule x1 σ P) : E 0 [(0, .ref (B + 1)), (1, .int x1)] [] σ := by
  unfold w_X11_rule at h
  refine f_iload_n C (j := 1) dX11_rule_0 rfl rfl rfl ?_
  refine f_if_lt C (t := 9) dX11_rule_1 (by decide) rfl (fun hq_1 => ?_) (fun hq_1 => ?_)
  · replace h := Eq.mp (if_pos hq_1) h
    refine f_lv C (lv2 := [(0, .ref (B + 1))]) [0] rfl ?_
    exact s_X11_rule_9 C  _ h
  · replace h := Eq.mp (if_neg hq_1) h
    refine f_iload_n C (j := 1) dX11_rule_4 rfl rfl rfl ?_
    refine f_iconst C (v := 2) dX11_rule_5 kc2 rfl ?_
    refine f_icmp_le C (t := 15) dX11_rule_6 (by decide) rfl (fun hq_5 => ?_) (fun hq_5 => ?_)
    · replace h := Eq.mp (if_pos hq_5) h
      refine f_aload_n C (j := 0) dX11_rule_15 rfl rfl rfl ?_
      obtain ⟨hc_6, h⟩ := h
      refine f_getm C tF_X11_26 rfl o1 cn1_11 hc_6.z dX11_rule_16 rfl ?_
      refine f_iload_n C (j := 1) dX11_rule_19 rfl rfl rfl ?_
      refine f_puti C tF_X11_249 fm_1_12 rfl hc_6.o dX11_rule_20 rfl ?_
      refine f_aload_n C (j := 0) dX11_rule_23 rfl rfl rfl ?_
      refine f_getc C tF_X11_67 rfl o1 cs1_5 (by decide) dX11_rule_24 rfl ?_
      refine f_callVv C (a := 90) (ci := 0) (As := fun B => []) o90 rfl (c_X0_forget   _ _ h) tM_X11_303 tI_X0_forget tS_X0_forget tN_X0 tC_X0_forget 0 dd_X0_forget rfl (by decide) (by decide) rfl (Nat.le_of_ble_eq_true rfl) dX11_rule_27 rfl (fun σ_7 h => ?_)
      refine f_aload_n C (j := 0) dX11_rule_30 rfl rfl rfl ?_
      refine f_callVi C (a := 1) (ci := 11) (As := fun B => []) o1 rfl (c_X11_fineSo   _ _ h) tM_X11_169 tI_X11_fineSo tS_X11_fineSo tN_X11 tC_X11_fineSo 0 dd_X11_fineSo rfl (by decide) (by decide) rfl (Nat.le_of_ble_eq_true rfl) dX11_rule_31 rfl (fun r_10 σ_9 h => ?_)
      obtain ⟨hb_11, h⟩ := h
      exact f_zret C hb_11 dX11_rule_34 h
    · replace h := Eq.mp (if_neg hq_5) h
      refine f_lv C (lv2 := [(0, .ref (B + 1))]) [0] rfl ?_
      exact s_X11_rule_9 C  _ h
theorem c_X11_rule (x1 : Int32) (σ : Sto) (P : Int32 → Sto → Prop) (h : w_X11_rule x1 σ P) : Ct yX11_rule cX11_rule 2 (some .boolean) 1 21 (fun B => [.ref (B + 1), .int x1]) σ (QFi P) := Ct.of (by decide) (fun _ => Nat.le_of_ble_eq_true rfl) (fun B E C => s_X11_rule C x1 σ h)
def w_X11_vote (σ : Sto) (P : Int32 → Sto → Prop) : Prop :=
  w_X0_openNow σ (fun r_2 σ_1 => isCity (gr σ_1 1 11) ∧ w_X0_count r_2 (gi σ_1 (gr σ_1 1 11) 12) σ_1 (fun r_5 σ_4 => w_X11_fineOrNone r_5 σ_4 (fun r_7 σ_6 => P r_7 σ_6)))
theorem s_X11_vote {B : Nat} {E : Nat → List (Nat × Value) → List Value → Sto → Prop} {P : Int32 → Sto → Prop} (C : Cy B E RX11 cX11_vote 1 (some .int) 3 69 (Zm (QFi P))) (σ : Sto) (h : w_X11_vote σ P) : E 0 [(0, .ref (B + 1))] [] σ := by
  unfold w_X11_vote at h
  refine f_aload_n C (j := 0) dX11_vote_0 rfl rfl rfl ?_
  refine f_aload_n C (j := 0) dX11_vote_1 rfl rfl rfl ?_
  refine f_getc C tF_X11_67 rfl o1 cs1_5 (by decide) dX11_vote_2 rfl ?_
  refine f_aload_n C (j := 0) dX11_vote_5 rfl rfl rfl ?_
  refine f_getc C tF_X11_67 rfl o1 cs1_5 (by decide) dX11_vote_6 rfl ?_
  refine f_callVi C (a := 90) (ci := 0) (As := fun B => []) o90 rfl (c_X0_openNow   _ _ h) tM_X11_306 tI_X0_openNow tS_X0_openNow tN_X0 tC_X0_openNow 0 dd_X0_openNow rfl (by decide) (by decide) rfl (Nat.le_of_ble_eq_true rfl) dX11_vote_9 rfl (fun r_2 σ_1 h => ?_)
  refine f_aload_n C (j := 0) dX11_vote_12 rfl rfl rfl ?_
  obtain ⟨hc_3, h⟩ := h
  refine f_getm C tF_X11_26 rfl o1 cn1_11 hc_3.z dX11_vote_13 rfl ?_
  refine f_geti C tF_X11_249 rfl hc_3.o dX11_vote_16 rfl ?_
  refine f_callVi C (a := 90) (ci := 0) (As := fun B => [.int r_2, .int (gi σ_1 (gr σ_1 1 11) 12)]) o90 rfl (c_X0_count  _ _ _ _ h) tM_X11_309 tI_X0_count tS_X0_count tN_X0 tC_X0_count 2 dd_X0_count rfl (by decide) (by decide) rfl (Nat.le_of_ble_eq_true rfl) dX11_vote_19 rfl (fun r_5 σ_4 h => ?_)
  refine f_callVi C (a := 1) (ci := 11) (As := fun B => [.int r_5]) o1 rfl (c_X11_fineOrNone  _ _ _ h) tM_X11_312 tI_X11_fineOrNone tS_X11_fineOrNone tN_X11 tC_X11_fineOrNone 1 dd_X11_fineOrNone rfl (by decide) (by decide) rfl (Nat.le_of_ble_eq_true rfl) dX11_vote_22 rfl (fun r_7 σ_6 h => ?_)
  exact f_iret C dX11_vote_25 h
theorem c_X11_vote (σ : Sto) (P : Int32 → Sto → Prop) (h : w_X11_vote σ P) : Ct yX11_vote cX11_vote 1 (some .int) 3 69 (fun B => [.ref (B + 1)]) σ (QFi P) := Ct.of (by decide) (fun _ => Nat.le_of_ble_eq_true rfl) (fun B E C => s_X11_vote C σ h)
def w_X11_votes (x1 : Int32) (σ : Sto) (P : Int32 → Sto → Prop) : Prop :=
  w_X11_noThing x1 σ (fun r_2 σ_1 => (if r_2 = 0 then w_X0_openNow σ_1 (fun r_5 σ_4 => isCity (gr σ_4 1 11) ∧ w_X0_count r_5 (gi σ_4 (gr σ_4 1 11) 12) σ_4 (fun r_8 σ_7 => vp_in x1 12 ∧ w_X11_fine (gi σ_7 92 (tn x1)) σ_7 (fun r_11 σ_10 => P r_11 σ_10))) else w_X11_refuse 2 σ_1 (fun r_13 σ_12 => P r_13 σ_12)))
theorem s_X11_votes {B : Nat} {E : Nat → List (Nat × Value) → List Value → Sto → Prop} {P : Int32 → Sto → Prop} (C : Cy B E RX11 cX11_votes 2 (some .int) 3 69 (Zm (QFi P))) (x1 : Int32) (σ : Sto) (h : w_X11_votes x1 σ P) : E 0 [(0, .ref (B + 1)), (1, .int x1)] [] σ := by
  unfold w_X11_votes at h
  refine f_aload_n C (j := 0) dX11_votes_0 rfl rfl rfl ?_
  refine f_iload_n C (j := 1) dX11_votes_1 rfl rfl rfl ?_
  refine f_callVi C (a := 1) (ci := 11) (As := fun B => [.int x1]) o1 rfl (c_X11_noThing  _ _ _ h) tM_X11_267 tI_X11_noThing tS_X11_noThing tN_X11 tC_X11_noThing 1 dd_X11_noThing rfl (by decide) (by decide) rfl (Nat.le_of_ble_eq_true rfl) dX11_votes_2 rfl (fun r_2 σ_1 h => ?_)
  refine f_if_eq C (t := 14) dX11_votes_5 (by decide) rfl (fun hq_3 => ?_) (fun hq_3 => ?_)
  · replace h := Eq.mp (if_pos hq_3) h
    refine f_aload_n C (j := 0) dX11_votes_14 rfl rfl rfl ?_
    refine f_getc C tF_X11_67 rfl o1 cs1_5 (by decide) dX11_votes_15 rfl ?_
    refine f_aload_n C (j := 0) dX11_votes_18 rfl rfl rfl ?_
    refine f_getc C tF_X11_67 rfl o1 cs1_5 (by decide) dX11_votes_19 rfl ?_
    refine f_callVi C (a := 90) (ci := 0) (As := fun B => []) o90 rfl (c_X0_openNow   _ _ h) tM_X11_306 tI_X0_openNow tS_X0_openNow tN_X0 tC_X0_openNow 0 dd_X0_openNow rfl (by decide) (by decide) rfl (Nat.le_of_ble_eq_true rfl) dX11_votes_22 rfl (fun r_5 σ_4 h => ?_)
    refine f_aload_n C (j := 0) dX11_votes_25 rfl rfl rfl ?_
    obtain ⟨hc_6, h⟩ := h
    refine f_getm C tF_X11_26 rfl o1 cn1_11 hc_6.z dX11_votes_26 rfl ?_
    refine f_geti C tF_X11_249 rfl hc_6.o dX11_votes_29 rfl ?_
    refine f_callVi C (a := 90) (ci := 0) (As := fun B => [.int r_5, .int (gi σ_4 (gr σ_4 1 11) 12)]) o90 rfl (c_X0_count  _ _ _ _ h) tM_X11_309 tI_X0_count tS_X0_count tN_X0 tC_X0_count 2 dd_X0_count rfl (by decide) (by decide) rfl (Nat.le_of_ble_eq_true rfl) dX11_votes_32 rfl (fun r_8 σ_7 h => ?_)
    refine f_pop C dX11_votes_35 rfl rfl ?_
    refine f_aload_n C (j := 0) dX11_votes_36 rfl rfl rfl ?_
    refine f_aload_n C (j := 0) dX11_votes_37 rfl rfl rfl ?_
    refine f_getc C tF_X11_67 rfl o1 cs1_5 (by decide) dX11_votes_38 rfl ?_
    refine f_getc C tF_X11_315 rfl o90 cs90_2 (by decide) dX11_votes_41 rfl ?_
    refine f_iload_n C (j := 1) dX11_votes_44 rfl rfl rfl ?_
    obtain ⟨hi_9, h⟩ := h
    refine f_iald C (j := tn x1) a92 hi_9 rfl dX11_votes_45 rfl ?_
    refine f_callVi C (a := 1) (ci := 11) (As := fun B => [.int (gi σ_7 92 (tn x1))]) o1 rfl (c_X11_fine  _ _ _ h) tM_X11_130 tI_X11_fine tS_X11_fine tN_X11 tC_X11_fine 1 dd_X11_fine rfl (by decide) (by decide) rfl (Nat.le_of_ble_eq_true rfl) dX11_votes_46 rfl (fun r_11 σ_10 h => ?_)
    exact f_iret C dX11_votes_49 h
  · replace h := Eq.mp (if_neg hq_3) h
    refine f_aload_n C (j := 0) dX11_votes_8 rfl rfl rfl ?_
    refine f_iconst C (v := 2) dX11_votes_9 kc2 rfl ?_
    refine f_callVi C (a := 1) (ci := 11) (As := fun B => [.int 2]) o1 rfl (c_X11_refuse  _ _ _ h) tM_X11_126 tI_X11_refuse tS_X11_refuse tN_X11 tC_X11_refuse 1 dd_X11_refuse rfl (by decide) (by decide) rfl (Nat.le_of_ble_eq_true rfl) dX11_votes_10 rfl (fun r_13 σ_12 h => ?_)
    exact f_iret C dX11_votes_13 h
theorem c_X11_votes (x1 : Int32) (σ : Sto) (P : Int32 → Sto → Prop) (h : w_X11_votes x1 σ P) : Ct yX11_votes cX11_votes 2 (some .int) 3 69 (fun B => [.ref (B + 1), .int x1]) σ (QFi P) := Ct.of (by decide) (fun _ => Nat.le_of_ble_eq_true rfl) (fun B E C => s_X11_votes C x1 σ h)
def w_X11_voteBy_9 (σ : Sto) (P : Int32 → Sto → Prop) : Prop :=
  w_X11_refuse 5 σ (fun r_3 σ_2 => P r_3 σ_2)
theorem s_X11_voteBy_9 {B : Nat} {E : Nat → List (Nat × Value) → List Value → Sto → Prop} {P : Int32 → Sto → Prop} (C : Cy B E RX11 cX11_voteBy 2 (some .int) 3 69 (Zm (QFi P))) (σ : Sto) (h : w_X11_voteBy_9 σ P) : E 9 [(0, .ref (B + 1))] [] σ := by
  unfold w_X11_voteBy_9 at h
  refine f_aload_n C (j := 0) dX11_voteBy_9 rfl rfl rfl ?_
  refine f_iconst C (v := 5) dX11_voteBy_10 kc5 rfl ?_
  refine f_callVi C (a := 1) (ci := 11) (As := fun B => [.int 5]) o1 rfl (c_X11_refuse  _ _ _ h) tM_X11_126 tI_X11_refuse tS_X11_refuse tN_X11 tC_X11_refuse 1 dd_X11_refuse rfl (by decide) (by decide) rfl (Nat.le_of_ble_eq_true rfl) dX11_voteBy_11 rfl (fun r_3 σ_2 h => ?_)
  exact f_iret C dX11_voteBy_14 h
def w_X11_voteBy (x1 : Int32) (σ : Sto) (P : Int32 → Sto → Prop) : Prop :=
  (if x1 < 0 then w_X11_voteBy_9 σ P else (if x1 ≤ 2 then w_X0_openNow σ (fun r_6 σ_5 => w_X0_count r_6 x1 σ_5 (fun r_8 σ_7 => w_X11_fineOrNone r_8 σ_7 (fun r_10 σ_9 => P r_10 σ_9))) else w_X11_voteBy_9 σ P))
theorem s_X11_voteBy {B : Nat} {E : Nat → List (Nat × Value) → List Value → Sto → Prop} {P : Int32 → Sto → Prop} (C : Cy B E RX11 cX11_voteBy 2 (some .int) 3 69 (Zm (QFi P))) (x1 : Int32) (σ : Sto) (h : w_X11_voteBy x1 σ P) : E 0 [(0, .ref (B + 1)), (1, .int x1)] [] σ := by
  unfold w_X11_voteBy at h
  refine f_iload_n C (j := 1) dX11_voteBy_0 rfl rfl rfl ?_
  refine f_if_lt C (t := 9) dX11_voteBy_1 (by decide) rfl (fun hq_1 => ?_) (fun hq_1 => ?_)
  · replace h := Eq.mp (if_pos hq_1) h
    refine f_lv C (lv2 := [(0, .ref (B + 1))]) [0] rfl ?_
    exact s_X11_voteBy_9 C  _ h
  · replace h := Eq.mp (if_neg hq_1) h
    refine f_iload_n C (j := 1) dX11_voteBy_4 rfl rfl rfl ?_
    refine f_iconst C (v := 2) dX11_voteBy_5 kc2 rfl ?_
    refine f_icmp_le C (t := 15) dX11_voteBy_6 (by decide) rfl (fun hq_4 => ?_) (fun hq_4 => ?_)
    · replace h := Eq.mp (if_pos hq_4) h
      refine f_aload_n C (j := 0) dX11_voteBy_15 rfl rfl rfl ?_
      refine f_aload_n C (j := 0) dX11_voteBy_16 rfl rfl rfl ?_
      refine f_getc C tF_X11_67 rfl o1 cs1_5 (by decide) dX11_voteBy_17 rfl ?_
      refine f_aload_n C (j := 0) dX11_voteBy_20 rfl rfl rfl ?_
      refine f_getc C tF_X11_67 rfl o1 cs1_5 (by decide) dX11_voteBy_21 rfl ?_
      refine f_callVi C (a := 90) (ci := 0) (As := fun B => []) o90 rfl (c_X0_openNow   _ _ h) tM_X11_306 tI_X0_openNow tS_X0_openNow tN_X0 tC_X0_openNow 0 dd_X0_openNow rfl (by decide) (by decide) rfl (Nat.le_of_ble_eq_true rfl) dX11_voteBy_24 rfl (fun r_6 σ_5 h => ?_)
      refine f_iload_n C (j := 1) dX11_voteBy_27 rfl rfl rfl ?_
      refine f_callVi C (a := 90) (ci := 0) (As := fun B => [.int r_6, .int x1]) o90 rfl (c_X0_count  _ _ _ _ h) tM_X11_309 tI_X0_count tS_X0_count tN_X0 tC_X0_count 2 dd_X0_count rfl (by decide) (by decide) rfl (Nat.le_of_ble_eq_true rfl) dX11_voteBy_28 rfl (fun r_8 σ_7 h => ?_)
      refine f_callVi C (a := 1) (ci := 11) (As := fun B => [.int r_8]) o1 rfl (c_X11_fineOrNone  _ _ _ h) tM_X11_312 tI_X11_fineOrNone tS_X11_fineOrNone tN_X11 tC_X11_fineOrNone 1 dd_X11_fineOrNone rfl (by decide) (by decide) rfl (Nat.le_of_ble_eq_true rfl) dX11_voteBy_31 rfl (fun r_10 σ_9 h => ?_)
      exact f_iret C dX11_voteBy_34 h
    · replace h := Eq.mp (if_neg hq_4) h
      refine f_lv C (lv2 := [(0, .ref (B + 1))]) [0] rfl ?_
      exact s_X11_voteBy_9 C  _ h
theorem c_X11_voteBy (x1 : Int32) (σ : Sto) (P : Int32 → Sto → Prop) (h : w_X11_voteBy x1 σ P) : Ct yX11_voteBy cX11_voteBy 2 (some .int) 3 69 (fun B => [.ref (B + 1), .int x1]) σ (QFi P) := Ct.of (by decide) (fun _ => Nat.le_of_ble_eq_true rfl) (fun B E C => s_X11_voteBy C x1 σ h)
def w_X11_sway (x1 : Int32) (σ : Sto) (P : Int32 → Sto → Prop) : Prop :=
  w_X11_noVoter x1 σ (fun r_2 σ_1 => (if r_2 = 0 then isCity (gr σ_1 1 11) ∧ (if (gi σ_1 (gr σ_1 1 11) 12) = 2 then w_X11_refuse 9 σ_1 (fun r_11 σ_10 => P r_11 σ_10) else w_X0_swayedBy x1 σ_1 (fun r_7 σ_6 => w_X11_fine r_7 σ_6 (fun r_9 σ_8 => P r_9 σ_8))) else w_X11_refuse 2 σ_1 (fun r_13 σ_12 => P r_13 σ_12)))
theorem s_X11_sway {B : Nat} {E : Nat → List (Nat × Value) → List Value → Sto → Prop} {P : Int32 → Sto → Prop} (C : Cy B E RX11 cX11_sway 2 (some .int) 4 95 (Zm (QFi P))) (x1 : Int32) (σ : Sto) (h : w_X11_sway x1 σ P) : E 0 [(0, .ref (B + 1)), (1, .int x1)] [] σ := by
  unfold w_X11_sway at h
  refine f_aload_n C (j := 0) dX11_sway_0 rfl rfl rfl ?_
  refine f_iload_n C (j := 1) dX11_sway_1 rfl rfl rfl ?_
  refine f_callVi C (a := 1) (ci := 11) (As := fun B => [.int x1]) o1 rfl (c_X11_noVoter  _ _ _ h) tM_X11_291 tI_X11_noVoter tS_X11_noVoter tN_X11 tC_X11_noVoter 1 dd_X11_noVoter rfl (by decide) (by decide) rfl (Nat.le_of_ble_eq_true rfl) dX11_sway_2 rfl (fun r_2 σ_1 h => ?_)
  refine f_if_eq C (t := 14) dX11_sway_5 (by decide) rfl (fun hq_3 => ?_) (fun hq_3 => ?_)
  · replace h := Eq.mp (if_pos hq_3) h
    refine f_aload_n C (j := 0) dX11_sway_14 rfl rfl rfl ?_
    obtain ⟨hc_4, h⟩ := h
    refine f_getm C tF_X11_26 rfl o1 cn1_11 hc_4.z dX11_sway_15 rfl ?_
    refine f_geti C tF_X11_249 rfl hc_4.o dX11_sway_18 rfl ?_
    refine f_iconst C (v := 2) dX11_sway_21 kc2 rfl ?_
    refine f_icmp_ne C (t := 32) dX11_sway_22 (by decide) rfl (fun hq_5 => ?_) (fun hq_5 => ?_)
    · replace h := Eq.mp (if_neg hq_5) h
      refine f_aload_n C (j := 0) dX11_sway_32 rfl rfl rfl ?_
      refine f_aload_n C (j := 0) dX11_sway_33 rfl rfl rfl ?_
      refine f_getc C tF_X11_67 rfl o1 cs1_5 (by decide) dX11_sway_34 rfl ?_
      refine f_iload_n C (j := 1) dX11_sway_37 rfl rfl rfl ?_
      refine f_callVi C (a := 90) (ci := 0) (As := fun B => [.int x1]) o90 rfl (c_X0_swayedBy  _ _ _ h) tM_X11_318 tI_X0_swayedBy tS_X0_swayedBy tN_X0 tC_X0_swayedBy 1 dd_X0_swayedBy rfl (by decide) (by decide) rfl (Nat.le_of_ble_eq_true rfl) dX11_sway_38 rfl (fun r_7 σ_6 h => ?_)
      refine f_callVi C (a := 1) (ci := 11) (As := fun B => [.int r_7]) o1 rfl (c_X11_fine  _ _ _ h) tM_X11_130 tI_X11_fine tS_X11_fine tN_X11 tC_X11_fine 1 dd_X11_fine rfl (by decide) (by decide) rfl (Nat.le_of_ble_eq_true rfl) dX11_sway_41 rfl (fun r_9 σ_8 h => ?_)
      exact f_iret C dX11_sway_44 h
    · replace h := Eq.mp (if_pos hq_5) h
      refine f_aload_n C (j := 0) dX11_sway_25 rfl rfl rfl ?_
      refine f_bipush C (v := 9) dX11_sway_26 kb9 rfl ?_
      refine f_callVi C (a := 1) (ci := 11) (As := fun B => [.int 9]) o1 rfl (c_X11_refuse  _ _ _ h) tM_X11_126 tI_X11_refuse tS_X11_refuse tN_X11 tC_X11_refuse 1 dd_X11_refuse rfl (by decide) (by decide) rfl (Nat.le_of_ble_eq_true rfl) dX11_sway_28 rfl (fun r_11 σ_10 h => ?_)
      exact f_iret C dX11_sway_31 h
  · replace h := Eq.mp (if_neg hq_3) h
    refine f_aload_n C (j := 0) dX11_sway_8 rfl rfl rfl ?_
    refine f_iconst C (v := 2) dX11_sway_9 kc2 rfl ?_
    refine f_callVi C (a := 1) (ci := 11) (As := fun B => [.int 2]) o1 rfl (c_X11_refuse  _ _ _ h) tM_X11_126 tI_X11_refuse tS_X11_refuse tN_X11 tC_X11_refuse 1 dd_X11_refuse rfl (by decide) (by decide) rfl (Nat.le_of_ble_eq_true rfl) dX11_sway_10 rfl (fun r_13 σ_12 h => ?_)
    exact f_iret C dX11_sway_13 h
theorem c_X11_sway (x1 : Int32) (σ : Sto) (P : Int32 → Sto → Prop) (h : w_X11_sway x1 σ P) : Ct yX11_sway cX11_sway 2 (some .int) 4 95 (fun B => [.ref (B + 1), .int x1]) σ (QFi P) := Ct.of (by decide) (fun _ => Nat.le_of_ble_eq_true rfl) (fun B E C => s_X11_sway C x1 σ h)
def w_X11_uprightFault (x1 : Int32) (σ : Sto) (P : Int32 → Sto → Prop) : Prop :=
  w_X11_noThing x1 σ (fun r_2 σ_1 => (if r_2 = 0 then w_X6_atPresent σ_1 (fun r_5 σ_4 => w_X11_isOneOf x1 r_5 σ_4 (fun r_7 σ_6 => (if r_7 = 0 then P 9 σ_6 else P 0 σ_6))) else P 2 σ_1))
theorem s_X11_uprightFault {B : Nat} {E : Nat → List (Nat × Value) → List Value → Sto → Prop} {P : Int32 → Sto → Prop} (C : Cy B E RX11 cX11_uprightFault 2 (some .int) 3 69 (Zm (QFi P))) (x1 : Int32) (σ : Sto) (h : w_X11_uprightFault x1 σ P) : E 0 [(0, .ref (B + 1)), (1, .int x1)] [] σ := by
  unfold w_X11_uprightFault at h
  refine f_aload_n C (j := 0) dX11_uprightFault_0 rfl rfl rfl ?_
  refine f_iload_n C (j := 1) dX11_uprightFault_1 rfl rfl rfl ?_
  refine f_callVi C (a := 1) (ci := 11) (As := fun B => [.int x1]) o1 rfl (c_X11_noThing  _ _ _ h) tM_X11_267 tI_X11_noThing tS_X11_noThing tN_X11 tC_X11_noThing 1 dd_X11_noThing rfl (by decide) (by decide) rfl (Nat.le_of_ble_eq_true rfl) dX11_uprightFault_2 rfl (fun r_2 σ_1 h => ?_)
  refine f_if_eq C (t := 10) dX11_uprightFault_5 (by decide) rfl (fun hq_3 => ?_) (fun hq_3 => ?_)
  · replace h := Eq.mp (if_pos hq_3) h
    refine f_aload_n C (j := 0) dX11_uprightFault_10 rfl rfl rfl ?_
    refine f_iload_n C (j := 1) dX11_uprightFault_11 rfl rfl rfl ?_
    refine f_aload_n C (j := 0) dX11_uprightFault_12 rfl rfl rfl ?_
    refine f_getc C tF_X11_58 rfl o1 cs1_4 (by decide) dX11_uprightFault_13 rfl ?_
    refine f_callVi C (a := 88) (ci := 6) (As := fun B => []) o88 rfl (c_X6_atPresent   _ _ h) tM_X11_242 tI_X6_atPresent tS_X6_atPresent tN_X6 tC_X6_atPresent 0 dd_X6_atPresent rfl (by decide) (by decide) rfl (Nat.le_of_ble_eq_true rfl) dX11_uprightFault_16 rfl (fun r_5 σ_4 h => ?_)
    refine f_callVi C (a := 1) (ci := 11) (As := fun B => [.int x1, .int r_5]) o1 rfl (c_X11_isOneOf  _ _ _ _ h) tM_X11_297 tI_X11_isOneOf tS_X11_isOneOf tN_X11 tC_X11_isOneOf 2 dd_X11_isOneOf rfl (by decide) (by decide) rfl (Nat.le_of_ble_eq_true rfl) dX11_uprightFault_19 rfl (fun r_7 σ_6 h => ?_)
    refine f_if_eq C (t := 29) dX11_uprightFault_22 (by decide) rfl (fun hq_8 => ?_) (fun hq_8 => ?_)
    · replace h := Eq.mp (if_pos hq_8) h
      refine f_bipush C (v := 9) dX11_uprightFault_29 kb9 rfl ?_
      exact f_iret C dX11_uprightFault_31 h
    · replace h := Eq.mp (if_neg hq_8) h
      refine f_iconst C (v := 0) dX11_uprightFault_25 kc0 rfl ?_
      refine f_goto C (t := 31) dX11_uprightFault_26 (by decide) ?_
      exact f_iret C dX11_uprightFault_31 h
  · replace h := Eq.mp (if_neg hq_3) h
    refine f_iconst C (v := 2) dX11_uprightFault_8 kc2 rfl ?_
    exact f_iret C dX11_uprightFault_9 h
theorem c_X11_uprightFault (x1 : Int32) (σ : Sto) (P : Int32 → Sto → Prop) (h : w_X11_uprightFault x1 σ P) : Ct yX11_uprightFault cX11_uprightFault 2 (some .int) 3 69 (fun B => [.ref (B + 1), .int x1]) σ (QFi P) := Ct.of (by decide) (fun _ => Nat.le_of_ble_eq_true rfl) (fun B E C => s_X11_uprightFault C x1 σ h)
def w_X11_falls (x1 : Int32) (σ : Sto) (P : Int32 → Sto → Prop) : Prop :=
  w_X11_uprightFault x1 σ (fun r_2 σ_1 => (if r_2 = 0 then w_X6_fallingWith x1 σ_1 (fun r_5 σ_4 => w_X11_fine r_5 σ_4 (fun r_7 σ_6 => P r_7 σ_6)) else w_X11_refuse r_2 σ_1 (fun r_9 σ_8 => P r_9 σ_8)))
theorem s_X11_falls {B : Nat} {E : Nat → List (Nat × Value) → List Value → Sto → Prop} {P : Int32 → Sto → Prop} (C : Cy B E RX11 cX11_falls 3 (some .int) 4 90 (Zm (QFi P))) (x1 : Int32) (σ : Sto) (h : w_X11_falls x1 σ P) : E 0 [(0, .ref (B + 1)), (1, .int x1)] [] σ := by
  unfold w_X11_falls at h
  refine f_aload_n C (j := 0) dX11_falls_0 rfl rfl rfl ?_
  refine f_iload_n C (j := 1) dX11_falls_1 rfl rfl rfl ?_
  refine f_callVi C (a := 1) (ci := 11) (As := fun B => [.int x1]) o1 rfl (c_X11_uprightFault  _ _ _ h) tM_X11_321 tI_X11_uprightFault tS_X11_uprightFault tN_X11 tC_X11_uprightFault 1 dd_X11_uprightFault rfl (by decide) (by decide) rfl (Nat.le_of_ble_eq_true rfl) dX11_falls_2 rfl (fun r_2 σ_1 h => ?_)
  refine f_istore_n C (lv2 := [(2, .int r_2), (0, .ref (B + 1)), (1, .int x1)]) dX11_falls_5 rfl (by decide) rfl rfl ?_
  refine f_iload_n C (j := 0) dX11_falls_6 rfl rfl rfl ?_
  refine f_if_eq C (t := 18) dX11_falls_7 (by decide) rfl (fun hq_3 => ?_) (fun hq_3 => ?_)
  · replace h := Eq.mp (if_pos hq_3) h
    refine f_aload_n C (j := 1) dX11_falls_18 rfl rfl rfl ?_
    refine f_aload_n C (j := 1) dX11_falls_19 rfl rfl rfl ?_
    refine f_getc C tF_X11_58 rfl o1 cs1_4 (by decide) dX11_falls_20 rfl ?_
    refine f_iload_n C (j := 2) dX11_falls_23 rfl rfl rfl ?_
    refine f_callVi C (a := 88) (ci := 6) (As := fun B => [.int x1]) o88 rfl (c_X6_fallingWith  _ _ _ h) tM_X11_324 tI_X6_fallingWith tS_X6_fallingWith tN_X6 tC_X6_fallingWith 1 dd_X6_fallingWith rfl (by decide) (by decide) rfl (Nat.le_of_ble_eq_true rfl) dX11_falls_24 rfl (fun r_5 σ_4 h => ?_)
    refine f_callVi C (a := 1) (ci := 11) (As := fun B => [.int r_5]) o1 rfl (c_X11_fine  _ _ _ h) tM_X11_130 tI_X11_fine tS_X11_fine tN_X11 tC_X11_fine 1 dd_X11_fine rfl (by decide) (by decide) rfl (Nat.le_of_ble_eq_true rfl) dX11_falls_27 rfl (fun r_7 σ_6 h => ?_)
    exact f_iret C dX11_falls_30 h
  · replace h := Eq.mp (if_neg hq_3) h
    refine f_aload_n C (j := 1) dX11_falls_10 rfl rfl rfl ?_
    refine f_iload_n C (j := 0) dX11_falls_11 rfl rfl rfl ?_
    refine f_callVi C (a := 1) (ci := 11) (As := fun B => [.int r_2]) o1 rfl (c_X11_refuse  _ _ _ h) tM_X11_126 tI_X11_refuse tS_X11_refuse tN_X11 tC_X11_refuse 1 dd_X11_refuse rfl (by decide) (by decide) rfl (Nat.le_of_ble_eq_true rfl) dX11_falls_12 rfl (fun r_9 σ_8 h => ?_)
    refine f_goto C (t := 30) dX11_falls_15 (by decide) ?_
    exact f_iret C dX11_falls_30 h
theorem c_X11_falls (x1 : Int32) (σ : Sto) (P : Int32 → Sto → Prop) (h : w_X11_falls x1 σ P) : Ct yX11_falls cX11_falls 3 (some .int) 4 90 (fun B => [.ref (B + 1), .int x1]) σ (QFi P) := Ct.of (by decide) (fun _ => Nat.le_of_ble_eq_true rfl) (fun B E C => s_X11_falls C x1 σ h)
def w_X11_loss (x1 : Int32) (σ : Sto) (P : Int32 → Sto → Prop) : Prop :=
  w_X11_uprightFault x1 σ (fun r_2 σ_1 => (if r_2 = 0 then isCity (gr σ_1 1 11) ∧ w_X6_fallingWith x1 σ_1 (fun r_6 σ_5 => w_X1_worthOf (gr σ_1 1 11) r_6 σ_5 (fun r_8 σ_7 => w_X11_fine r_8 σ_7 (fun r_10 σ_9 => P r_10 σ_9))) else w_X11_refuse r_2 σ_1 (fun r_12 σ_11 => P r_12 σ_11)))
theorem s_X11_loss {B : Nat} {E : Nat → List (Nat × Value) → List Value → Sto → Prop} {P : Int32 → Sto → Prop} (C : Cy B E RX11 cX11_loss 3 (some .int) 4 90 (Zm (QFi P))) (x1 : Int32) (σ : Sto) (h : w_X11_loss x1 σ P) : E 0 [(0, .ref (B + 1)), (1, .int x1)] [] σ := by
  unfold w_X11_loss at h
  refine f_aload_n C (j := 0) dX11_loss_0 rfl rfl rfl ?_
  refine f_iload_n C (j := 1) dX11_loss_1 rfl rfl rfl ?_
  refine f_callVi C (a := 1) (ci := 11) (As := fun B => [.int x1]) o1 rfl (c_X11_uprightFault  _ _ _ h) tM_X11_321 tI_X11_uprightFault tS_X11_uprightFault tN_X11 tC_X11_uprightFault 1 dd_X11_uprightFault rfl (by decide) (by decide) rfl (Nat.le_of_ble_eq_true rfl) dX11_loss_2 rfl (fun r_2 σ_1 h => ?_)
  refine f_istore_n C (lv2 := [(2, .int r_2), (0, .ref (B + 1)), (1, .int x1)]) dX11_loss_5 rfl (by decide) rfl rfl ?_
  refine f_iload_n C (j := 0) dX11_loss_6 rfl rfl rfl ?_
  refine f_if_eq C (t := 18) dX11_loss_7 (by decide) rfl (fun hq_3 => ?_) (fun hq_3 => ?_)
  · replace h := Eq.mp (if_pos hq_3) h
    refine f_aload_n C (j := 1) dX11_loss_18 rfl rfl rfl ?_
    refine f_aload_n C (j := 1) dX11_loss_19 rfl rfl rfl ?_
    obtain ⟨hc_4, h⟩ := h
    refine f_getm C tF_X11_26 rfl o1 cn1_11 hc_4.z dX11_loss_20 rfl ?_
    refine f_aload_n C (j := 1) dX11_loss_23 rfl rfl rfl ?_
    refine f_getc C tF_X11_58 rfl o1 cs1_4 (by decide) dX11_loss_24 rfl ?_
    refine f_iload_n C (j := 2) dX11_loss_27 rfl rfl rfl ?_
    refine f_callVi C (a := 88) (ci := 6) (As := fun B => [.int x1]) o88 rfl (c_X6_fallingWith  _ _ _ h) tM_X11_324 tI_X6_fallingWith tS_X6_fallingWith tN_X6 tC_X6_fallingWith 1 dd_X6_fallingWith rfl (by decide) (by decide) rfl (Nat.le_of_ble_eq_true rfl) dX11_loss_28 rfl (fun r_6 σ_5 h => ?_)
    refine f_callVi C (a := gr σ_1 1 11) (ci := 1) (As := fun B => [.int r_6]) hc_4.o rfl (c_X1_worthOf  _ _ _ _ h) tM_X11_264 tI_X1_worthOf tS_X1_worthOf tN_X1 tC_X1_worthOf 1 dd_X1_worthOf rfl (by decide) (by decide) rfl (Nat.le_of_ble_eq_true rfl) dX11_loss_31 rfl (fun r_8 σ_7 h => ?_)
    refine f_callVi C (a := 1) (ci := 11) (As := fun B => [.int r_8]) o1 rfl (c_X11_fine  _ _ _ h) tM_X11_130 tI_X11_fine tS_X11_fine tN_X11 tC_X11_fine 1 dd_X11_fine rfl (by decide) (by decide) rfl (Nat.le_of_ble_eq_true rfl) dX11_loss_34 rfl (fun r_10 σ_9 h => ?_)
    exact f_iret C dX11_loss_37 h
  · replace h := Eq.mp (if_neg hq_3) h
    refine f_aload_n C (j := 1) dX11_loss_10 rfl rfl rfl ?_
    refine f_iload_n C (j := 0) dX11_loss_11 rfl rfl rfl ?_
    refine f_callVi C (a := 1) (ci := 11) (As := fun B => [.int r_2]) o1 rfl (c_X11_refuse  _ _ _ h) tM_X11_126 tI_X11_refuse tS_X11_refuse tN_X11 tC_X11_refuse 1 dd_X11_refuse rfl (by decide) (by decide) rfl (Nat.le_of_ble_eq_true rfl) dX11_loss_12 rfl (fun r_12 σ_11 h => ?_)
    refine f_goto C (t := 37) dX11_loss_15 (by decide) ?_
    exact f_iret C dX11_loss_37 h
theorem c_X11_loss (x1 : Int32) (σ : Sto) (P : Int32 → Sto → Prop) (h : w_X11_loss x1 σ P) : Ct yX11_loss cX11_loss 3 (some .int) 4 90 (fun B => [.ref (B + 1), .int x1]) σ (QFi P) := Ct.of (by decide) (fun _ => Nat.le_of_ble_eq_true rfl) (fun B E C => s_X11_loss C x1 σ h)
def w_X11_keystone_57 (K15 : Int32 × Int32 × Int32 × Sto → Prop) (x1 : Int32) (x2 : Int32) (x3 : Int32) (x4 : Int32) (z0 : Int32) (σ : Sto) (P : Int32 → Sto → Prop) : Prop :=
  (if z0 ≤ x3 then ∀ x4_11 : Int32, x4_11 = x4 + 1 → K15 (x2, x3, x4_11, σ) else ∀ x4_13 : Int32, x4_13 = x4 + 1 → K15 (x4, z0, x4_13, σ))
theorem s_X11_keystone_57 {B : Nat} {E : Nat → List (Nat × Value) → List Value → Sto → Prop} {P : Int32 → Sto → Prop} (C : Cy B E RX11 cX11_keystone 6 (some .int) 4 90 (Zm (QFi P))) (x1 : Int32) (x2 : Int32) (x3 : Int32) (x4 : Int32) (z0 : Int32) (K15 : Int32 × Int32 × Int32 × Sto → Prop) (hK15 : ∀ (x2 : Int32) (x3 : Int32) (x4 : Int32) (σ : Sto), K15 (x2, x3, x4, σ) → E 15 [(0, .ref (B + 1)), (1, .int x1), (2, .int x2), (3, .int x3), (4, .int x4)] [] σ) (σ : Sto) (h : w_X11_keystone_57 K15 x1 x2 x3 x4 z0 σ P) : E 57 [(0, .ref (B + 1)), (1, .int x1), (2, .int x2), (3, .int x3), (4, .int x4)] [.int z0] σ := by
  unfold w_X11_keystone_57 at h
  refine f_istore C (lv2 := [(5, .int z0), (0, .ref (B + 1)), (1, .int x1), (2, .int x2), (3, .int x3), (4, .int x4)]) dX11_keystone_57 (by decide) rfl rfl ?_
  refine f_iload C (j := 0) dX11_keystone_59 rfl rfl ?_
  refine f_iload_n C (j := 4) dX11_keystone_61 rfl rfl rfl ?_
  refine f_icmp_le C (t := 71) dX11_keystone_62 (by decide) rfl (fun hq_10 => ?_) (fun hq_10 => ?_)
  · replace h := Eq.mp (if_pos hq_10) h
    obtain ⟨x4_11, hx_12⟩ : ∃ y : Int32, y = x4 + 1 := ⟨_, rfl⟩
    replace h := h x4_11 hx_12
    refine f_iinc C (j := 5) (v := x4_11) (lv2 := [(4, .int x4_11), (5, .int z0), (0, .ref (B + 1)), (1, .int x1), (2, .int x2), (3, .int x3)]) dX11_keystone_71 rfl hx_12.symm (by decide) rfl rfl ?_
    refine f_goto C (t := 15) dX11_keystone_74 (by decide) ?_
    refine f_lv C (lv2 := [(0, .ref (B + 1)), (1, .int x1), (2, .int x2), (3, .int x3), (4, .int x4_11)]) [2, 3, 4, 5, 0] rfl ?_
    exact hK15 _ _ _ _ h
  · replace h := Eq.mp (if_neg hq_10) h
    refine f_iload C (j := 0) dX11_keystone_65 rfl rfl ?_
    refine f_istore_n C (lv2 := [(3, .int z0), (5, .int z0), (0, .ref (B + 1)), (1, .int x1), (2, .int x2), (4, .int x4)]) dX11_keystone_67 rfl (by decide) rfl rfl ?_
    refine f_iload C (j := 5) dX11_keystone_68 rfl rfl ?_
    refine f_istore_n C (lv2 := [(2, .int x4), (3, .int z0), (5, .int z0), (0, .ref (B + 1)), (1, .int x1), (4, .int x4)]) dX11_keystone_70 rfl (by decide) rfl rfl ?_
    obtain ⟨x4_13, hx_14⟩ : ∃ y : Int32, y = x4 + 1 := ⟨_, rfl⟩
    replace h := h x4_13 hx_14
    refine f_iinc C (j := 5) (v := x4_13) (lv2 := [(4, .int x4_13), (2, .int x4), (3, .int z0), (5, .int z0), (0, .ref (B + 1)), (1, .int x1)]) dX11_keystone_71 rfl hx_14.symm (by decide) rfl rfl ?_
    refine f_goto C (t := 15) dX11_keystone_74 (by decide) ?_
    refine f_lv C (lv2 := [(0, .ref (B + 1)), (1, .int x1), (2, .int x4), (3, .int z0), (4, .int x4_13)]) [4, 5, 1, 2, 0] rfl ?_
    exact hK15 _ _ _ _ h
def w_X11_keystone_15 (K15 : Int32 × Int32 × Int32 × Sto → Prop) (x1 : Int32) (x2 : Int32) (x3 : Int32) (x4 : Int32) (σ : Sto) (P : Int32 → Sto → Prop) : Prop :=
  isCity (gr σ 1 11) ∧ (if (gi σ (gr σ 1 11) 8) ≤ x4 then w_X11_fineOrNone x2 σ (fun r_6 σ_5 => P r_6 σ_5) else w_X11_isOneOf x4 x1 σ (fun r_8 σ_7 => (if r_8 = 0 then w_X11_keystone_57 K15 x1 x2 x3 x4 (-1) σ_7 P else isCity (gr σ_7 1 11) ∧ w_X6_fallingWith x4 σ_7 (fun r_17 σ_16 => w_X1_worthOf (gr σ_7 1 11) r_17 σ_16 (fun r_19 σ_18 => w_X11_keystone_57 K15 x1 x2 x3 x4 r_19 σ_18 P)))))
theorem s_X11_keystone_15 {B : Nat} {E : Nat → List (Nat × Value) → List Value → Sto → Prop} {P : Int32 → Sto → Prop} (C : Cy B E RX11 cX11_keystone 6 (some .int) 4 90 (Zm (QFi P))) (x1 : Int32) (x2 : Int32) (x3 : Int32) (x4 : Int32) (K15 : Int32 × Int32 × Int32 × Sto → Prop) (hK15 : ∀ (x2 : Int32) (x3 : Int32) (x4 : Int32) (σ : Sto), K15 (x2, x3, x4, σ) → E 15 [(0, .ref (B + 1)), (1, .int x1), (2, .int x2), (3, .int x3), (4, .int x4)] [] σ) (σ : Sto) (h : w_X11_keystone_15 K15 x1 x2 x3 x4 σ P) : E 15 [(0, .ref (B + 1)), (1, .int x1), (2, .int x2), (3, .int x3), (4, .int x4)] [] σ := by
  unfold w_X11_keystone_15 at h
  refine f_iload C (j := 4) dX11_keystone_15 rfl rfl ?_
  refine f_aload_n C (j := 0) dX11_keystone_17 rfl rfl rfl ?_
  obtain ⟨hc_3, h⟩ := h
  refine f_getm C tF_X11_26 rfl o1 cn1_11 hc_3.z dX11_keystone_18 rfl ?_
  refine f_geti C tF_X11_139 rfl hc_3.o dX11_keystone_21 rfl ?_
  refine f_icmp_ge C (t := 77) dX11_keystone_24 (by decide) rfl (fun hq_4 => ?_) (fun hq_4 => ?_)
  · replace h := Eq.mp (if_pos hq_4) h
    refine f_aload_n C (j := 0) dX11_keystone_77 rfl rfl rfl ?_
    refine f_iload_n C (j := 2) dX11_keystone_78 rfl rfl rfl ?_
    refine f_callVi C (a := 1) (ci := 11) (As := fun B => [.int x2]) o1 rfl (c_X11_fineOrNone  _ _ _ h) tM_X11_312 tI_X11_fineOrNone tS_X11_fineOrNone tN_X11 tC_X11_fineOrNone 1 dd_X11_fineOrNone rfl (by decide) (by decide) rfl (Nat.le_of_ble_eq_true rfl) dX11_keystone_79 rfl (fun r_6 σ_5 h => ?_)
    exact f_iret C dX11_keystone_82 h
  · replace h := Eq.mp (if_neg hq_4) h
    refine f_aload_n C (j := 0) dX11_keystone_27 rfl rfl rfl ?_
    refine f_iload C (j := 4) dX11_keystone_28 rfl rfl ?_
    refine f_iload_n C (j := 1) dX11_keystone_30 rfl rfl rfl ?_
    refine f_callVi C (a := 1) (ci := 11) (As := fun B => [.int x4, .int x1]) o1 rfl (c_X11_isOneOf  _ _ _ _ h) tM_X11_297 tI_X11_isOneOf tS_X11_isOneOf tN_X11 tC_X11_isOneOf 2 dd_X11_isOneOf rfl (by decide) (by decide) rfl (Nat.le_of_ble_eq_true rfl) dX11_keystone_31 rfl (fun r_8 σ_7 h => ?_)
    refine f_if_eq C (t := 56) dX11_keystone_34 (by decide) rfl (fun hq_9 => ?_) (fun hq_9 => ?_)
    · replace h := Eq.mp (if_pos hq_9) h
      refine f_iconst C (v := (-1)) dX11_keystone_56 kcm1 rfl ?_
      exact s_X11_keystone_57 C _ _ _ _ _  K15 hK15 _ h
    · replace h := Eq.mp (if_neg hq_9) h
      refine f_aload_n C (j := 0) dX11_keystone_37 rfl rfl rfl ?_
      obtain ⟨hc_15, h⟩ := h
      refine f_getm C tF_X11_26 rfl o1 cn1_11 hc_15.z dX11_keystone_38 rfl ?_
      refine f_aload_n C (j := 0) dX11_keystone_41 rfl rfl rfl ?_
      refine f_getc C tF_X11_58 rfl o1 cs1_4 (by decide) dX11_keystone_42 rfl ?_
      refine f_iload C (j := 4) dX11_keystone_45 rfl rfl ?_
      refine f_callVi C (a := 88) (ci := 6) (As := fun B => [.int x4]) o88 rfl (c_X6_fallingWith  _ _ _ h) tM_X11_324 tI_X6_fallingWith tS_X6_fallingWith tN_X6 tC_X6_fallingWith 1 dd_X6_fallingWith rfl (by decide) (by decide) rfl (Nat.le_of_ble_eq_true rfl) dX11_keystone_47 rfl (fun r_17 σ_16 h => ?_)
      refine f_callVi C (a := gr σ_7 1 11) (ci := 1) (As := fun B => [.int r_17]) hc_15.o rfl (c_X1_worthOf  _ _ _ _ h) tM_X11_264 tI_X1_worthOf tS_X1_worthOf tN_X1 tC_X1_worthOf 1 dd_X1_worthOf rfl (by decide) (by decide) rfl (Nat.le_of_ble_eq_true rfl) dX11_keystone_50 rfl (fun r_19 σ_18 h => ?_)
      refine f_goto C (t := 57) dX11_keystone_53 (by decide) ?_
      exact s_X11_keystone_57 C _ _ _ _ _  K15 hK15 _ h
def w_X11_keystone (σ : Sto) (P : Int32 → Sto → Prop) : Prop :=
  w_X6_atPresent σ (fun r_2 σ_1 => Lp (fun (K : Int32 × Int32 × Int32 × Sto → Prop) s => w_X11_keystone_15 K r_2 s.1 s.2.1 s.2.2.1 s.2.2.2 P) ((-1), (-1), 0, σ_1))
theorem s_X11_keystone {B : Nat} {E : Nat → List (Nat × Value) → List Value → Sto → Prop} {P : Int32 → Sto → Prop} (C : Cy B E RX11 cX11_keystone 6 (some .int) 4 90 (Zm (QFi P))) (σ : Sto) (h : w_X11_keystone σ P) : E 0 [(0, .ref (B + 1))] [] σ := by
  unfold w_X11_keystone at h
  refine f_aload_n C (j := 0) dX11_keystone_0 rfl rfl rfl ?_
  refine f_getc C tF_X11_58 rfl o1 cs1_4 (by decide) dX11_keystone_1 rfl ?_
  refine f_callVi C (a := 88) (ci := 6) (As := fun B => []) o88 rfl (c_X6_atPresent   _ _ h) tM_X11_242 tI_X6_atPresent tS_X6_atPresent tN_X6 tC_X6_atPresent 0 dd_X6_atPresent rfl (by decide) (by decide) rfl (Nat.le_of_ble_eq_true rfl) dX11_keystone_4 rfl (fun r_2 σ_1 h => ?_)
  refine f_istore_n C (lv2 := [(1, .int r_2), (0, .ref (B + 1))]) dX11_keystone_7 rfl (by decide) rfl rfl ?_
  refine f_iconst C (v := (-1)) dX11_keystone_8 kcm1 rfl ?_
  refine f_istore_n C (lv2 := [(2, .int (-1)), (1, .int r_2), (0, .ref (B + 1))]) dX11_keystone_9 rfl (by decide) rfl rfl ?_
  refine f_iconst C (v := (-1)) dX11_keystone_10 kcm1 rfl ?_
  refine f_istore_n C (lv2 := [(3, .int (-1)), (2, .int (-1)), (1, .int r_2), (0, .ref (B + 1))]) dX11_keystone_11 rfl (by decide) rfl rfl ?_
  refine f_iconst C (v := 0) dX11_keystone_12 kc0 rfl ?_
  refine f_istore C (lv2 := [(4, .int 0), (3, .int (-1)), (2, .int (-1)), (1, .int r_2), (0, .ref (B + 1))]) dX11_keystone_13 (by decide) rfl rfl ?_
  refine f_lv C (lv2 := [(0, .ref (B + 1)), (1, .int r_2), (2, .int (-1)), (3, .int (-1)), (4, .int 0)]) [4, 3, 2, 1, 0] rfl ?_
  exact Lp_sound (fun s : Int32 × Int32 × Int32 × Sto => E 15 [(0, .ref (B + 1)), (1, .int r_2), (2, .int s.1), (3, .int s.2.1), (4, .int s.2.2.1)] [] s.2.2.2) h (fun K s hK h => s_X11_keystone_15 C r_2 s.1 s.2.1 s.2.2.1 K (fun x2 x3 x4 σ hk => hK (x2, x3, x4, σ) hk) s.2.2.2 h)
theorem c_X11_keystone (σ : Sto) (P : Int32 → Sto → Prop) (h : w_X11_keystone σ P) : Ct yX11_keystone cX11_keystone 6 (some .int) 4 90 (fun B => [.ref (B + 1)]) σ (QFi P) := Ct.of (by decide) (fun _ => Nat.le_of_ble_eq_true rfl) (fun B E C => s_X11_keystone C σ h)
def w_X11_goneBy (x1 : Int32) (σ : Sto) (P : Int32 → Sto → Prop) : Prop :=
  w_X11_noThing x1 σ (fun r_2 σ_1 => (if r_2 = 0 then w_X5_yearsTillWithout (1 <<< (x1 &&& 31)) σ_1 (fun r_5 σ_4 => w_X11_fineOrNone r_5 σ_4 (fun r_7 σ_6 => P r_7 σ_6)) else w_X11_refuse 2 σ_1 (fun r_9 σ_8 => P r_9 σ_8)))
theorem s_X11_goneBy {B : Nat} {E : Nat → List (Nat × Value) → List Value → Sto → Prop} {P : Int32 → Sto → Prop} (C : Cy B E RX11 cX11_goneBy 2 (some .int) 4 100 (Zm (QFi P))) (x1 : Int32) (σ : Sto) (h : w_X11_goneBy x1 σ P) : E 0 [(0, .ref (B + 1)), (1, .int x1)] [] σ := by
  unfold w_X11_goneBy at h
  refine f_aload_n C (j := 0) dX11_goneBy_0 rfl rfl rfl ?_
  refine f_iload_n C (j := 1) dX11_goneBy_1 rfl rfl rfl ?_
  refine f_callVi C (a := 1) (ci := 11) (As := fun B => [.int x1]) o1 rfl (c_X11_noThing  _ _ _ h) tM_X11_267 tI_X11_noThing tS_X11_noThing tN_X11 tC_X11_noThing 1 dd_X11_noThing rfl (by decide) (by decide) rfl (Nat.le_of_ble_eq_true rfl) dX11_goneBy_2 rfl (fun r_2 σ_1 h => ?_)
  refine f_if_eq C (t := 16) dX11_goneBy_5 (by decide) rfl (fun hq_3 => ?_) (fun hq_3 => ?_)
  · replace h := Eq.mp (if_pos hq_3) h
    refine f_aload_n C (j := 0) dX11_goneBy_16 rfl rfl rfl ?_
    refine f_aload_n C (j := 0) dX11_goneBy_17 rfl rfl rfl ?_
    refine f_getc C tF_X11_76 rfl o1 cs1_6 (by decide) dX11_goneBy_18 rfl ?_
    refine f_iconst C (v := 1) dX11_goneBy_21 kc1 rfl ?_
    refine f_iload_n C (j := 1) dX11_goneBy_22 rfl rfl rfl ?_
    refine f_ishl C dX11_goneBy_23 rfl ?_
    refine f_callVi C (a := 93) (ci := 5) (As := fun B => [.int (1 <<< (x1 &&& 31))]) o93 rfl (c_X5_yearsTillWithout  _ _ _ h) tM_X11_327 tI_X5_yearsTillWithout tS_X5_yearsTillWithout tN_X5 tC_X5_yearsTillWithout 1 dd_X5_yearsTillWithout rfl (by decide) (by decide) rfl (Nat.le_of_ble_eq_true rfl) dX11_goneBy_24 rfl (fun r_5 σ_4 h => ?_)
    refine f_callVi C (a := 1) (ci := 11) (As := fun B => [.int r_5]) o1 rfl (c_X11_fineOrNone  _ _ _ h) tM_X11_312 tI_X11_fineOrNone tS_X11_fineOrNone tN_X11 tC_X11_fineOrNone 1 dd_X11_fineOrNone rfl (by decide) (by decide) rfl (Nat.le_of_ble_eq_true rfl) dX11_goneBy_27 rfl (fun r_7 σ_6 h => ?_)
    exact f_iret C dX11_goneBy_30 h
  · replace h := Eq.mp (if_neg hq_3) h
    refine f_aload_n C (j := 0) dX11_goneBy_8 rfl rfl rfl ?_
    refine f_iconst C (v := 2) dX11_goneBy_9 kc2 rfl ?_
    refine f_callVi C (a := 1) (ci := 11) (As := fun B => [.int 2]) o1 rfl (c_X11_refuse  _ _ _ h) tM_X11_126 tI_X11_refuse tS_X11_refuse tN_X11 tC_X11_refuse 1 dd_X11_refuse rfl (by decide) (by decide) rfl (Nat.le_of_ble_eq_true rfl) dX11_goneBy_10 rfl (fun r_9 σ_8 h => ?_)
    refine f_goto C (t := 30) dX11_goneBy_13 (by decide) ?_
    exact f_iret C dX11_goneBy_30 h
theorem c_X11_goneBy (x1 : Int32) (σ : Sto) (P : Int32 → Sto → Prop) (h : w_X11_goneBy x1 σ P) : Ct yX11_goneBy cX11_goneBy 2 (some .int) 4 100 (fun B => [.ref (B + 1), .int x1]) σ (QFi P) := Ct.of (by decide) (fun _ => Nat.le_of_ble_eq_true rfl) (fun B E C => s_X11_goneBy C x1 σ h)
def w_X11_ends (x1 : Int32) (σ : Sto) (P : Int32 → Sto → Prop) : Prop :=
  w_X11_noWork x1 σ (fun r_2 σ_1 => (if r_2 = 0 then isCity (gr σ_1 1 11) ∧ vp_in x1 6 ∧ w_X5_yearsTillWithout (gi σ_1 ((gr σ_1 1 11) + 5) (tn x1)) σ_1 (fun r_7 σ_6 => w_X11_fineOrNone r_7 σ_6 (fun r_9 σ_8 => P r_9 σ_8)) else w_X11_refuse 2 σ_1 (fun r_11 σ_10 => P r_11 σ_10)))
theorem s_X11_ends {B : Nat} {E : Nat → List (Nat × Value) → List Value → Sto → Prop} {P : Int32 → Sto → Prop} (C : Cy B E RX11 cX11_ends 2 (some .int) 4 100 (Zm (QFi P))) (x1 : Int32) (σ : Sto) (h : w_X11_ends x1 σ P) : E 0 [(0, .ref (B + 1)), (1, .int x1)] [] σ := by
  unfold w_X11_ends at h
  refine f_aload_n C (j := 0) dX11_ends_0 rfl rfl rfl ?_
  refine f_iload_n C (j := 1) dX11_ends_1 rfl rfl rfl ?_
  refine f_callVi C (a := 1) (ci := 11) (As := fun B => [.int x1]) o1 rfl (c_X11_noWork  _ _ _ h) tM_X11_285 tI_X11_noWork tS_X11_noWork tN_X11 tC_X11_noWork 1 dd_X11_noWork rfl (by decide) (by decide) rfl (Nat.le_of_ble_eq_true rfl) dX11_ends_2 rfl (fun r_2 σ_1 h => ?_)
  refine f_if_eq C (t := 16) dX11_ends_5 (by decide) rfl (fun hq_3 => ?_) (fun hq_3 => ?_)
  · replace h := Eq.mp (if_pos hq_3) h
    refine f_aload_n C (j := 0) dX11_ends_16 rfl rfl rfl ?_
    refine f_aload_n C (j := 0) dX11_ends_17 rfl rfl rfl ?_
    refine f_getc C tF_X11_76 rfl o1 cs1_6 (by decide) dX11_ends_18 rfl ?_
    refine f_aload_n C (j := 0) dX11_ends_21 rfl rfl rfl ?_
    obtain ⟨hc_4, h⟩ := h
    refine f_getm C tF_X11_26 rfl o1 cn1_11 hc_4.z dX11_ends_22 rfl ?_
    refine f_getc C tF_X11_288 rfl hc_4.o hc_4.c4 (Nat.succ_ne_zero _) dX11_ends_25 rfl ?_
    refine f_iload_n C (j := 1) dX11_ends_28 rfl rfl rfl ?_
    obtain ⟨hi_5, h⟩ := h
    refine f_iald C (j := tn x1) hc_4.a4 hi_5 rfl dX11_ends_29 rfl ?_
    refine f_callVi C (a := 93) (ci := 5) (As := fun B => [.int (gi σ_1 ((gr σ_1 1 11) + 5) (tn x1))]) o93 rfl (c_X5_yearsTillWithout  _ _ _ h) tM_X11_327 tI_X5_yearsTillWithout tS_X5_yearsTillWithout tN_X5 tC_X5_yearsTillWithout 1 dd_X5_yearsTillWithout rfl (by decide) (by decide) rfl (Nat.le_of_ble_eq_true rfl) dX11_ends_30 rfl (fun r_7 σ_6 h => ?_)
    refine f_callVi C (a := 1) (ci := 11) (As := fun B => [.int r_7]) o1 rfl (c_X11_fineOrNone  _ _ _ h) tM_X11_312 tI_X11_fineOrNone tS_X11_fineOrNone tN_X11 tC_X11_fineOrNone 1 dd_X11_fineOrNone rfl (by decide) (by decide) rfl (Nat.le_of_ble_eq_true rfl) dX11_ends_33 rfl (fun r_9 σ_8 h => ?_)
    exact f_iret C dX11_ends_36 h
  · replace h := Eq.mp (if_neg hq_3) h
    refine f_aload_n C (j := 0) dX11_ends_8 rfl rfl rfl ?_
    refine f_iconst C (v := 2) dX11_ends_9 kc2 rfl ?_
    refine f_callVi C (a := 1) (ci := 11) (As := fun B => [.int 2]) o1 rfl (c_X11_refuse  _ _ _ h) tM_X11_126 tI_X11_refuse tS_X11_refuse tN_X11 tC_X11_refuse 1 dd_X11_refuse rfl (by decide) (by decide) rfl (Nat.le_of_ble_eq_true rfl) dX11_ends_10 rfl (fun r_11 σ_10 h => ?_)
    refine f_goto C (t := 36) dX11_ends_13 (by decide) ?_
    exact f_iret C dX11_ends_36 h
theorem c_X11_ends (x1 : Int32) (σ : Sto) (P : Int32 → Sto → Prop) (h : w_X11_ends x1 σ P) : Ct yX11_ends cX11_ends 2 (some .int) 4 100 (fun B => [.ref (B + 1), .int x1]) σ (QFi P) := Ct.of (by decide) (fun _ => Nat.le_of_ble_eq_true rfl) (fun B E C => s_X11_ends C x1 σ h)
def w_X11_later_10 (σ : Sto) (P : Int32 → Sto → Prop) : Prop :=
  w_X11_refuse 5 σ (fun r_3 σ_2 => P r_3 σ_2)
theorem s_X11_later_10 {B : Nat} {E : Nat → List (Nat × Value) → List Value → Sto → Prop} {P : Int32 → Sto → Prop} (C : Cy B E RX11 cX11_later 4 (some .int) 3 77 (Zm (QFi P))) (σ : Sto) (h : w_X11_later_10 σ P) : E 10 [(0, .ref (B + 1))] [] σ := by
  unfold w_X11_later_10 at h
  refine f_aload_n C (j := 0) dX11_later_10 rfl rfl rfl ?_
  refine f_iconst C (v := 5) dX11_later_11 kc5 rfl ?_
  refine f_callVi C (a := 1) (ci := 11) (As := fun B => [.int 5]) o1 rfl (c_X11_refuse  _ _ _ h) tM_X11_126 tI_X11_refuse tS_X11_refuse tN_X11 tC_X11_refuse 1 dd_X11_refuse rfl (by decide) (by decide) rfl (Nat.le_of_ble_eq_true rfl) dX11_later_12 rfl (fun r_3 σ_2 h => ?_)
  exact f_iret C dX11_later_15 h
def w_X11_later_26 (K26 : Int32 × Int32 × Sto → Prop) (x1 : Int32) (x2 : Int32) (x3 : Int32) (σ : Sto) (P : Int32 → Sto → Prop) : Prop :=
  (if x1 ≤ x3 then w_X6_without x2 σ (fun r_10 σ_9 => w_X11_fine r_10 σ_9 (fun r_12 σ_11 => P r_12 σ_11)) else isCity (gr σ 1 11) ∧ w_X0_goneNextYear x2 (gi σ (gr σ 1 11) 15) σ (fun r_15 σ_14 => ∀ x3_16 : Int32, x3_16 = x3 + 1 → K26 (r_15, x3_16, σ_14)))
theorem s_X11_later_26 {B : Nat} {E : Nat → List (Nat × Value) → List Value → Sto → Prop} {P : Int32 → Sto → Prop} (C : Cy B E RX11 cX11_later 4 (some .int) 3 77 (Zm (QFi P))) (x1 : Int32) (x2 : Int32) (x3 : Int32) (K26 : Int32 × Int32 × Sto → Prop) (hK26 : ∀ (x2 : Int32) (x3 : Int32) (σ : Sto), K26 (x2, x3, σ) → E 26 [(0, .ref (B + 1)), (1, .int x1), (2, .int x2), (3, .int x3)] [] σ) (σ : Sto) (h : w_X11_later_26 K26 x1 x2 x3 σ P) : E 26 [(0, .ref (B + 1)), (1, .int x1), (2, .int x2), (3, .int x3)] [] σ := by
  unfold w_X11_later_26 at h
  refine f_iload_n C (j := 3) dX11_later_26 rfl rfl rfl ?_
  refine f_iload_n C (j := 1) dX11_later_27 rfl rfl rfl ?_
  refine f_icmp_ge C (t := 53) dX11_later_28 (by decide) rfl (fun hq_8 => ?_) (fun hq_8 => ?_)
  · replace h := Eq.mp (if_pos hq_8) h
    refine f_aload_n C (j := 0) dX11_later_53 rfl rfl rfl ?_
    refine f_aload_n C (j := 0) dX11_later_54 rfl rfl rfl ?_
    refine f_getc C tF_X11_58 rfl o1 cs1_4 (by decide) dX11_later_55 rfl ?_
    refine f_iload_n C (j := 2) dX11_later_58 rfl rfl rfl ?_
    refine f_callVi C (a := 88) (ci := 6) (As := fun B => [.int x2]) o88 rfl (c_X6_without  _ _ _ h) tM_X11_330 tI_X6_without tS_X6_without tN_X6 tC_X6_without 1 dd_X6_without rfl (by decide) (by decide) rfl (Nat.le_of_ble_eq_true rfl) dX11_later_59 rfl (fun r_10 σ_9 h => ?_)
    refine f_callVi C (a := 1) (ci := 11) (As := fun B => [.int r_10]) o1 rfl (c_X11_fine  _ _ _ h) tM_X11_130 tI_X11_fine tS_X11_fine tN_X11 tC_X11_fine 1 dd_X11_fine rfl (by decide) (by decide) rfl (Nat.le_of_ble_eq_true rfl) dX11_later_62 rfl (fun r_12 σ_11 h => ?_)
    exact f_iret C dX11_later_65 h
  · replace h := Eq.mp (if_neg hq_8) h
    refine f_aload_n C (j := 0) dX11_later_31 rfl rfl rfl ?_
    refine f_getc C tF_X11_67 rfl o1 cs1_5 (by decide) dX11_later_32 rfl ?_
    refine f_iload_n C (j := 2) dX11_later_35 rfl rfl rfl ?_
    refine f_aload_n C (j := 0) dX11_later_36 rfl rfl rfl ?_
    obtain ⟨hc_13, h⟩ := h
    refine f_getm C tF_X11_26 rfl o1 cn1_11 hc_13.z dX11_later_37 rfl ?_
    refine f_geti C tF_X11_258 rfl hc_13.o dX11_later_40 rfl ?_
    refine f_callVi C (a := 90) (ci := 0) (As := fun B => [.int x2, .int (gi σ (gr σ 1 11) 15)]) o90 rfl (c_X0_goneNextYear  _ _ _ _ h) tM_X11_300 tI_X0_goneNextYear tS_X0_goneNextYear tN_X0 tC_X0_goneNextYear 2 dd_X0_goneNextYear rfl (by decide) (by decide) rfl (Nat.le_of_ble_eq_true rfl) dX11_later_43 rfl (fun r_15 σ_14 h => ?_)
    refine f_istore_n C (lv2 := [(2, .int r_15), (0, .ref (B + 1)), (1, .int x1), (3, .int x3)]) dX11_later_46 rfl (by decide) rfl rfl ?_
    obtain ⟨x3_16, hx_17⟩ : ∃ y : Int32, y = x3 + 1 := ⟨_, rfl⟩
    replace h := h x3_16 hx_17
    refine f_iinc C (j := 3) (v := x3_16) (lv2 := [(3, .int x3_16), (2, .int r_15), (0, .ref (B + 1)), (1, .int x1)]) dX11_later_47 rfl hx_17.symm (by decide) rfl rfl ?_
    refine f_goto C (t := 26) dX11_later_50 (by decide) ?_
    refine f_lv C (lv2 := [(0, .ref (B + 1)), (1, .int x1), (2, .int r_15), (3, .int x3_16)]) [2, 3, 1, 0] rfl ?_
    exact hK26 _ _ _ h
def w_X11_later (x1 : Int32) (σ : Sto) (P : Int32 → Sto → Prop) : Prop :=
  (if x1 < 0 then w_X11_later_10 σ P else (if x1 ≤ 99 then isCity (gr σ 1 11) ∧ ∀ x2_6 : Int32, x2_6 = gi σ (gr σ 1 11) 14 → Lp (fun (K : Int32 × Int32 × Sto → Prop) s => w_X11_later_26 K x1 s.1 s.2.1 s.2.2 P) (x2_6, 0, σ) else w_X11_later_10 σ P))
theorem s_X11_later {B : Nat} {E : Nat → List (Nat × Value) → List Value → Sto → Prop} {P : Int32 → Sto → Prop} (C : Cy B E RX11 cX11_later 4 (some .int) 3 77 (Zm (QFi P))) (x1 : Int32) (σ : Sto) (h : w_X11_later x1 σ P) : E 0 [(0, .ref (B + 1)), (1, .int x1)] [] σ := by
  unfold w_X11_later at h
  refine f_iload_n C (j := 1) dX11_later_0 rfl rfl rfl ?_
  refine f_if_lt C (t := 10) dX11_later_1 (by decide) rfl (fun hq_1 => ?_) (fun hq_1 => ?_)
  · replace h := Eq.mp (if_pos hq_1) h
    refine f_lv C (lv2 := [(0, .ref (B + 1))]) [0] rfl ?_
    exact s_X11_later_10 C  _ h
  · replace h := Eq.mp (if_neg hq_1) h
    refine f_iload_n C (j := 1) dX11_later_4 rfl rfl rfl ?_
    refine f_bipush C (v := 99) dX11_later_5 kb99 rfl ?_
    refine f_icmp_le C (t := 16) dX11_later_7 (by decide) rfl (fun hq_4 => ?_) (fun hq_4 => ?_)
    · replace h := Eq.mp (if_pos hq_4) h
      refine f_aload_n C (j := 0) dX11_later_16 rfl rfl rfl ?_
      obtain ⟨hc_5, h⟩ := h
      refine f_getm C tF_X11_26 rfl o1 cn1_11 hc_5.z dX11_later_17 rfl ?_
      refine f_geti C tF_X11_255 rfl hc_5.o dX11_later_20 rfl ?_
      refine f_name (fun x2_6 hx_7 => ?_)
      replace h := h x2_6 hx_7
      refine f_istore_n C (lv2 := [(2, .int x2_6), (0, .ref (B + 1)), (1, .int x1)]) dX11_later_23 rfl (by decide) rfl rfl ?_
      refine f_iconst C (v := 0) dX11_later_24 kc0 rfl ?_
      refine f_istore_n C (lv2 := [(3, .int 0), (2, .int x2_6), (0, .ref (B + 1)), (1, .int x1)]) dX11_later_25 rfl (by decide) rfl rfl ?_
      refine f_lv C (lv2 := [(0, .ref (B + 1)), (1, .int x1), (2, .int x2_6), (3, .int 0)]) [2, 3, 1, 0] rfl ?_
      exact Lp_sound (fun s : Int32 × Int32 × Sto => E 26 [(0, .ref (B + 1)), (1, .int x1), (2, .int s.1), (3, .int s.2.1)] [] s.2.2) h (fun K s hK h => s_X11_later_26 C x1 s.1 s.2.1 K (fun x2 x3 σ hk => hK (x2, x3, σ) hk) s.2.2 h)
    · replace h := Eq.mp (if_neg hq_4) h
      refine f_lv C (lv2 := [(0, .ref (B + 1))]) [0] rfl ?_
      exact s_X11_later_10 C  _ h
theorem c_X11_later (x1 : Int32) (σ : Sto) (P : Int32 → Sto → Prop) (h : w_X11_later x1 σ P) : Ct yX11_later cX11_later 4 (some .int) 3 77 (fun B => [.ref (B + 1), .int x1]) σ (QFi P) := Ct.of (by decide) (fun _ => Nat.le_of_ble_eq_true rfl) (fun B E C => s_X11_later C x1 σ h)
def w_X11_keepSet_24 (σ : Sto) (P : Int32 → Sto → Prop) : Prop :=
  w_X11_refuse 5 σ (fun r_6 σ_5 => P r_6 σ_5)
theorem s_X11_keepSet_24 {B : Nat} {E : Nat → List (Nat × Value) → List Value → Sto → Prop} {P : Int32 → Sto → Prop} (C : Cy B E RX11 cX11_keepSet 3 (some .int) 6 155 (Zm (QFi P))) (σ : Sto) (h : w_X11_keepSet_24 σ P) : E 24 [(0, .ref (B + 1))] [] σ := by
  unfold w_X11_keepSet_24 at h
  refine f_aload_n C (j := 0) dX11_keepSet_24 rfl rfl rfl ?_
  refine f_iconst C (v := 5) dX11_keepSet_25 kc5 rfl ?_
  refine f_callVi C (a := 1) (ci := 11) (As := fun B => [.int 5]) o1 rfl (c_X11_refuse  _ _ _ h) tM_X11_126 tI_X11_refuse tS_X11_refuse tN_X11 tC_X11_refuse 1 dd_X11_refuse rfl (by decide) (by decide) rfl (Nat.le_of_ble_eq_true rfl) dX11_keepSet_26 rfl (fun r_6 σ_5 h => ?_)
  exact f_iret C dX11_keepSet_29 h
def w_X11_keepSet (x1 : Int32) (x2 : Int32) (σ : Sto) (P : Int32 → Sto → Prop) : Prop :=
  w_X11_noWork x1 σ (fun r_2 σ_1 => (if r_2 = 0 then (if x2 < 0 then w_X11_keepSet_24 σ_1 P else (if x2 ≤ 12 then isCity (gr σ_1 1 11) ∧ vp_in x1 6 ∧ w_X5_leastKeeping (gi σ_1 ((gr σ_1 1 11) + 5) (tn x1)) x2 σ_1 (fun r_11 σ_10 => w_X11_fineOrNone r_11 σ_10 (fun r_13 σ_12 => P r_13 σ_12)) else w_X11_keepSet_24 σ_1 P)) else w_X11_refuse 2 σ_1 (fun r_15 σ_14 => P r_15 σ_14)))
theorem s_X11_keepSet {B : Nat} {E : Nat → List (Nat × Value) → List Value → Sto → Prop} {P : Int32 → Sto → Prop} (C : Cy B E RX11 cX11_keepSet 3 (some .int) 6 155 (Zm (QFi P))) (x1 : Int32) (x2 : Int32) (σ : Sto) (h : w_X11_keepSet x1 x2 σ P) : E 0 [(0, .ref (B + 1)), (1, .int x1), (2, .int x2)] [] σ := by
  unfold w_X11_keepSet at h
  refine f_aload_n C (j := 0) dX11_keepSet_0 rfl rfl rfl ?_
  refine f_iload_n C (j := 1) dX11_keepSet_1 rfl rfl rfl ?_
  refine f_callVi C (a := 1) (ci := 11) (As := fun B => [.int x1]) o1 rfl (c_X11_noWork  _ _ _ h) tM_X11_285 tI_X11_noWork tS_X11_noWork tN_X11 tC_X11_noWork 1 dd_X11_noWork rfl (by decide) (by decide) rfl (Nat.le_of_ble_eq_true rfl) dX11_keepSet_2 rfl (fun r_2 σ_1 h => ?_)
  refine f_if_eq C (t := 14) dX11_keepSet_5 (by decide) rfl (fun hq_3 => ?_) (fun hq_3 => ?_)
  · replace h := Eq.mp (if_pos hq_3) h
    refine f_iload_n C (j := 2) dX11_keepSet_14 rfl rfl rfl ?_
    refine f_if_lt C (t := 24) dX11_keepSet_15 (by decide) rfl (fun hq_4 => ?_) (fun hq_4 => ?_)
    · replace h := Eq.mp (if_pos hq_4) h
      refine f_lv C (lv2 := [(0, .ref (B + 1))]) [0] rfl ?_
      exact s_X11_keepSet_24 C  _ h
    · replace h := Eq.mp (if_neg hq_4) h
      refine f_iload_n C (j := 2) dX11_keepSet_18 rfl rfl rfl ?_
      refine f_bipush C (v := 12) dX11_keepSet_19 kb12 rfl ?_
      refine f_icmp_le C (t := 30) dX11_keepSet_21 (by decide) rfl (fun hq_7 => ?_) (fun hq_7 => ?_)
      · replace h := Eq.mp (if_pos hq_7) h
        refine f_aload_n C (j := 0) dX11_keepSet_30 rfl rfl rfl ?_
        refine f_aload_n C (j := 0) dX11_keepSet_31 rfl rfl rfl ?_
        refine f_getc C tF_X11_76 rfl o1 cs1_6 (by decide) dX11_keepSet_32 rfl ?_
        refine f_aload_n C (j := 0) dX11_keepSet_35 rfl rfl rfl ?_
        obtain ⟨hc_8, h⟩ := h
        refine f_getm C tF_X11_26 rfl o1 cn1_11 hc_8.z dX11_keepSet_36 rfl ?_
        refine f_getc C tF_X11_288 rfl hc_8.o hc_8.c4 (Nat.succ_ne_zero _) dX11_keepSet_39 rfl ?_
        refine f_iload_n C (j := 1) dX11_keepSet_42 rfl rfl rfl ?_
        obtain ⟨hi_9, h⟩ := h
        refine f_iald C (j := tn x1) hc_8.a4 hi_9 rfl dX11_keepSet_43 rfl ?_
        refine f_iload_n C (j := 2) dX11_keepSet_44 rfl rfl rfl ?_
        refine f_callVi C (a := 93) (ci := 5) (As := fun B => [.int (gi σ_1 ((gr σ_1 1 11) + 5) (tn x1)), .int x2]) o93 rfl (c_X5_leastKeeping  _ _ _ _ h) tM_X11_339 tI_X5_leastKeeping tS_X5_leastKeeping tN_X5 tC_X5_leastKeeping 2 dd_X5_leastKeeping rfl (by decide) (by decide) rfl (Nat.le_of_ble_eq_true rfl) dX11_keepSet_45 rfl (fun r_11 σ_10 h => ?_)
        refine f_callVi C (a := 1) (ci := 11) (As := fun B => [.int r_11]) o1 rfl (c_X11_fineOrNone  _ _ _ h) tM_X11_312 tI_X11_fineOrNone tS_X11_fineOrNone tN_X11 tC_X11_fineOrNone 1 dd_X11_fineOrNone rfl (by decide) (by decide) rfl (Nat.le_of_ble_eq_true rfl) dX11_keepSet_48 rfl (fun r_13 σ_12 h => ?_)
        exact f_iret C dX11_keepSet_51 h
      · replace h := Eq.mp (if_neg hq_7) h
        refine f_lv C (lv2 := [(0, .ref (B + 1))]) [0] rfl ?_
        exact s_X11_keepSet_24 C  _ h
  · replace h := Eq.mp (if_neg hq_3) h
    refine f_aload_n C (j := 0) dX11_keepSet_8 rfl rfl rfl ?_
    refine f_iconst C (v := 2) dX11_keepSet_9 kc2 rfl ?_
    refine f_callVi C (a := 1) (ci := 11) (As := fun B => [.int 2]) o1 rfl (c_X11_refuse  _ _ _ h) tM_X11_126 tI_X11_refuse tS_X11_refuse tN_X11 tC_X11_refuse 1 dd_X11_refuse rfl (by decide) (by decide) rfl (Nat.le_of_ble_eq_true rfl) dX11_keepSet_10 rfl (fun r_15 σ_14 h => ?_)
    exact f_iret C dX11_keepSet_13 h
theorem c_X11_keepSet (x1 : Int32) (x2 : Int32) (σ : Sto) (P : Int32 → Sto → Prop) (h : w_X11_keepSet x1 x2 σ P) : Ct yX11_keepSet cX11_keepSet 3 (some .int) 6 155 (fun B => [.ref (B + 1), .int x1, .int x2]) σ (QFi P) := Ct.of (by decide) (fun _ => Nat.le_of_ble_eq_true rfl) (fun B E C => s_X11_keepSet C x1 x2 σ h)
def w_X11_sizeOf (x1 : Int32) (σ : Sto) (P : Int32 → Sto → Prop) : Prop :=
  (if x1 = (-1) then P (-1) σ else w_J6_bitCount_0f7a4 x1 σ (fun r_3 σ_2 => P r_3 σ_2))
theorem s_X11_sizeOf {B : Nat} {E : Nat → List (Nat × Value) → List Value → Sto → Prop} {P : Int32 → Sto → Prop} (C : Cy B E RX11 cX11_sizeOf 2 (some .int) 1 20 (Zm (QFi P))) (x1 : Int32) (σ : Sto) (h : w_X11_sizeOf x1 σ P) : E 0 [(0, .ref (B + 1)), (1, .int x1)] [] σ := by
  unfold w_X11_sizeOf at h
  refine f_iload_n C (j := 1) dX11_sizeOf_0 rfl rfl rfl ?_
  refine f_iconst C (v := (-1)) dX11_sizeOf_1 kcm1 rfl ?_
  refine f_icmp_ne C (t := 9) dX11_sizeOf_2 (by decide) rfl (fun hq_1 => ?_) (fun hq_1 => ?_)
  · replace h := Eq.mp (if_neg hq_1) h
    refine f_iload_n C (j := 1) dX11_sizeOf_9 rfl rfl rfl ?_
    refine f_callSi C (As := fun B => [.int x1]) (c_J6_bitCount_0f7a4  _ _ _ h) tM_X11_342 tT_J6_bitCount_0f7a4 tN_J6 tC_J6_bitCount_0f7a4 1 dd_J6_bitCount_0f7a4 rfl (by decide) (by decide) rfl (Nat.le_of_ble_eq_true rfl) dX11_sizeOf_10 rfl (fun r_3 σ_2 h => ?_)
    exact f_iret C dX11_sizeOf_13 h
  · replace h := Eq.mp (if_pos hq_1) h
    refine f_iconst C (v := (-1)) dX11_sizeOf_5 kcm1 rfl ?_
    refine f_goto C (t := 13) dX11_sizeOf_6 (by decide) ?_
    exact f_iret C dX11_sizeOf_13 h
theorem c_X11_sizeOf (x1 : Int32) (σ : Sto) (P : Int32 → Sto → Prop) (h : w_X11_sizeOf x1 σ P) : Ct yX11_sizeOf cX11_sizeOf 2 (some .int) 1 20 (fun B => [.ref (B + 1), .int x1]) σ (QFi P) := Ct.of (by decide) (fun _ => Nat.le_of_ble_eq_true rfl) (fun B E C => s_X11_sizeOf C x1 σ h)
def w_X11_keep (x1 : Int32) (x2 : Int32) (σ : Sto) (P : Int32 → Sto → Prop) : Prop :=
  w_X11_keepSet x1 x2 σ (fun r_2 σ_1 => w_X11_sizeOf r_2 σ_1 (fun r_4 σ_3 => P r_4 σ_3))
theorem s_X11_keep {B : Nat} {E : Nat → List (Nat × Value) → List Value → Sto → Prop} {P : Int32 → Sto → Prop} (C : Cy B E RX11 cX11_keep 3 (some .int) 7 177 (Zm (QFi P))) (x1 : Int32) (x2 : Int32) (σ : Sto) (h : w_X11_keep x1 x2 σ P) : E 0 [(0, .ref (B + 1)), (1, .int x1), (2, .int x2)] [] σ := by
  unfold w_X11_keep at h
  refine f_aload_n C (j := 0) dX11_keep_0 rfl rfl rfl ?_
  refine f_aload_n C (j := 0) dX11_keep_1 rfl rfl rfl ?_
  refine f_iload_n C (j := 1) dX11_keep_2 rfl rfl rfl ?_
  refine f_iload_n C (j := 2) dX11_keep_3 rfl rfl rfl ?_
  refine f_callVi C (a := 1) (ci := 11) (As := fun B => [.int x1, .int x2]) o1 rfl (c_X11_keepSet  _ _ _ _ h) tM_X11_333 tI_X11_keepSet tS_X11_keepSet tN_X11 tC_X11_keepSet 2 dd_X11_keepSet rfl (by decide) (by decide) rfl (Nat.le_of_ble_eq_true rfl) dX11_keep_4 rfl (fun r_2 σ_1 h => ?_)
  refine f_callVi C (a := 1) (ci := 11) (As := fun B => [.int r_2]) o1 rfl (c_X11_sizeOf  _ _ _ h) tM_X11_336 tI_X11_sizeOf tS_X11_sizeOf tN_X11 tC_X11_sizeOf 1 dd_X11_sizeOf rfl (by decide) (by decide) rfl (Nat.le_of_ble_eq_true rfl) dX11_keep_7 rfl (fun r_4 σ_3 h => ?_)
  exact f_iret C dX11_keep_10 h
theorem c_X11_keep (x1 : Int32) (x2 : Int32) (σ : Sto) (P : Int32 → Sto → Prop) (h : w_X11_keep x1 x2 σ P) : Ct yX11_keep cX11_keep 3 (some .int) 7 177 (fun B => [.ref (B + 1), .int x1, .int x2]) σ (QFi P) := Ct.of (by decide) (fun _ => Nat.le_of_ble_eq_true rfl) (fun B E C => s_X11_keep C x1 x2 σ h)
def w_X11_strikeSet (x1 : Int32) (σ : Sto) (P : Int32 → Sto → Prop) : Prop :=
  w_X11_noWork x1 σ (fun r_2 σ_1 => (if r_2 = 0 then isCity (gr σ_1 1 11) ∧ vp_in x1 6 ∧ w_X5_leastEnding (gi σ_1 ((gr σ_1 1 11) + 5) (tn x1)) σ_1 (fun r_7 σ_6 => w_X11_fineOrNone r_7 σ_6 (fun r_9 σ_8 => P r_9 σ_8)) else w_X11_refuse 2 σ_1 (fun r_11 σ_10 => P r_11 σ_10)))
theorem s_X11_strikeSet {B : Nat} {E : Nat → List (Nat × Value) → List Value → Sto → Prop} {P : Int32 → Sto → Prop} (C : Cy B E RX11 cX11_strikeSet 2 (some .int) 6 152 (Zm (QFi P))) (x1 : Int32) (σ : Sto) (h : w_X11_strikeSet x1 σ P) : E 0 [(0, .ref (B + 1)), (1, .int x1)] [] σ := by
  unfold w_X11_strikeSet at h
  refine f_aload_n C (j := 0) dX11_strikeSet_0 rfl rfl rfl ?_
  refine f_iload_n C (j := 1) dX11_strikeSet_1 rfl rfl rfl ?_
  refine f_callVi C (a := 1) (ci := 11) (As := fun B => [.int x1]) o1 rfl (c_X11_noWork  _ _ _ h) tM_X11_285 tI_X11_noWork tS_X11_noWork tN_X11 tC_X11_noWork 1 dd_X11_noWork rfl (by decide) (by decide) rfl (Nat.le_of_ble_eq_true rfl) dX11_strikeSet_2 rfl (fun r_2 σ_1 h => ?_)
  refine f_if_eq C (t := 16) dX11_strikeSet_5 (by decide) rfl (fun hq_3 => ?_) (fun hq_3 => ?_)
  · replace h := Eq.mp (if_pos hq_3) h
    refine f_aload_n C (j := 0) dX11_strikeSet_16 rfl rfl rfl ?_
    refine f_aload_n C (j := 0) dX11_strikeSet_17 rfl rfl rfl ?_
    refine f_getc C tF_X11_76 rfl o1 cs1_6 (by decide) dX11_strikeSet_18 rfl ?_
    refine f_aload_n C (j := 0) dX11_strikeSet_21 rfl rfl rfl ?_
    obtain ⟨hc_4, h⟩ := h
    refine f_getm C tF_X11_26 rfl o1 cn1_11 hc_4.z dX11_strikeSet_22 rfl ?_
    refine f_getc C tF_X11_288 rfl hc_4.o hc_4.c4 (Nat.succ_ne_zero _) dX11_strikeSet_25 rfl ?_
    refine f_iload_n C (j := 1) dX11_strikeSet_28 rfl rfl rfl ?_
    obtain ⟨hi_5, h⟩ := h
    refine f_iald C (j := tn x1) hc_4.a4 hi_5 rfl dX11_strikeSet_29 rfl ?_
    refine f_callVi C (a := 93) (ci := 5) (As := fun B => [.int (gi σ_1 ((gr σ_1 1 11) + 5) (tn x1))]) o93 rfl (c_X5_leastEnding  _ _ _ h) tM_X11_350 tI_X5_leastEnding tS_X5_leastEnding tN_X5 tC_X5_leastEnding 1 dd_X5_leastEnding rfl (by decide) (by decide) rfl (Nat.le_of_ble_eq_true rfl) dX11_strikeSet_30 rfl (fun r_7 σ_6 h => ?_)
    refine f_callVi C (a := 1) (ci := 11) (As := fun B => [.int r_7]) o1 rfl (c_X11_fineOrNone  _ _ _ h) tM_X11_312 tI_X11_fineOrNone tS_X11_fineOrNone tN_X11 tC_X11_fineOrNone 1 dd_X11_fineOrNone rfl (by decide) (by decide) rfl (Nat.le_of_ble_eq_true rfl) dX11_strikeSet_33 rfl (fun r_9 σ_8 h => ?_)
    exact f_iret C dX11_strikeSet_36 h
  · replace h := Eq.mp (if_neg hq_3) h
    refine f_aload_n C (j := 0) dX11_strikeSet_8 rfl rfl rfl ?_
    refine f_iconst C (v := 2) dX11_strikeSet_9 kc2 rfl ?_
    refine f_callVi C (a := 1) (ci := 11) (As := fun B => [.int 2]) o1 rfl (c_X11_refuse  _ _ _ h) tM_X11_126 tI_X11_refuse tS_X11_refuse tN_X11 tC_X11_refuse 1 dd_X11_refuse rfl (by decide) (by decide) rfl (Nat.le_of_ble_eq_true rfl) dX11_strikeSet_10 rfl (fun r_11 σ_10 h => ?_)
    refine f_goto C (t := 36) dX11_strikeSet_13 (by decide) ?_
    exact f_iret C dX11_strikeSet_36 h
theorem c_X11_strikeSet (x1 : Int32) (σ : Sto) (P : Int32 → Sto → Prop) (h : w_X11_strikeSet x1 σ P) : Ct yX11_strikeSet cX11_strikeSet 2 (some .int) 6 152 (fun B => [.ref (B + 1), .int x1]) σ (QFi P) := Ct.of (by decide) (fun _ => Nat.le_of_ble_eq_true rfl) (fun B E C => s_X11_strikeSet C x1 σ h)
def w_X11_strike (x1 : Int32) (σ : Sto) (P : Int32 → Sto → Prop) : Prop :=
  w_X11_strikeSet x1 σ (fun r_2 σ_1 => w_X11_sizeOf r_2 σ_1 (fun r_4 σ_3 => P r_4 σ_3))
theorem s_X11_strike {B : Nat} {E : Nat → List (Nat × Value) → List Value → Sto → Prop} {P : Int32 → Sto → Prop} (C : Cy B E RX11 cX11_strike 2 (some .int) 7 173 (Zm (QFi P))) (x1 : Int32) (σ : Sto) (h : w_X11_strike x1 σ P) : E 0 [(0, .ref (B + 1)), (1, .int x1)] [] σ := by
  unfold w_X11_strike at h
  refine f_aload_n C (j := 0) dX11_strike_0 rfl rfl rfl ?_
  refine f_aload_n C (j := 0) dX11_strike_1 rfl rfl rfl ?_
  refine f_iload_n C (j := 1) dX11_strike_2 rfl rfl rfl ?_
  refine f_callVi C (a := 1) (ci := 11) (As := fun B => [.int x1]) o1 rfl (c_X11_strikeSet  _ _ _ h) tM_X11_347 tI_X11_strikeSet tS_X11_strikeSet tN_X11 tC_X11_strikeSet 1 dd_X11_strikeSet rfl (by decide) (by decide) rfl (Nat.le_of_ble_eq_true rfl) dX11_strike_3 rfl (fun r_2 σ_1 h => ?_)
  refine f_callVi C (a := 1) (ci := 11) (As := fun B => [.int r_2]) o1 rfl (c_X11_sizeOf  _ _ _ h) tM_X11_336 tI_X11_sizeOf tS_X11_sizeOf tN_X11 tC_X11_sizeOf 1 dd_X11_sizeOf rfl (by decide) (by decide) rfl (Nat.le_of_ble_eq_true rfl) dX11_strike_6 rfl (fun r_4 σ_3 h => ?_)
  exact f_iret C dX11_strike_9 h
theorem c_X11_strike (x1 : Int32) (σ : Sto) (P : Int32 → Sto → Prop) (h : w_X11_strike x1 σ P) : Ct yX11_strike cX11_strike 2 (some .int) 7 173 (fun B => [.ref (B + 1), .int x1]) σ (QFi P) := Ct.of (by decide) (fun _ => Nat.le_of_ble_eq_true rfl) (fun B E C => s_X11_strike C x1 σ h)
def w_X11_agenda_21 (σ : Sto) (P : Int32 → Sto → Prop) : Prop :=
  w_X11_refuse 5 σ (fun r_5 σ_4 => P r_5 σ_4)
theorem s_X11_agenda_21 {B : Nat} {E : Nat → List (Nat × Value) → List Value → Sto → Prop} {P : Int32 → Sto → Prop} (C : Cy B E RX11 cX11_agenda 2 (some .int) 5 122 (Zm (QFi P))) (σ : Sto) (h : w_X11_agenda_21 σ P) : E 21 [(0, .ref (B + 1))] [] σ := by
  unfold w_X11_agenda_21 at h
  refine f_aload_n C (j := 0) dX11_agenda_21 rfl rfl rfl ?_
  refine f_iconst C (v := 5) dX11_agenda_22 kc5 rfl ?_
  refine f_callVi C (a := 1) (ci := 11) (As := fun B => [.int 5]) o1 rfl (c_X11_refuse  _ _ _ h) tM_X11_126 tI_X11_refuse tS_X11_refuse tN_X11 tC_X11_refuse 1 dd_X11_refuse rfl (by decide) (by decide) rfl (Nat.le_of_ble_eq_true rfl) dX11_agenda_23 rfl (fun r_5 σ_4 h => ?_)
  exact f_iret C dX11_agenda_26 h
def w_X11_agenda (x1 : Int32) (σ : Sto) (P : Int32 → Sto → Prop) : Prop :=
  w_X11_noSetOfThings x1 σ (fun r_2 σ_1 => (if r_2 = 0 then (if x1 = 0 then w_X11_agenda_21 σ_1 P else w_J6_bitCount_0f7a4 x1 σ_1 (fun r_8 σ_7 => (if r_8 ≤ 6 then w_X6_atPresent σ_7 (fun r_11 σ_10 => (if (x1 &&& (~~~r_11)) = 0 then w_X5_listFor x1 σ_10 (fun r_14 σ_13 => w_X11_fine r_14 σ_13 (fun r_16 σ_15 => P r_16 σ_15)) else w_X11_refuse 9 σ_10 (fun r_18 σ_17 => P r_18 σ_17))) else w_X11_agenda_21 σ_7 P))) else w_X11_agenda_21 σ_1 P))
theorem s_X11_agenda {B : Nat} {E : Nat → List (Nat × Value) → List Value → Sto → Prop} {P : Int32 → Sto → Prop} (C : Cy B E RX11 cX11_agenda 2 (some .int) 5 122 (Zm (QFi P))) (x1 : Int32) (σ : Sto) (h : w_X11_agenda x1 σ P) : E 0 [(0, .ref (B + 1)), (1, .int x1)] [] σ := by
  unfold w_X11_agenda at h
  refine f_aload_n C (j := 0) dX11_agenda_0 rfl rfl rfl ?_
  refine f_iload_n C (j := 1) dX11_agenda_1 rfl rfl rfl ?_
  refine f_callVi C (a := 1) (ci := 11) (As := fun B => [.int x1]) o1 rfl (c_X11_noSetOfThings  _ _ _ h) tM_X11_353 tI_X11_noSetOfThings tS_X11_noSetOfThings tN_X11 tC_X11_noSetOfThings 1 dd_X11_noSetOfThings rfl (by decide) (by decide) rfl (Nat.le_of_ble_eq_true rfl) dX11_agenda_2 rfl (fun r_2 σ_1 h => ?_)
  refine f_if_ne C (t := 21) dX11_agenda_5 (by decide) rfl (fun hq_3 => ?_) (fun hq_3 => ?_)
  · replace h := Eq.mp (if_neg hq_3) h
    refine f_lv C (lv2 := [(0, .ref (B + 1))]) [0] rfl ?_
    exact s_X11_agenda_21 C  _ h
  · replace h := Eq.mp (if_pos hq_3) h
    refine f_iload_n C (j := 1) dX11_agenda_8 rfl rfl rfl ?_
    refine f_if_eq C (t := 21) dX11_agenda_9 (by decide) rfl (fun hq_6 => ?_) (fun hq_6 => ?_)
    · replace h := Eq.mp (if_pos hq_6) h
      refine f_lv C (lv2 := [(0, .ref (B + 1))]) [0] rfl ?_
      exact s_X11_agenda_21 C  _ h
    · replace h := Eq.mp (if_neg hq_6) h
      refine f_iload_n C (j := 1) dX11_agenda_12 rfl rfl rfl ?_
      refine f_callSi C (As := fun B => [.int x1]) (c_J6_bitCount_0f7a4  _ _ _ h) tM_X11_342 tT_J6_bitCount_0f7a4 tN_J6 tC_J6_bitCount_0f7a4 1 dd_J6_bitCount_0f7a4 rfl (by decide) (by decide) rfl (Nat.le_of_ble_eq_true rfl) dX11_agenda_13 rfl (fun r_8 σ_7 h => ?_)
      refine f_bipush C (v := 6) dX11_agenda_16 kb6 rfl ?_
      refine f_icmp_le C (t := 27) dX11_agenda_18 (by decide) rfl (fun hq_9 => ?_) (fun hq_9 => ?_)
      · replace h := Eq.mp (if_pos hq_9) h
        refine f_iload_n C (j := 1) dX11_agenda_27 rfl rfl rfl ?_
        refine f_aload_n C (j := 0) dX11_agenda_28 rfl rfl rfl ?_
        refine f_getc C tF_X11_58 rfl o1 cs1_4 (by decide) dX11_agenda_29 rfl ?_
        refine f_callVi C (a := 88) (ci := 6) (As := fun B => []) o88 rfl (c_X6_atPresent   _ _ h) tM_X11_242 tI_X6_atPresent tS_X6_atPresent tN_X6 tC_X6_atPresent 0 dd_X6_atPresent rfl (by decide) (by decide) rfl (Nat.le_of_ble_eq_true rfl) dX11_agenda_32 rfl (fun r_11 σ_10 h => ?_)
        refine f_iconst C (v := (-1)) dX11_agenda_35 kcm1 rfl ?_
        refine f_inot C dX11_agenda_36 rfl ?_
        refine f_iand C dX11_agenda_37 rfl ?_
        refine f_if_eq C (t := 48) dX11_agenda_38 (by decide) rfl (fun hq_12 => ?_) (fun hq_12 => ?_)
        · replace h := Eq.mp (if_pos hq_12) h
          refine f_aload_n C (j := 0) dX11_agenda_48 rfl rfl rfl ?_
          refine f_aload_n C (j := 0) dX11_agenda_49 rfl rfl rfl ?_
          refine f_getc C tF_X11_76 rfl o1 cs1_6 (by decide) dX11_agenda_50 rfl ?_
          refine f_iload_n C (j := 1) dX11_agenda_53 rfl rfl rfl ?_
          refine f_callVi C (a := 93) (ci := 5) (As := fun B => [.int x1]) o93 rfl (c_X5_listFor  _ _ _ h) tM_X11_356 tI_X5_listFor tS_X5_listFor tN_X5 tC_X5_listFor 1 dd_X5_listFor rfl (by decide) (by decide) rfl (Nat.le_of_ble_eq_true rfl) dX11_agenda_54 rfl (fun r_14 σ_13 h => ?_)
          refine f_callVi C (a := 1) (ci := 11) (As := fun B => [.int r_14]) o1 rfl (c_X11_fine  _ _ _ h) tM_X11_130 tI_X11_fine tS_X11_fine tN_X11 tC_X11_fine 1 dd_X11_fine rfl (by decide) (by decide) rfl (Nat.le_of_ble_eq_true rfl) dX11_agenda_57 rfl (fun r_16 σ_15 h => ?_)
          exact f_iret C dX11_agenda_60 h
        · replace h := Eq.mp (if_neg hq_12) h
          refine f_aload_n C (j := 0) dX11_agenda_41 rfl rfl rfl ?_
          refine f_bipush C (v := 9) dX11_agenda_42 kb9 rfl ?_
          refine f_callVi C (a := 1) (ci := 11) (As := fun B => [.int 9]) o1 rfl (c_X11_refuse  _ _ _ h) tM_X11_126 tI_X11_refuse tS_X11_refuse tN_X11 tC_X11_refuse 1 dd_X11_refuse rfl (by decide) (by decide) rfl (Nat.le_of_ble_eq_true rfl) dX11_agenda_44 rfl (fun r_18 σ_17 h => ?_)
          exact f_iret C dX11_agenda_47 h
      · replace h := Eq.mp (if_neg hq_9) h
        refine f_lv C (lv2 := [(0, .ref (B + 1))]) [0] rfl ?_
        exact s_X11_agenda_21 C  _ h
theorem c_X11_agenda (x1 : Int32) (σ : Sto) (P : Int32 → Sto → Prop) (h : w_X11_agenda x1 σ P) : Ct yX11_agenda cX11_agenda 2 (some .int) 5 122 (fun B => [.ref (B + 1), .int x1]) σ (QFi P) := Ct.of (by decide) (fun _ => Nat.le_of_ble_eq_true rfl) (fun B E C => s_X11_agenda C x1 σ h)
def w_X11_agendaAt_15 (σ : Sto) (P : Int32 → Sto → Prop) : Prop :=
  w_X11_refuse 8 σ (fun r_3 σ_2 => P r_3 σ_2)
theorem s_X11_agendaAt_15 {B : Nat} {E : Nat → List (Nat × Value) → List Value → Sto → Prop} {P : Int32 → Sto → Prop} (C : Cy B E RX11 cX11_agendaAt 2 (some .int) 1 21 (Zm (QFi P))) (σ : Sto) (h : w_X11_agendaAt_15 σ P) : E 15 [(0, .ref (B + 1))] [] σ := by
  unfold w_X11_agendaAt_15 at h
  refine f_aload_n C (j := 0) dX11_agendaAt_15 rfl rfl rfl ?_
  refine f_bipush C (v := 8) dX11_agendaAt_16 kb8 rfl ?_
  refine f_callVi C (a := 1) (ci := 11) (As := fun B => [.int 8]) o1 rfl (c_X11_refuse  _ _ _ h) tM_X11_126 tI_X11_refuse tS_X11_refuse tN_X11 tC_X11_refuse 1 dd_X11_refuse rfl (by decide) (by decide) rfl (Nat.le_of_ble_eq_true rfl) dX11_agendaAt_18 rfl (fun r_3 σ_2 h => ?_)
  exact f_iret C dX11_agendaAt_21 h
def w_X11_agendaAt (x1 : Int32) (σ : Sto) (P : Int32 → Sto → Prop) : Prop :=
  (if x1 < 0 then w_X11_agendaAt_15 σ P else (if x1 < (gi σ 93 4) then vp_in x1 6 ∧ w_X11_fine (gi σ 94 (tn x1)) σ (fun r_7 σ_6 => P r_7 σ_6) else w_X11_agendaAt_15 σ P))
theorem s_X11_agendaAt {B : Nat} {E : Nat → List (Nat × Value) → List Value → Sto → Prop} {P : Int32 → Sto → Prop} (C : Cy B E RX11 cX11_agendaAt 2 (some .int) 1 21 (Zm (QFi P))) (x1 : Int32) (σ : Sto) (h : w_X11_agendaAt x1 σ P) : E 0 [(0, .ref (B + 1)), (1, .int x1)] [] σ := by
  unfold w_X11_agendaAt at h
  refine f_iload_n C (j := 1) dX11_agendaAt_0 rfl rfl rfl ?_
  refine f_if_lt C (t := 15) dX11_agendaAt_1 (by decide) rfl (fun hq_1 => ?_) (fun hq_1 => ?_)
  · replace h := Eq.mp (if_pos hq_1) h
    refine f_lv C (lv2 := [(0, .ref (B + 1))]) [0] rfl ?_
    exact s_X11_agendaAt_15 C  _ h
  · replace h := Eq.mp (if_neg hq_1) h
    refine f_iload_n C (j := 1) dX11_agendaAt_4 rfl rfl rfl ?_
    refine f_aload_n C (j := 0) dX11_agendaAt_5 rfl rfl rfl ?_
    refine f_getc C tF_X11_76 rfl o1 cs1_6 (by decide) dX11_agendaAt_6 rfl ?_
    refine f_geti C tF_X11_359 rfl o93 dX11_agendaAt_9 rfl ?_
    refine f_icmp_lt C (t := 22) dX11_agendaAt_12 (by decide) rfl (fun hq_4 => ?_) (fun hq_4 => ?_)
    · replace h := Eq.mp (if_pos hq_4) h
      refine f_aload_n C (j := 0) dX11_agendaAt_22 rfl rfl rfl ?_
      refine f_aload_n C (j := 0) dX11_agendaAt_23 rfl rfl rfl ?_
      refine f_getc C tF_X11_76 rfl o1 cs1_6 (by decide) dX11_agendaAt_24 rfl ?_
      refine f_getc C tF_X11_362 rfl o93 cs93_3 (by decide) dX11_agendaAt_27 rfl ?_
      refine f_iload_n C (j := 1) dX11_agendaAt_30 rfl rfl rfl ?_
      obtain ⟨hi_5, h⟩ := h
      refine f_iald C (j := tn x1) a94 hi_5 rfl dX11_agendaAt_31 rfl ?_
      refine f_callVi C (a := 1) (ci := 11) (As := fun B => [.int (gi σ 94 (tn x1))]) o1 rfl (c_X11_fine  _ _ _ h) tM_X11_130 tI_X11_fine tS_X11_fine tN_X11 tC_X11_fine 1 dd_X11_fine rfl (by decide) (by decide) rfl (Nat.le_of_ble_eq_true rfl) dX11_agendaAt_32 rfl (fun r_7 σ_6 h => ?_)
      exact f_iret C dX11_agendaAt_35 h
    · replace h := Eq.mp (if_neg hq_4) h
      refine f_lv C (lv2 := [(0, .ref (B + 1))]) [0] rfl ?_
      exact s_X11_agendaAt_15 C  _ h
theorem c_X11_agendaAt (x1 : Int32) (σ : Sto) (P : Int32 → Sto → Prop) (h : w_X11_agendaAt x1 σ P) : Ct yX11_agendaAt cX11_agendaAt 2 (some .int) 1 21 (fun B => [.ref (B + 1), .int x1]) σ (QFi P) := Ct.of (by decide) (fun _ => Nat.le_of_ble_eq_true rfl) (fun B E C => s_X11_agendaAt C x1 σ h)
def w_X11_noGame (x1 : Int32) (x2 : Int32) (σ : Sto) (P : Int32 → Sto → Prop) : Prop :=
  (if x1 < 0 then P 1 σ else isCity (gr σ 1 11) ∧ (if (1 <<< ((gi σ (gr σ 1 11) 10) &&& 31)) ≤ x1 then P 1 σ else (if x2 < 1 then P 1 σ else (if x2 ≤ 4 then P 0 σ else P 1 σ))))
theorem s_X11_noGame {B : Nat} {E : Nat → List (Nat × Value) → List Value → Sto → Prop} {P : Int32 → Sto → Prop} (C : Cy B E RX11 cX11_noGame 3 (some .boolean) 0 0 (Zm (QFi P))) (x1 : Int32) (x2 : Int32) (σ : Sto) (h : w_X11_noGame x1 x2 σ P) : E 0 [(0, .ref (B + 1)), (1, .int x1), (2, .int x2)] [] σ := by
  unfold w_X11_noGame at h
  refine f_iload_n C (j := 1) dX11_noGame_0 rfl rfl rfl ?_
  refine f_if_lt C (t := 27) dX11_noGame_1 (by decide) rfl (fun hq_1 => ?_) (fun hq_1 => ?_)
  · replace h := Eq.mp (if_pos hq_1) h
    refine f_iconst C (v := 1) dX11_noGame_27 kc1 rfl ?_
    refine f_goto C (t := 32) dX11_noGame_28 (by decide) ?_
    exact f_zret C (Or.inr rfl) dX11_noGame_32 h
  · replace h := Eq.mp (if_neg hq_1) h
    refine f_iload_n C (j := 1) dX11_noGame_4 rfl rfl rfl ?_
    refine f_iconst C (v := 1) dX11_noGame_5 kc1 rfl ?_
    refine f_aload_n C (j := 0) dX11_noGame_6 rfl rfl rfl ?_
    obtain ⟨hc_2, h⟩ := h
    refine f_getm C tF_X11_26 rfl o1 cn1_11 hc_2.z dX11_noGame_7 rfl ?_
    refine f_geti C tF_X11_142 rfl hc_2.o dX11_noGame_10 rfl ?_
    refine f_ishl C dX11_noGame_13 rfl ?_
    refine f_icmp_ge C (t := 27) dX11_noGame_14 (by decide) rfl (fun hq_3 => ?_) (fun hq_3 => ?_)
    · replace h := Eq.mp (if_pos hq_3) h
      refine f_iconst C (v := 1) dX11_noGame_27 kc1 rfl ?_
      refine f_goto C (t := 32) dX11_noGame_28 (by decide) ?_
      exact f_zret C (Or.inr rfl) dX11_noGame_32 h
    · replace h := Eq.mp (if_neg hq_3) h
      refine f_iload_n C (j := 2) dX11_noGame_17 rfl rfl rfl ?_
      refine f_iconst C (v := 1) dX11_noGame_18 kc1 rfl ?_
      refine f_icmp_lt C (t := 27) dX11_noGame_19 (by decide) rfl (fun hq_4 => ?_) (fun hq_4 => ?_)
      · replace h := Eq.mp (if_pos hq_4) h
        refine f_iconst C (v := 1) dX11_noGame_27 kc1 rfl ?_
        refine f_goto C (t := 32) dX11_noGame_28 (by decide) ?_
        exact f_zret C (Or.inr rfl) dX11_noGame_32 h
      · replace h := Eq.mp (if_neg hq_4) h
        refine f_iload_n C (j := 2) dX11_noGame_22 rfl rfl rfl ?_
        refine f_iconst C (v := 4) dX11_noGame_23 kc4 rfl ?_
        refine f_icmp_le C (t := 31) dX11_noGame_24 (by decide) rfl (fun hq_5 => ?_) (fun hq_5 => ?_)
        · replace h := Eq.mp (if_pos hq_5) h
          refine f_iconst C (v := 0) dX11_noGame_31 kc0 rfl ?_
          exact f_zret C (Or.inl rfl) dX11_noGame_32 h
        · replace h := Eq.mp (if_neg hq_5) h
          refine f_iconst C (v := 1) dX11_noGame_27 kc1 rfl ?_
          refine f_goto C (t := 32) dX11_noGame_28 (by decide) ?_
          exact f_zret C (Or.inr rfl) dX11_noGame_32 h
theorem c_X11_noGame (x1 : Int32) (x2 : Int32) (σ : Sto) (P : Int32 → Sto → Prop) (h : w_X11_noGame x1 x2 σ P) : Ct yX11_noGame cX11_noGame 3 (some .boolean) 0 0 (fun B => [.ref (B + 1), .int x1, .int x2]) σ (QFi P) := Ct.of (by decide) (fun _ => Nat.le_of_ble_eq_true rfl) (fun B E C => s_X11_noGame C x1 x2 σ h)
def w_X11_game (x1 : Int32) (x2 : Int32) (σ : Sto) (P : Int32 → Sto → Prop) : Prop :=
  w_X11_noGame x1 x2 σ (fun r_2 σ_1 => (if r_2 = 0 then w_X5_worthOfGame x1 x2 σ_1 (fun r_5 σ_4 => w_X11_fine r_5 σ_4 (fun r_7 σ_6 => P r_7 σ_6)) else w_X11_refuse 5 σ_1 (fun r_9 σ_8 => P r_9 σ_8)))
theorem s_X11_game {B : Nat} {E : Nat → List (Nat × Value) → List Value → Sto → Prop} {P : Int32 → Sto → Prop} (C : Cy B E RX11 cX11_game 3 (some .int) 20 547 (Zm (QFi P))) (x1 : Int32) (x2 : Int32) (σ : Sto) (h : w_X11_game x1 x2 σ P) : E 0 [(0, .ref (B + 1)), (1, .int x1), (2, .int x2)] [] σ := by
  unfold w_X11_game at h
  refine f_aload_n C (j := 0) dX11_game_0 rfl rfl rfl ?_
  refine f_iload_n C (j := 1) dX11_game_1 rfl rfl rfl ?_
  refine f_iload_n C (j := 2) dX11_game_2 rfl rfl rfl ?_
  refine f_callVi C (a := 1) (ci := 11) (As := fun B => [.int x1, .int x2]) o1 rfl (c_X11_noGame  _ _ _ _ h) tM_X11_365 tI_X11_noGame tS_X11_noGame tN_X11 tC_X11_noGame 2 dd_X11_noGame rfl (by decide) (by decide) rfl (Nat.le_of_ble_eq_true rfl) dX11_game_3 rfl (fun r_2 σ_1 h => ?_)
  refine f_if_eq C (t := 17) dX11_game_6 (by decide) rfl (fun hq_3 => ?_) (fun hq_3 => ?_)
  · replace h := Eq.mp (if_pos hq_3) h
    refine f_aload_n C (j := 0) dX11_game_17 rfl rfl rfl ?_
    refine f_aload_n C (j := 0) dX11_game_18 rfl rfl rfl ?_
    refine f_getc C tF_X11_76 rfl o1 cs1_6 (by decide) dX11_game_19 rfl ?_
    refine f_iload_n C (j := 1) dX11_game_22 rfl rfl rfl ?_
    refine f_iload_n C (j := 2) dX11_game_23 rfl rfl rfl ?_
    refine f_callVi C (a := 93) (ci := 5) (As := fun B => [.int x1, .int x2]) o93 rfl (c_X5_worthOfGame  _ _ _ _ h) tM_X11_368 tI_X5_worthOfGame tS_X5_worthOfGame tN_X5 tC_X5_worthOfGame 2 dd_X5_worthOfGame rfl (by decide) (by decide) rfl (Nat.le_of_ble_eq_true rfl) dX11_game_24 rfl (fun r_5 σ_4 h => ?_)
    refine f_callVi C (a := 1) (ci := 11) (As := fun B => [.int r_5]) o1 rfl (c_X11_fine  _ _ _ h) tM_X11_130 tI_X11_fine tS_X11_fine tN_X11 tC_X11_fine 1 dd_X11_fine rfl (by decide) (by decide) rfl (Nat.le_of_ble_eq_true rfl) dX11_game_27 rfl (fun r_7 σ_6 h => ?_)
    exact f_iret C dX11_game_30 h
  · replace h := Eq.mp (if_neg hq_3) h
    refine f_aload_n C (j := 0) dX11_game_9 rfl rfl rfl ?_
    refine f_iconst C (v := 5) dX11_game_10 kc5 rfl ?_
    refine f_callVi C (a := 1) (ci := 11) (As := fun B => [.int 5]) o1 rfl (c_X11_refuse  _ _ _ h) tM_X11_126 tI_X11_refuse tS_X11_refuse tN_X11 tC_X11_refuse 1 dd_X11_refuse rfl (by decide) (by decide) rfl (Nat.le_of_ble_eq_true rfl) dX11_game_11 rfl (fun r_9 σ_8 h => ?_)
    refine f_goto C (t := 30) dX11_game_14 (by decide) ?_
    exact f_iret C dX11_game_30 h
theorem c_X11_game (x1 : Int32) (x2 : Int32) (σ : Sto) (P : Int32 → Sto → Prop) (h : w_X11_game x1 x2 σ P) : Ct yX11_game cX11_game 3 (some .int) 20 547 (fun B => [.ref (B + 1), .int x1, .int x2]) σ (QFi P) := Ct.of (by decide) (fun _ => Nat.le_of_ble_eq_true rfl) (fun B E C => s_X11_game C x1 x2 σ h)
