def w_X12_readVoter (σ : Sto) (P : Sto → Prop) : Prop :=
  w_X12_readNew 2 6 σ (fun r_2 σ_1 => (if (gi σ_1 101 12) = 0 then P (si σ_1 106 1687 ((gi σ_1 106 1687) + 1)) else P σ_1))
theorem s_X12_readVoter {B : Nat} {E : Nat → List (Nat × Value) → List Value → Sto → Prop} {P : Sto → Prop} (C : Cy B E RX12 cX12_readVoter 1 none 5 110 (Zm (QFv P))) (σ : Sto) (h : w_X12_readVoter σ P) : E 0 [(0, .ref (B + 101))] [] σ := by
  unfold w_X12_readVoter at h
  refine f_aload_n C (j := 0) dX12_readVoter_0 rfl rfl rfl ?_
  refine f_iconst C (v := 2) dX12_readVoter_1 kc2 rfl ?_
  refine f_bipush C (v := 6) dX12_readVoter_2 kb6 rfl ?_
  refine f_callVi C (a := 101) (ci := 12) (As := fun B => [.int 2, .int 6]) o101 rfl (c_X12_readNew  _ _ _ _ h) tM_X12_255 tI_X12_readNew tS_X12_readNew tN_X12 tC_X12_readNew 2 dd_X12_readNew rfl (by decide) (by decide) rfl (Nat.le_of_ble_eq_true rfl) dX12_readVoter_4 rfl (fun r_2 σ_1 h => ?_)
  refine f_pop C dX12_readVoter_7 rfl rfl ?_
  refine f_aload_n C (j := 0) dX12_readVoter_8 rfl rfl rfl ?_
  refine f_geti C tF_X12_209 rfl o101 dX12_readVoter_9 rfl ?_
  refine f_if_ne C (t := 27) dX12_readVoter_12 (by decide) rfl (fun hq_3 => ?_) (fun hq_3 => ?_)
  · replace h := Eq.mp (if_neg hq_3) h
    exact f_vret C dX12_readVoter_27 h
  · replace h := Eq.mp (if_pos hq_3) h
    refine f_aload_n C (j := 0) dX12_readVoter_15 rfl rfl rfl ?_
    refine f_getc C tF_X12_35 rfl o101 cs101_20 (by decide) dX12_readVoter_16 rfl ?_
    refine f_sipush C (v := 1687) dX12_readVoter_19 ks1687 rfl ?_
    refine f_dup2 C dX12_readVoter_22 rfl rfl rfl ?_
    refine f_iald C (j := 1687) a106 (vp_lit (by decide)) rfl dX12_readVoter_23 rfl ?_
    refine f_iconst C (v := 1) dX12_readVoter_24 kc1 rfl ?_
    refine f_iadd C dX12_readVoter_25 rfl ?_
    refine f_iast C (j := 1687) a106 (vp_lit (by decide)) rfl dX12_readVoter_26 rfl ?_
    exact f_vret C dX12_readVoter_27 h
theorem c_X12_readVoter (σ : Sto) (P : Sto → Prop) (h : w_X12_readVoter σ P) : Ct yX12_readVoter cX12_readVoter 1 none 5 110 (fun B => [.ref (B + 101)]) σ (QFv P) := Ct.of (by decide) (fun _ => Nat.le_of_ble_eq_true rfl) (fun B E C => s_X12_readVoter C σ h)
def w_X12_readHates (σ : Sto) (P : Sto → Prop) : Prop :=
  w_X12_advance σ (fun σ_1 => w_X12_readTold 4 2 (-1) σ_1 (fun r_4 σ_3 => w_X12_readTold 4 0 (-1) σ_3 (fun r_6 σ_5 => w_X12_count 0 9 σ_5 (fun r_8 σ_7 => (if (gi σ_7 101 12) = 0 then vp_in ((1742 + (12 * r_4)) + r_6) 2105 ∧ P (si σ_7 106 (tn ((1742 + (12 * r_4)) + r_6)) r_8) else P σ_7)))))
theorem s_X12_readHates {B : Nat} {E : Nat → List (Nat × Value) → List Value → Sto → Prop} {P : Sto → Prop} (C : Cy B E RX12 cX12_readHates 4 none 5 111 (Zm (QFv P))) (σ : Sto) (h : w_X12_readHates σ P) : E 0 [(0, .ref (B + 101))] [] σ := by
  unfold w_X12_readHates at h
  refine f_aload_n C (j := 0) dX12_readHates_0 rfl rfl rfl ?_
  refine f_callVv C (a := 101) (ci := 12) (As := fun B => []) o101 rfl (c_X12_advance   _ _ h) tM_X12_219 tI_X12_advance tS_X12_advance tN_X12 tC_X12_advance 0 dd_X12_advance rfl (by decide) (by decide) rfl (Nat.le_of_ble_eq_true rfl) dX12_readHates_1 rfl (fun σ_1 h => ?_)
  refine f_aload_n C (j := 0) dX12_readHates_4 rfl rfl rfl ?_
  refine f_iconst C (v := 4) dX12_readHates_5 kc4 rfl ?_
  refine f_iconst C (v := 2) dX12_readHates_6 kc2 rfl ?_
  refine f_iconst C (v := (-1)) dX12_readHates_7 kcm1 rfl ?_
  refine f_callVi C (a := 101) (ci := 12) (As := fun B => [.int 4, .int 2, .int (-1)]) o101 rfl (c_X12_readTold  _ _ _ _ _ h) tM_X12_251 tI_X12_readTold tS_X12_readTold tN_X12 tC_X12_readTold 3 dd_X12_readTold rfl (by decide) (by decide) rfl (Nat.le_of_ble_eq_true rfl) dX12_readHates_8 rfl (fun r_4 σ_3 h => ?_)
  refine f_istore_n C (lv2 := [(1, .int r_4), (0, .ref (B + 101))]) dX12_readHates_11 rfl (by decide) rfl rfl ?_
  refine f_aload_n C (j := 1) dX12_readHates_12 rfl rfl rfl ?_
  refine f_iconst C (v := 4) dX12_readHates_13 kc4 rfl ?_
  refine f_iconst C (v := 0) dX12_readHates_14 kc0 rfl ?_
  refine f_iconst C (v := (-1)) dX12_readHates_15 kcm1 rfl ?_
  refine f_callVi C (a := 101) (ci := 12) (As := fun B => [.int 4, .int 0, .int (-1)]) o101 rfl (c_X12_readTold  _ _ _ _ _ h) tM_X12_251 tI_X12_readTold tS_X12_readTold tN_X12 tC_X12_readTold 3 dd_X12_readTold rfl (by decide) (by decide) rfl (Nat.le_of_ble_eq_true rfl) dX12_readHates_16 rfl (fun r_6 σ_5 h => ?_)
  refine f_istore_n C (lv2 := [(2, .int r_6), (1, .int r_4), (0, .ref (B + 101))]) dX12_readHates_19 rfl (by decide) rfl rfl ?_
  refine f_aload_n C (j := 2) dX12_readHates_20 rfl rfl rfl ?_
  refine f_iconst C (v := 0) dX12_readHates_21 kc0 rfl ?_
  refine f_bipush C (v := 9) dX12_readHates_22 kb9 rfl ?_
  refine f_callVi C (a := 101) (ci := 12) (As := fun B => [.int 0, .int 9]) o101 rfl (c_X12_count  _ _ _ _ h) tM_X12_258 tI_X12_count tS_X12_count tN_X12 tC_X12_count 2 dd_X12_count rfl (by decide) (by decide) rfl (Nat.le_of_ble_eq_true rfl) dX12_readHates_24 rfl (fun r_8 σ_7 h => ?_)
  refine f_istore_n C (lv2 := [(3, .int r_8), (2, .int r_6), (1, .int r_4), (0, .ref (B + 101))]) dX12_readHates_27 rfl (by decide) rfl rfl ?_
  refine f_aload_n C (j := 3) dX12_readHates_28 rfl rfl rfl ?_
  refine f_geti C tF_X12_209 rfl o101 dX12_readHates_29 rfl ?_
  refine f_if_ne C (t := 51) dX12_readHates_32 (by decide) rfl (fun hq_9 => ?_) (fun hq_9 => ?_)
  · replace h := Eq.mp (if_neg hq_9) h
    exact f_vret C dX12_readHates_51 h
  · replace h := Eq.mp (if_pos hq_9) h
    refine f_aload_n C (j := 3) dX12_readHates_35 rfl rfl rfl ?_
    refine f_getc C tF_X12_35 rfl o101 cs101_20 (by decide) dX12_readHates_36 rfl ?_
    refine f_sipush C (v := 1742) dX12_readHates_39 ks1742 rfl ?_
    refine f_bipush C (v := 12) dX12_readHates_42 kb12 rfl ?_
    refine f_iload_n C (j := 2) dX12_readHates_44 rfl rfl rfl ?_
    refine f_imul C dX12_readHates_45 rfl ?_
    refine f_iadd C dX12_readHates_46 rfl ?_
    refine f_iload_n C (j := 1) dX12_readHates_47 rfl rfl rfl ?_
    refine f_iadd C dX12_readHates_48 rfl ?_
    refine f_iload_n C (j := 0) dX12_readHates_49 rfl rfl rfl ?_
    obtain ⟨hi_10, h⟩ := h
    refine f_iast C (j := tn ((1742 + (12 * r_4)) + r_6)) a106 hi_10 rfl dX12_readHates_50 rfl ?_
    exact f_vret C dX12_readHates_51 h
theorem c_X12_readHates (σ : Sto) (P : Sto → Prop) (h : w_X12_readHates σ P) : Ct yX12_readHates cX12_readHates 4 none 5 111 (fun B => [.ref (B + 101)]) σ (QFv P) := Ct.of (by decide) (fun _ => Nat.le_of_ble_eq_true rfl) (fun B E C => s_X12_readHates C σ h)
def w_X12_readAhead (σ : Sto) (P : Sto → Prop) : Prop :=
  w_X12_advance σ (fun σ_1 => w_X12_readTold 4 0 (-1) σ_1 (fun r_4 σ_3 => w_X12_readTold 4 0 r_4 σ_3 (fun r_6 σ_5 => (if (gi σ_5 101 12) = 0 then vp_in (1814 + r_6) 2105 ∧ P (si σ_5 106 (tn (1814 + r_6)) ((gi σ_5 106 (tn (1814 + r_6))) ||| (1 <<< (r_4 &&& 31)))) else P σ_5))))
theorem s_X12_readAhead {B : Nat} {E : Nat → List (Nat × Value) → List Value → Sto → Prop} {P : Sto → Prop} (C : Cy B E RX12 cX12_readAhead 3 none 5 111 (Zm (QFv P))) (σ : Sto) (h : w_X12_readAhead σ P) : E 0 [(0, .ref (B + 101))] [] σ := by
  unfold w_X12_readAhead at h
  refine f_aload_n C (j := 0) dX12_readAhead_0 rfl rfl rfl ?_
  refine f_callVv C (a := 101) (ci := 12) (As := fun B => []) o101 rfl (c_X12_advance   _ _ h) tM_X12_219 tI_X12_advance tS_X12_advance tN_X12 tC_X12_advance 0 dd_X12_advance rfl (by decide) (by decide) rfl (Nat.le_of_ble_eq_true rfl) dX12_readAhead_1 rfl (fun σ_1 h => ?_)
  refine f_aload_n C (j := 0) dX12_readAhead_4 rfl rfl rfl ?_
  refine f_iconst C (v := 4) dX12_readAhead_5 kc4 rfl ?_
  refine f_iconst C (v := 0) dX12_readAhead_6 kc0 rfl ?_
  refine f_iconst C (v := (-1)) dX12_readAhead_7 kcm1 rfl ?_
  refine f_callVi C (a := 101) (ci := 12) (As := fun B => [.int 4, .int 0, .int (-1)]) o101 rfl (c_X12_readTold  _ _ _ _ _ h) tM_X12_251 tI_X12_readTold tS_X12_readTold tN_X12 tC_X12_readTold 3 dd_X12_readTold rfl (by decide) (by decide) rfl (Nat.le_of_ble_eq_true rfl) dX12_readAhead_8 rfl (fun r_4 σ_3 h => ?_)
  refine f_istore_n C (lv2 := [(1, .int r_4), (0, .ref (B + 101))]) dX12_readAhead_11 rfl (by decide) rfl rfl ?_
  refine f_aload_n C (j := 1) dX12_readAhead_12 rfl rfl rfl ?_
  refine f_iconst C (v := 4) dX12_readAhead_13 kc4 rfl ?_
  refine f_iconst C (v := 0) dX12_readAhead_14 kc0 rfl ?_
  refine f_iload_n C (j := 0) dX12_readAhead_15 rfl rfl rfl ?_
  refine f_callVi C (a := 101) (ci := 12) (As := fun B => [.int 4, .int 0, .int r_4]) o101 rfl (c_X12_readTold  _ _ _ _ _ h) tM_X12_251 tI_X12_readTold tS_X12_readTold tN_X12 tC_X12_readTold 3 dd_X12_readTold rfl (by decide) (by decide) rfl (Nat.le_of_ble_eq_true rfl) dX12_readAhead_16 rfl (fun r_6 σ_5 h => ?_)
  refine f_istore_n C (lv2 := [(2, .int r_6), (1, .int r_4), (0, .ref (B + 101))]) dX12_readAhead_19 rfl (by decide) rfl rfl ?_
  refine f_aload_n C (j := 2) dX12_readAhead_20 rfl rfl rfl ?_
  refine f_geti C tF_X12_209 rfl o101 dX12_readAhead_21 rfl ?_
  refine f_if_ne C (t := 43) dX12_readAhead_24 (by decide) rfl (fun hq_7 => ?_) (fun hq_7 => ?_)
  · replace h := Eq.mp (if_neg hq_7) h
    exact f_vret C dX12_readAhead_43 h
  · replace h := Eq.mp (if_pos hq_7) h
    refine f_aload_n C (j := 2) dX12_readAhead_27 rfl rfl rfl ?_
    refine f_getc C tF_X12_35 rfl o101 cs101_20 (by decide) dX12_readAhead_28 rfl ?_
    refine f_sipush C (v := 1814) dX12_readAhead_31 ks1814 rfl ?_
    refine f_iload_n C (j := 0) dX12_readAhead_34 rfl rfl rfl ?_
    refine f_iadd C dX12_readAhead_35 rfl ?_
    refine f_dup2 C dX12_readAhead_36 rfl rfl rfl ?_
    obtain ⟨hi_8, h⟩ := h
    refine f_iald C (j := tn (1814 + r_6)) a106 hi_8 rfl dX12_readAhead_37 rfl ?_
    refine f_iconst C (v := 1) dX12_readAhead_38 kc1 rfl ?_
    refine f_iload_n C (j := 1) dX12_readAhead_39 rfl rfl rfl ?_
    refine f_ishl C dX12_readAhead_40 rfl ?_
    refine f_ior C dX12_readAhead_41 rfl ?_
    refine f_iast C (j := tn (1814 + r_6)) a106 hi_8 rfl dX12_readAhead_42 rfl ?_
    exact f_vret C dX12_readAhead_43 h
theorem c_X12_readAhead (σ : Sto) (P : Sto → Prop) (h : w_X12_readAhead σ P) : Ct yX12_readAhead cX12_readAhead 3 none 5 111 (fun B => [.ref (B + 101)]) σ (QFv P) := Ct.of (by decide) (fun _ => Nat.le_of_ble_eq_true rfl) (fun B E C => s_X12_readAhead C σ h)
def w_X12_readLaw_16 (σ : Sto) (P : Sto → Prop) : Prop :=
  (if (gi σ 101 12) ≤ 0 then w_X12_advance (si σ 101 24 1) (fun σ_3 => w_X12_count 0 2 σ_3 (fun r_6 σ_5 => P (si σ_5 106 1688 r_6))) else P σ)
theorem s_X12_readLaw_16 {B : Nat} {E : Nat → List (Nat × Value) → List Value → Sto → Prop} {P : Sto → Prop} (C : Cy B E RX12 cX12_readLaw 1 none 3 65 (Zm (QFv P))) (σ : Sto) (h : w_X12_readLaw_16 σ P) : E 16 [(0, .ref (B + 101))] [] σ := by
  unfold w_X12_readLaw_16 at h
  refine f_aload_n C (j := 0) dX12_readLaw_16 rfl rfl rfl ?_
  refine f_geti C tF_X12_209 rfl o101 dX12_readLaw_17 rfl ?_
  refine f_if_le C (t := 24) dX12_readLaw_20 (by decide) rfl (fun hq_2 => ?_) (fun hq_2 => ?_)
  · replace h := Eq.mp (if_pos hq_2) h
    refine f_aload_n C (j := 0) dX12_readLaw_24 rfl rfl rfl ?_
    refine f_iconst C (v := 1) dX12_readLaw_25 kc1 rfl ?_
    refine f_putz C tF_X12_264 fm_12_24 rfl (Or.inr rfl) o101 dX12_readLaw_26 rfl ?_
    refine f_aload_n C (j := 0) dX12_readLaw_29 rfl rfl rfl ?_
    refine f_callVv C (a := 101) (ci := 12) (As := fun B => []) o101 rfl (c_X12_advance   _ _ h) tM_X12_219 tI_X12_advance tS_X12_advance tN_X12 tC_X12_advance 0 dd_X12_advance rfl (by decide) (by decide) rfl (Nat.le_of_ble_eq_true rfl) dX12_readLaw_30 rfl (fun σ_3 h => ?_)
    refine f_aload_n C (j := 0) dX12_readLaw_33 rfl rfl rfl ?_
    refine f_getc C tF_X12_35 rfl o101 cs101_20 (by decide) dX12_readLaw_34 rfl ?_
    refine f_sipush C (v := 1688) dX12_readLaw_37 ks1688 rfl ?_
    refine f_aload_n C (j := 0) dX12_readLaw_40 rfl rfl rfl ?_
    refine f_iconst C (v := 0) dX12_readLaw_41 kc0 rfl ?_
    refine f_iconst C (v := 2) dX12_readLaw_42 kc2 rfl ?_
    refine f_callVi C (a := 101) (ci := 12) (As := fun B => [.int 0, .int 2]) o101 rfl (c_X12_count  _ _ _ _ h) tM_X12_258 tI_X12_count tS_X12_count tN_X12 tC_X12_count 2 dd_X12_count rfl (by decide) (by decide) rfl (Nat.le_of_ble_eq_true rfl) dX12_readLaw_43 rfl (fun r_6 σ_5 h => ?_)
    refine f_iast C (j := 1688) a106 (vp_lit (by decide)) rfl dX12_readLaw_46 rfl ?_
    exact f_vret C dX12_readLaw_47 h
  · replace h := Eq.mp (if_neg hq_2) h
    exact f_vret C dX12_readLaw_23 h
def w_X12_readLaw (σ : Sto) (P : Sto → Prop) : Prop :=
  (if (gi σ 101 24) = 0 then w_X12_readLaw_16 σ P else w_X12_fail 5 (gi σ 101 15) σ (fun σ_7 => w_X12_readLaw_16 σ_7 P))
theorem s_X12_readLaw {B : Nat} {E : Nat → List (Nat × Value) → List Value → Sto → Prop} {P : Sto → Prop} (C : Cy B E RX12 cX12_readLaw 1 none 3 65 (Zm (QFv P))) (σ : Sto) (h : w_X12_readLaw σ P) : E 0 [(0, .ref (B + 101))] [] σ := by
  unfold w_X12_readLaw at h
  refine f_aload_n C (j := 0) dX12_readLaw_0 rfl rfl rfl ?_
  refine f_geti C tF_X12_264 rfl o101 dX12_readLaw_1 rfl ?_
  refine f_if_eq C (t := 16) dX12_readLaw_4 (by decide) rfl (fun hq_1 => ?_) (fun hq_1 => ?_)
  · replace h := Eq.mp (if_pos hq_1) h
    exact s_X12_readLaw_16 C  _ h
  · replace h := Eq.mp (if_neg hq_1) h
    refine f_aload_n C (j := 0) dX12_readLaw_7 rfl rfl rfl ?_
    refine f_iconst C (v := 5) dX12_readLaw_8 kc5 rfl ?_
    refine f_aload_n C (j := 0) dX12_readLaw_9 rfl rfl rfl ?_
    refine f_geti C tF_X12_123 rfl o101 dX12_readLaw_10 rfl ?_
    refine f_callVv C (a := 101) (ci := 12) (As := fun B => [.int 5, .int (gi σ 101 15)]) o101 rfl (c_X12_fail  _ _ _ _ h) tM_X12_215 tI_X12_fail tS_X12_fail tN_X12 tC_X12_fail 2 dd_X12_fail rfl (by decide) (by decide) rfl (Nat.le_of_ble_eq_true rfl) dX12_readLaw_13 rfl (fun σ_7 h => ?_)
    exact s_X12_readLaw_16 C  _ h
theorem c_X12_readLaw (σ : Sto) (P : Sto → Prop) (h : w_X12_readLaw σ P) : Ct yX12_readLaw cX12_readLaw 1 none 3 65 (fun B => [.ref (B + 101)]) σ (QFv P) := Ct.of (by decide) (fun _ => Nat.le_of_ble_eq_true rfl) (fun B E C => s_X12_readLaw C σ h)
def w_X12_copy_41 (K41 : Int32 × Sto → Prop) (x1 : Int32) (x2 : Int32) (x3 : Int32) (σ : Sto) (P : Sto → Prop) : Prop :=
  (if 24 ≤ x3 then P σ else vp_in ((24 * x1) + x3) 120 ∧ vp_in ((24 * x2) + x3) 120 ∧ ∀ x3_5 : Int32, x3_5 = x3 + 1 → K41 (x3_5, sl σ 108 (tn ((24 * x2) + x3)) (gl σ 108 (tn ((24 * x1) + x3)))))
theorem s_X12_copy_41 {B : Nat} {E : Nat → List (Nat × Value) → List Value → Sto → Prop} {P : Sto → Prop} (C : Cy B E RX12 cX12_copy 4 none 0 0 (Zm (QFv P))) (x1 : Int32) (x2 : Int32) (x3 : Int32) (K41 : Int32 × Sto → Prop) (hK41 : ∀ (x3 : Int32) (σ : Sto), K41 (x3, σ) → E 41 [(0, .ref (B + 101)), (1, .int x1), (2, .int x2), (3, .int x3)] [] σ) (σ : Sto) (h : w_X12_copy_41 K41 x1 x2 x3 σ P) : E 41 [(0, .ref (B + 101)), (1, .int x1), (2, .int x2), (3, .int x3)] [] σ := by
  unfold w_X12_copy_41 at h
  refine f_iload_n C (j := 3) dX12_copy_41 rfl rfl rfl ?_
  refine f_bipush C (v := 24) dX12_copy_42 kb24 rfl ?_
  refine f_icmp_ge C (t := 75) dX12_copy_44 (by decide) rfl (fun hq_2 => ?_) (fun hq_2 => ?_)
  · replace h := Eq.mp (if_pos hq_2) h
    exact f_vret C dX12_copy_75 h
  · replace h := Eq.mp (if_neg hq_2) h
    refine f_aload_n C (j := 0) dX12_copy_47 rfl rfl rfl ?_
    refine f_getc C tF_X12_41 rfl o101 cs101_22 (by decide) dX12_copy_48 rfl ?_
    refine f_bipush C (v := 24) dX12_copy_51 kb24 rfl ?_
    refine f_iload_n C (j := 2) dX12_copy_53 rfl rfl rfl ?_
    refine f_imul C dX12_copy_54 rfl ?_
    refine f_iload_n C (j := 3) dX12_copy_55 rfl rfl rfl ?_
    refine f_iadd C dX12_copy_56 rfl ?_
    refine f_aload_n C (j := 0) dX12_copy_57 rfl rfl rfl ?_
    refine f_getc C tF_X12_41 rfl o101 cs101_22 (by decide) dX12_copy_58 rfl ?_
    refine f_bipush C (v := 24) dX12_copy_61 kb24 rfl ?_
    refine f_iload_n C (j := 1) dX12_copy_63 rfl rfl rfl ?_
    refine f_imul C dX12_copy_64 rfl ?_
    refine f_iload_n C (j := 3) dX12_copy_65 rfl rfl rfl ?_
    refine f_iadd C dX12_copy_66 rfl ?_
    obtain ⟨hi_3, h⟩ := h
    refine f_lald C (j := tn ((24 * x1) + x3)) a108 hi_3 rfl dX12_copy_67 rfl ?_
    obtain ⟨hi_4, h⟩ := h
    refine f_last C (j := tn ((24 * x2) + x3)) a108 hi_4 rfl dX12_copy_68 rfl ?_
    obtain ⟨x3_5, hx_6⟩ : ∃ y : Int32, y = x3 + 1 := ⟨_, rfl⟩
    replace h := h x3_5 hx_6
    refine f_iinc C (j := 3) (v := x3_5) (lv2 := [(3, .int x3_5), (0, .ref (B + 101)), (1, .int x1), (2, .int x2)]) dX12_copy_69 rfl hx_6.symm (by decide) rfl rfl ?_
    refine f_goto C (t := 41) dX12_copy_72 (by decide) ?_
    refine f_lv C (lv2 := [(0, .ref (B + 101)), (1, .int x1), (2, .int x2), (3, .int x3_5)]) [1, 2, 3, 0] rfl ?_
    exact hK41 _ _ h
def w_X12_copy_2 (K2 : Int32 × Sto → Prop) (x1 : Int32) (x2 : Int32) (x3 : Int32) (σ : Sto) (P : Sto → Prop) : Prop :=
  (if 421 ≤ x3 then Lp (fun (K : Int32 × Sto → Prop) s => w_X12_copy_41 K x1 x2 s.1 s.2 P) (0, σ) else vp_in ((421 * x1) + x3) 2105 ∧ vp_in ((421 * x2) + x3) 2105 ∧ ∀ x3_9 : Int32, x3_9 = x3 + 1 → K2 (x3_9, si σ 106 (tn ((421 * x2) + x3)) (gi σ 106 (tn ((421 * x1) + x3)))))
theorem s_X12_copy_2 {B : Nat} {E : Nat → List (Nat × Value) → List Value → Sto → Prop} {P : Sto → Prop} (C : Cy B E RX12 cX12_copy 4 none 0 0 (Zm (QFv P))) (x1 : Int32) (x2 : Int32) (x3 : Int32) (K2 : Int32 × Sto → Prop) (hK2 : ∀ (x3 : Int32) (σ : Sto), K2 (x3, σ) → E 2 [(0, .ref (B + 101)), (1, .int x1), (2, .int x2), (3, .int x3)] [] σ) (σ : Sto) (h : w_X12_copy_2 K2 x1 x2 x3 σ P) : E 2 [(0, .ref (B + 101)), (1, .int x1), (2, .int x2), (3, .int x3)] [] σ := by
  unfold w_X12_copy_2 at h
  refine f_iload_n C (j := 3) dX12_copy_2 rfl rfl rfl ?_
  refine f_sipush C (v := 421) dX12_copy_3 ks421 rfl ?_
  refine f_icmp_ge C (t := 39) dX12_copy_6 (by decide) rfl (fun hq_1 => ?_) (fun hq_1 => ?_)
  · replace h := Eq.mp (if_pos hq_1) h
    refine f_iconst C (v := 0) dX12_copy_39 kc0 rfl ?_
    refine f_istore_n C (lv2 := [(3, .int 0), (0, .ref (B + 101)), (1, .int x1), (2, .int x2)]) dX12_copy_40 rfl (by decide) rfl rfl ?_
    refine f_lv C (lv2 := [(0, .ref (B + 101)), (1, .int x1), (2, .int x2), (3, .int 0)]) [1, 2, 3, 0] rfl ?_
    exact Lp_sound (fun s : Int32 × Sto => E 41 [(0, .ref (B + 101)), (1, .int x1), (2, .int x2), (3, .int s.1)] [] s.2) h (fun K s hK h => s_X12_copy_41 C x1 x2 s.1 K (fun x3 σ hk => hK (x3, σ) hk) s.2 h)
  · replace h := Eq.mp (if_neg hq_1) h
    refine f_aload_n C (j := 0) dX12_copy_9 rfl rfl rfl ?_
    refine f_getc C tF_X12_35 rfl o101 cs101_20 (by decide) dX12_copy_10 rfl ?_
    refine f_sipush C (v := 421) dX12_copy_13 ks421 rfl ?_
    refine f_iload_n C (j := 2) dX12_copy_16 rfl rfl rfl ?_
    refine f_imul C dX12_copy_17 rfl ?_
    refine f_iload_n C (j := 3) dX12_copy_18 rfl rfl rfl ?_
    refine f_iadd C dX12_copy_19 rfl ?_
    refine f_aload_n C (j := 0) dX12_copy_20 rfl rfl rfl ?_
    refine f_getc C tF_X12_35 rfl o101 cs101_20 (by decide) dX12_copy_21 rfl ?_
    refine f_sipush C (v := 421) dX12_copy_24 ks421 rfl ?_
    refine f_iload_n C (j := 1) dX12_copy_27 rfl rfl rfl ?_
    refine f_imul C dX12_copy_28 rfl ?_
    refine f_iload_n C (j := 3) dX12_copy_29 rfl rfl rfl ?_
    refine f_iadd C dX12_copy_30 rfl ?_
    obtain ⟨hi_7, h⟩ := h
    refine f_iald C (j := tn ((421 * x1) + x3)) a106 hi_7 rfl dX12_copy_31 rfl ?_
    obtain ⟨hi_8, h⟩ := h
    refine f_iast C (j := tn ((421 * x2) + x3)) a106 hi_8 rfl dX12_copy_32 rfl ?_
    obtain ⟨x3_9, hx_10⟩ : ∃ y : Int32, y = x3 + 1 := ⟨_, rfl⟩
    replace h := h x3_9 hx_10
    refine f_iinc C (j := 3) (v := x3_9) (lv2 := [(3, .int x3_9), (0, .ref (B + 101)), (1, .int x1), (2, .int x2)]) dX12_copy_33 rfl hx_10.symm (by decide) rfl rfl ?_
    refine f_goto C (t := 2) dX12_copy_36 (by decide) ?_
    refine f_lv C (lv2 := [(0, .ref (B + 101)), (1, .int x1), (2, .int x2), (3, .int x3_9)]) [1, 2, 3, 0] rfl ?_
    exact hK2 _ _ h
def w_X12_copy (x1 : Int32) (x2 : Int32) (σ : Sto) (P : Sto → Prop) : Prop :=
  Lp (fun (K : Int32 × Sto → Prop) s => w_X12_copy_2 K x1 x2 s.1 s.2 P) (0, σ)
theorem s_X12_copy {B : Nat} {E : Nat → List (Nat × Value) → List Value → Sto → Prop} {P : Sto → Prop} (C : Cy B E RX12 cX12_copy 4 none 0 0 (Zm (QFv P))) (x1 : Int32) (x2 : Int32) (σ : Sto) (h : w_X12_copy x1 x2 σ P) : E 0 [(0, .ref (B + 101)), (1, .int x1), (2, .int x2)] [] σ := by
  unfold w_X12_copy at h
  refine f_iconst C (v := 0) dX12_copy_0 kc0 rfl ?_
  refine f_istore_n C (lv2 := [(3, .int 0), (0, .ref (B + 101)), (1, .int x1), (2, .int x2)]) dX12_copy_1 rfl (by decide) rfl rfl ?_
  refine f_lv C (lv2 := [(0, .ref (B + 101)), (1, .int x1), (2, .int x2), (3, .int 0)]) [1, 2, 3, 0] rfl ?_
  exact Lp_sound (fun s : Int32 × Sto => E 2 [(0, .ref (B + 101)), (1, .int x1), (2, .int x2), (3, .int s.1)] [] s.2) h (fun K s hK h => s_X12_copy_2 C x1 x2 s.1 K (fun x3 σ hk => hK (x3, σ) hk) s.2 h)
theorem c_X12_copy (x1 : Int32) (x2 : Int32) (σ : Sto) (P : Sto → Prop) (h : w_X12_copy x1 x2 σ P) : Ct yX12_copy cX12_copy 4 none 0 0 (fun B => [.ref (B + 101), .int x1, .int x2]) σ (QFv P) := Ct.of (by decide) (fun _ => Nat.le_of_ble_eq_true rfl) (fun B E C => s_X12_copy C x1 x2 σ h)
def w_X12_city_183 (σ : Sto) (P : Int32 → Sto → Prop) : Prop :=
  w_X12_isWell σ (fun r_7 σ_6 => (if r_7 = 0 then P (-1) σ_6 else w_X12_copy 4 0 σ_6 (fun σ_9 => P (gi σ_9 106 0) σ_9)))
theorem s_X12_city_183 {B : Nat} {E : Nat → List (Nat × Value) → List Value → Sto → Prop} {P : Int32 → Sto → Prop} (C : Cy B E RX12 cX12_city 3 (some .int) 7 157 (Zm (QFi P))) (σ : Sto) (h : w_X12_city_183 σ P) : E 183 [(0, .ref (B + 101))] [] σ := by
  unfold w_X12_city_183 at h
  refine f_aload_n C (j := 0) dX12_city_183 rfl rfl rfl ?_
  refine f_callVi C (a := 101) (ci := 12) (As := fun B => []) o101 rfl (c_X12_isWell   _ _ h) tM_X12_295 tI_X12_isWell tS_X12_isWell tN_X12 tC_X12_isWell 0 dd_X12_isWell rfl (by decide) (by decide) rfl (Nat.le_of_ble_eq_true rfl) dX12_city_184 rfl (fun r_7 σ_6 h => ?_)
  refine f_if_ne C (t := 192) dX12_city_187 (by decide) rfl (fun hq_8 => ?_) (fun hq_8 => ?_)
  · replace h := Eq.mp (if_neg hq_8) h
    refine f_aload_n C (j := 0) dX12_city_192 rfl rfl rfl ?_
    refine f_iconst C (v := 4) dX12_city_193 kc4 rfl ?_
    refine f_iconst C (v := 0) dX12_city_194 kc0 rfl ?_
    refine f_callVv C (a := 101) (ci := 12) (As := fun B => [.int 4, .int 0]) o101 rfl (c_X12_copy  _ _ _ _ h) tM_X12_298 tI_X12_copy tS_X12_copy tN_X12 tC_X12_copy 2 dd_X12_copy rfl (by decide) (by decide) rfl (Nat.le_of_ble_eq_true rfl) dX12_city_195 rfl (fun σ_9 h => ?_)
    refine f_aload_n C (j := 0) dX12_city_198 rfl rfl rfl ?_
    refine f_getc C tF_X12_35 rfl o101 cs101_20 (by decide) dX12_city_199 rfl ?_
    refine f_iconst C (v := 0) dX12_city_202 kc0 rfl ?_
    refine f_iald C (j := 0) a106 (vp_lit (by decide)) rfl dX12_city_203 rfl ?_
    exact f_iret C dX12_city_204 h
  · replace h := Eq.mp (if_pos hq_8) h
    refine f_iconst C (v := (-1)) dX12_city_190 kcm1 rfl ?_
    exact f_iret C dX12_city_191 h
def w_X12_city_170 (K54 : Sto → Prop) (σ : Sto) (P : Int32 → Sto → Prop) : Prop :=
  w_X12_isSign 59 σ (fun r_36 σ_35 => w_X12_must r_36 σ_35 (fun σ_37 => K54 σ_37))
theorem s_X12_city_170 {B : Nat} {E : Nat → List (Nat × Value) → List Value → Sto → Prop} {P : Int32 → Sto → Prop} (C : Cy B E RX12 cX12_city 3 (some .int) 7 157 (Zm (QFi P))) (K54 : Sto → Prop) (hK54 : ∀ (σ : Sto), K54 (σ) → E 54 [(0, .ref (B + 101))] [] σ) (σ : Sto) (h : w_X12_city_170 K54 σ P) : E 170 [(0, .ref (B + 101))] [] σ := by
  unfold w_X12_city_170 at h
  refine f_aload_n C (j := 0) dX12_city_170 rfl rfl rfl ?_
  refine f_aload_n C (j := 0) dX12_city_171 rfl rfl rfl ?_
  refine f_bipush C (v := 59) dX12_city_172 kb59 rfl ?_
  refine f_callVi C (a := 101) (ci := 12) (As := fun B => [.int 59]) o101 rfl (c_X12_isSign  _ _ _ h) tM_X12_292 tI_X12_isSign tS_X12_isSign tN_X12 tC_X12_isSign 1 dd_X12_isSign rfl (by decide) (by decide) rfl (Nat.le_of_ble_eq_true rfl) dX12_city_174 rfl (fun r_36 σ_35 h => ?_)
  refine f_callVv C (a := 101) (ci := 12) (As := fun B => [.int r_36]) o101 rfl (c_X12_must  _ _ _ h) tM_X12_244 tI_X12_must tS_X12_must tN_X12 tC_X12_must 1 dd_X12_must rfl (by decide) (by decide) rfl (Nat.le_of_ble_eq_true rfl) dX12_city_177 rfl (fun σ_37 h => ?_)
  refine f_goto C (t := 54) dX12_city_180 (by decide) ?_
  exact hK54  _ h
def w_X12_city_54 (K54 : Sto → Prop) (σ : Sto) (P : Int32 → Sto → Prop) : Prop :=
  (if (gi σ 101 12) = 0 then (if (gi σ 101 14) = 0 then w_X12_city_183 σ P else w_X12_isThing σ (fun r_13 σ_12 => (if r_13 = 0 then w_X12_isMakes σ_12 (fun r_16 σ_15 => (if r_16 = 0 then w_X12_isWork σ_15 (fun r_19 σ_18 => (if r_19 = 0 then w_X12_isVoter σ_18 (fun r_22 σ_21 => (if r_22 = 0 then w_X12_isHates σ_21 (fun r_25 σ_24 => (if r_25 = 0 then w_X12_isAhead σ_24 (fun r_28 σ_27 => (if r_28 = 0 then w_X12_isLaw σ_27 (fun r_31 σ_30 => (if r_31 = 0 then w_X12_amiss σ_30 (fun σ_33 => w_X12_city_170 K54 σ_33 P) else w_X12_readLaw σ_30 (fun σ_39 => w_X12_city_170 K54 σ_39 P))) else w_X12_readAhead σ_27 (fun σ_41 => w_X12_city_170 K54 σ_41 P))) else w_X12_readHates σ_24 (fun σ_43 => w_X12_city_170 K54 σ_43 P))) else w_X12_readVoter σ_21 (fun σ_45 => w_X12_city_170 K54 σ_45 P))) else w_X12_readWork σ_18 (fun σ_47 => w_X12_city_170 K54 σ_47 P))) else w_X12_readMakes σ_15 (fun σ_49 => w_X12_city_170 K54 σ_49 P))) else w_X12_readThing σ_12 (fun σ_51 => w_X12_city_170 K54 σ_51 P)))) else w_X12_city_183 σ P)
theorem s_X12_city_54 {B : Nat} {E : Nat → List (Nat × Value) → List Value → Sto → Prop} {P : Int32 → Sto → Prop} (C : Cy B E RX12 cX12_city 3 (some .int) 7 157 (Zm (QFi P))) (K54 : Sto → Prop) (hK54 : ∀ (σ : Sto), K54 (σ) → E 54 [(0, .ref (B + 101))] [] σ) (σ : Sto) (h : w_X12_city_54 K54 σ P) : E 54 [(0, .ref (B + 101))] [] σ := by
  unfold w_X12_city_54 at h
  refine f_aload_n C (j := 0) dX12_city_54 rfl rfl rfl ?_
  refine f_geti C tF_X12_209 rfl o101 dX12_city_55 rfl ?_
  refine f_if_ne C (t := 183) dX12_city_58 (by decide) rfl (fun hq_5 => ?_) (fun hq_5 => ?_)
  · replace h := Eq.mp (if_neg hq_5) h
    exact s_X12_city_183 C  _ h
  · replace h := Eq.mp (if_pos hq_5) h
    refine f_aload_n C (j := 0) dX12_city_61 rfl rfl rfl ?_
    refine f_geti C tF_X12_129 rfl o101 dX12_city_62 rfl ?_
    refine f_if_eq C (t := 183) dX12_city_65 (by decide) rfl (fun hq_11 => ?_) (fun hq_11 => ?_)
    · replace h := Eq.mp (if_pos hq_11) h
      exact s_X12_city_183 C  _ h
    · replace h := Eq.mp (if_neg hq_11) h
      refine f_aload_n C (j := 0) dX12_city_68 rfl rfl rfl ?_
      refine f_callVi C (a := 101) (ci := 12) (As := fun B => []) o101 rfl (c_X12_isThing   _ _ h) tM_X12_162 tI_X12_isThing tS_X12_isThing tN_X12 tC_X12_isThing 0 dd_X12_isThing rfl (by decide) (by decide) rfl (Nat.le_of_ble_eq_true rfl) dX12_city_69 rfl (fun r_13 σ_12 h => ?_)
      refine f_if_eq C (t := 82) dX12_city_72 (by decide) rfl (fun hq_14 => ?_) (fun hq_14 => ?_)
      · replace h := Eq.mp (if_pos hq_14) h
        refine f_aload_n C (j := 0) dX12_city_82 rfl rfl rfl ?_
        refine f_callVi C (a := 101) (ci := 12) (As := fun B => []) o101 rfl (c_X12_isMakes   _ _ h) tM_X12_172 tI_X12_isMakes tS_X12_isMakes tN_X12 tC_X12_isMakes 0 dd_X12_isMakes rfl (by decide) (by decide) rfl (Nat.le_of_ble_eq_true rfl) dX12_city_83 rfl (fun r_16 σ_15 h => ?_)
        refine f_if_eq C (t := 96) dX12_city_86 (by decide) rfl (fun hq_17 => ?_) (fun hq_17 => ?_)
        · replace h := Eq.mp (if_pos hq_17) h
          refine f_aload_n C (j := 0) dX12_city_96 rfl rfl rfl ?_
          refine f_callVi C (a := 101) (ci := 12) (As := fun B => []) o101 rfl (c_X12_isWork   _ _ h) tM_X12_178 tI_X12_isWork tS_X12_isWork tN_X12 tC_X12_isWork 0 dd_X12_isWork rfl (by decide) (by decide) rfl (Nat.le_of_ble_eq_true rfl) dX12_city_97 rfl (fun r_19 σ_18 h => ?_)
          refine f_if_eq C (t := 110) dX12_city_100 (by decide) rfl (fun hq_20 => ?_) (fun hq_20 => ?_)
          · replace h := Eq.mp (if_pos hq_20) h
            refine f_aload_n C (j := 0) dX12_city_110 rfl rfl rfl ?_
            refine f_callVi C (a := 101) (ci := 12) (As := fun B => []) o101 rfl (c_X12_isVoter   _ _ h) tM_X12_184 tI_X12_isVoter tS_X12_isVoter tN_X12 tC_X12_isVoter 0 dd_X12_isVoter rfl (by decide) (by decide) rfl (Nat.le_of_ble_eq_true rfl) dX12_city_111 rfl (fun r_22 σ_21 h => ?_)
            refine f_if_eq C (t := 124) dX12_city_114 (by decide) rfl (fun hq_23 => ?_) (fun hq_23 => ?_)
            · replace h := Eq.mp (if_pos hq_23) h
              refine f_aload_n C (j := 0) dX12_city_124 rfl rfl rfl ?_
              refine f_callVi C (a := 101) (ci := 12) (As := fun B => []) o101 rfl (c_X12_isHates   _ _ h) tM_X12_187 tI_X12_isHates tS_X12_isHates tN_X12 tC_X12_isHates 0 dd_X12_isHates rfl (by decide) (by decide) rfl (Nat.le_of_ble_eq_true rfl) dX12_city_125 rfl (fun r_25 σ_24 h => ?_)
              refine f_if_eq C (t := 138) dX12_city_128 (by decide) rfl (fun hq_26 => ?_) (fun hq_26 => ?_)
              · replace h := Eq.mp (if_pos hq_26) h
                refine f_aload_n C (j := 0) dX12_city_138 rfl rfl rfl ?_
                refine f_callVi C (a := 101) (ci := 12) (As := fun B => []) o101 rfl (c_X12_isAhead   _ _ h) tM_X12_190 tI_X12_isAhead tS_X12_isAhead tN_X12 tC_X12_isAhead 0 dd_X12_isAhead rfl (by decide) (by decide) rfl (Nat.le_of_ble_eq_true rfl) dX12_city_139 rfl (fun r_28 σ_27 h => ?_)
                refine f_if_eq C (t := 152) dX12_city_142 (by decide) rfl (fun hq_29 => ?_) (fun hq_29 => ?_)
                · replace h := Eq.mp (if_pos hq_29) h
                  refine f_aload_n C (j := 0) dX12_city_152 rfl rfl rfl ?_
                  refine f_callVi C (a := 101) (ci := 12) (As := fun B => []) o101 rfl (c_X12_isLaw   _ _ h) tM_X12_193 tI_X12_isLaw tS_X12_isLaw tN_X12 tC_X12_isLaw 0 dd_X12_isLaw rfl (by decide) (by decide) rfl (Nat.le_of_ble_eq_true rfl) dX12_city_153 rfl (fun r_31 σ_30 h => ?_)
                  refine f_if_eq C (t := 166) dX12_city_156 (by decide) rfl (fun hq_32 => ?_) (fun hq_32 => ?_)
                  · replace h := Eq.mp (if_pos hq_32) h
                    refine f_aload_n C (j := 0) dX12_city_166 rfl rfl rfl ?_
                    refine f_callVv C (a := 101) (ci := 12) (As := fun B => []) o101 rfl (c_X12_amiss   _ _ h) tM_X12_222 tI_X12_amiss tS_X12_amiss tN_X12 tC_X12_amiss 0 dd_X12_amiss rfl (by decide) (by decide) rfl (Nat.le_of_ble_eq_true rfl) dX12_city_167 rfl (fun σ_33 h => ?_)
                    exact s_X12_city_170 C  K54 hK54 _ h
                  · replace h := Eq.mp (if_neg hq_32) h
                    refine f_aload_n C (j := 0) dX12_city_159 rfl rfl rfl ?_
                    refine f_callVv C (a := 101) (ci := 12) (As := fun B => []) o101 rfl (c_X12_readLaw   _ _ h) tM_X12_289 tI_X12_readLaw tS_X12_readLaw tN_X12 tC_X12_readLaw 0 dd_X12_readLaw rfl (by decide) (by decide) rfl (Nat.le_of_ble_eq_true rfl) dX12_city_160 rfl (fun σ_39 h => ?_)
                    refine f_goto C (t := 170) dX12_city_163 (by decide) ?_
                    exact s_X12_city_170 C  K54 hK54 _ h
                · replace h := Eq.mp (if_neg hq_29) h
                  refine f_aload_n C (j := 0) dX12_city_145 rfl rfl rfl ?_
                  refine f_callVv C (a := 101) (ci := 12) (As := fun B => []) o101 rfl (c_X12_readAhead   _ _ h) tM_X12_286 tI_X12_readAhead tS_X12_readAhead tN_X12 tC_X12_readAhead 0 dd_X12_readAhead rfl (by decide) (by decide) rfl (Nat.le_of_ble_eq_true rfl) dX12_city_146 rfl (fun σ_41 h => ?_)
                  refine f_goto C (t := 170) dX12_city_149 (by decide) ?_
                  exact s_X12_city_170 C  K54 hK54 _ h
              · replace h := Eq.mp (if_neg hq_26) h
                refine f_aload_n C (j := 0) dX12_city_131 rfl rfl rfl ?_
                refine f_callVv C (a := 101) (ci := 12) (As := fun B => []) o101 rfl (c_X12_readHates   _ _ h) tM_X12_283 tI_X12_readHates tS_X12_readHates tN_X12 tC_X12_readHates 0 dd_X12_readHates rfl (by decide) (by decide) rfl (Nat.le_of_ble_eq_true rfl) dX12_city_132 rfl (fun σ_43 h => ?_)
                refine f_goto C (t := 170) dX12_city_135 (by decide) ?_
                exact s_X12_city_170 C  K54 hK54 _ h
            · replace h := Eq.mp (if_neg hq_23) h
              refine f_aload_n C (j := 0) dX12_city_117 rfl rfl rfl ?_
              refine f_callVv C (a := 101) (ci := 12) (As := fun B => []) o101 rfl (c_X12_readVoter   _ _ h) tM_X12_280 tI_X12_readVoter tS_X12_readVoter tN_X12 tC_X12_readVoter 0 dd_X12_readVoter rfl (by decide) (by decide) rfl (Nat.le_of_ble_eq_true rfl) dX12_city_118 rfl (fun σ_45 h => ?_)
              refine f_goto C (t := 170) dX12_city_121 (by decide) ?_
              exact s_X12_city_170 C  K54 hK54 _ h
          · replace h := Eq.mp (if_neg hq_20) h
            refine f_aload_n C (j := 0) dX12_city_103 rfl rfl rfl ?_
            refine f_callVv C (a := 101) (ci := 12) (As := fun B => []) o101 rfl (c_X12_readWork   _ _ h) tM_X12_277 tI_X12_readWork tS_X12_readWork tN_X12 tC_X12_readWork 0 dd_X12_readWork rfl (by decide) (by decide) rfl (Nat.le_of_ble_eq_true rfl) dX12_city_104 rfl (fun σ_47 h => ?_)
            refine f_goto C (t := 170) dX12_city_107 (by decide) ?_
            exact s_X12_city_170 C  K54 hK54 _ h
        · replace h := Eq.mp (if_neg hq_17) h
          refine f_aload_n C (j := 0) dX12_city_89 rfl rfl rfl ?_
          refine f_callVv C (a := 101) (ci := 12) (As := fun B => []) o101 rfl (c_X12_readMakes   _ _ h) tM_X12_274 tI_X12_readMakes tS_X12_readMakes tN_X12 tC_X12_readMakes 0 dd_X12_readMakes rfl (by decide) (by decide) rfl (Nat.le_of_ble_eq_true rfl) dX12_city_90 rfl (fun σ_49 h => ?_)
          refine f_goto C (t := 170) dX12_city_93 (by decide) ?_
          exact s_X12_city_170 C  K54 hK54 _ h
      · replace h := Eq.mp (if_neg hq_14) h
        refine f_aload_n C (j := 0) dX12_city_75 rfl rfl rfl ?_
        refine f_callVv C (a := 101) (ci := 12) (As := fun B => []) o101 rfl (c_X12_readThing   _ _ h) tM_X12_271 tI_X12_readThing tS_X12_readThing tN_X12 tC_X12_readThing 0 dd_X12_readThing rfl (by decide) (by decide) rfl (Nat.le_of_ble_eq_true rfl) dX12_city_76 rfl (fun σ_51 h => ?_)
        refine f_goto C (t := 170) dX12_city_79 (by decide) ?_
        exact s_X12_city_170 C  K54 hK54 _ h
def w_X12_city_25 (K25 : Int32 × Sto → Prop) (x2 : Int32) (σ : Sto) (P : Int32 → Sto → Prop) : Prop :=
  (if 421 ≤ x2 then Lp (fun (K : Sto → Prop) s => w_X12_city_54 K  s P) (si σ 101 24 0) else vp_in (1684 + x2) 2105 ∧ ∀ x2_54 : Int32, x2_54 = x2 + 1 → K25 (x2_54, si σ 106 (tn (1684 + x2)) 0))
theorem s_X12_city_25 {B : Nat} {E : Nat → List (Nat × Value) → List Value → Sto → Prop} {P : Int32 → Sto → Prop} (C : Cy B E RX12 cX12_city 3 (some .int) 7 157 (Zm (QFi P))) (x2 : Int32) (K25 : Int32 × Sto → Prop) (hK25 : ∀ (x2 : Int32) (σ : Sto), K25 (x2, σ) → E 25 [(0, .ref (B + 101)), (2, .int x2)] [] σ) (σ : Sto) (h : w_X12_city_25 K25 x2 σ P) : E 25 [(0, .ref (B + 101)), (2, .int x2)] [] σ := by
  unfold w_X12_city_25 at h
  refine f_iload_n C (j := 1) dX12_city_25 rfl rfl rfl ?_
  refine f_sipush C (v := 421) dX12_city_26 ks421 rfl ?_
  refine f_icmp_ge C (t := 49) dX12_city_29 (by decide) rfl (fun hq_4 => ?_) (fun hq_4 => ?_)
  · replace h := Eq.mp (if_pos hq_4) h
    refine f_aload_n C (j := 0) dX12_city_49 rfl rfl rfl ?_
    refine f_iconst C (v := 0) dX12_city_50 kc0 rfl ?_
    refine f_putz C tF_X12_264 fm_12_24 rfl (Or.inl rfl) o101 dX12_city_51 rfl ?_
    refine f_lv C (lv2 := [(0, .ref (B + 101))]) [0] rfl ?_
    exact Lp_sound (fun s : Sto => E 54 [(0, .ref (B + 101))] [] s) h (fun K s hK h => s_X12_city_54 C  K (fun σ hk => hK σ hk) s h)
  · replace h := Eq.mp (if_neg hq_4) h
    refine f_aload_n C (j := 0) dX12_city_32 rfl rfl rfl ?_
    refine f_getc C tF_X12_35 rfl o101 cs101_20 (by decide) dX12_city_33 rfl ?_
    refine f_sipush C (v := 1684) dX12_city_36 ks1684 rfl ?_
    refine f_iload_n C (j := 1) dX12_city_39 rfl rfl rfl ?_
    refine f_iadd C dX12_city_40 rfl ?_
    refine f_iconst C (v := 0) dX12_city_41 kc0 rfl ?_
    obtain ⟨hi_53, h⟩ := h
    refine f_iast C (j := tn (1684 + x2)) a106 hi_53 rfl dX12_city_42 rfl ?_
    obtain ⟨x2_54, hx_55⟩ : ∃ y : Int32, y = x2 + 1 := ⟨_, rfl⟩
    replace h := h x2_54 hx_55
    refine f_iinc C (j := 1) (v := x2_54) (lv2 := [(2, .int x2_54), (0, .ref (B + 101))]) dX12_city_43 rfl hx_55.symm (by decide) rfl rfl ?_
    refine f_goto C (t := 25) dX12_city_46 (by decide) ?_
    refine f_lv C (lv2 := [(0, .ref (B + 101)), (2, .int x2_54)]) [1, 0] rfl ?_
    exact hK25 _ _ h
def w_X12_city (x1 : Int32) (σ : Sto) (P : Int32 → Sto → Prop) : Prop :=
  w_X12_starts x1 900 (si (si σ 101 1 0) 101 0 0) (fun r_2 σ_1 => (if r_2 = 0 then P (-1) σ_1 else Lp (fun (K : Int32 × Sto → Prop) s => w_X12_city_25 K s.1 s.2 P) (0, σ_1)))
theorem s_X12_city {B : Nat} {E : Nat → List (Nat × Value) → List Value → Sto → Prop} {P : Int32 → Sto → Prop} (C : Cy B E RX12 cX12_city 3 (some .int) 7 157 (Zm (QFi P))) (x1 : Int32) (σ : Sto) (h : w_X12_city x1 σ P) : E 0 [(0, .ref (B + 101)), (1, .int x1)] [] σ := by
  unfold w_X12_city at h
  refine f_aload_n C (j := 0) dX12_city_0 rfl rfl rfl ?_
  refine f_iconst C (v := 0) dX12_city_1 kc0 rfl ?_
  refine f_puti C tF_X12_74 fm_12_1 rfl o101 dX12_city_2 rfl ?_
  refine f_aload_n C (j := 0) dX12_city_5 rfl rfl rfl ?_
  refine f_iconst C (v := 0) dX12_city_6 kc0 rfl ?_
  refine f_puti C tF_X12_77 fm_12_0 rfl o101 dX12_city_7 rfl ?_
  refine f_aload_n C (j := 0) dX12_city_10 rfl rfl rfl ?_
  refine f_iload_n C (j := 1) dX12_city_11 rfl rfl rfl ?_
  refine f_sipush C (v := 900) dX12_city_12 ks900 rfl ?_
  refine f_callVi C (a := 101) (ci := 12) (As := fun B => [.int x1, .int 900]) o101 rfl (c_X12_starts  _ _ _ _ h) tM_X12_268 tI_X12_starts tS_X12_starts tN_X12 tC_X12_starts 2 dd_X12_starts rfl (by decide) (by decide) rfl (Nat.le_of_ble_eq_true rfl) dX12_city_15 rfl (fun r_2 σ_1 h => ?_)
  refine f_if_ne C (t := 23) dX12_city_18 (by decide) rfl (fun hq_3 => ?_) (fun hq_3 => ?_)
  · replace h := Eq.mp (if_neg hq_3) h
    refine f_iconst C (v := 0) dX12_city_23 kc0 rfl ?_
    refine f_istore_n C (lv2 := [(2, .int 0), (0, .ref (B + 101)), (1, .int x1)]) dX12_city_24 rfl (by decide) rfl rfl ?_
    refine f_lv C (lv2 := [(0, .ref (B + 101)), (2, .int 0)]) [1, 0] rfl ?_
    exact Lp_sound (fun s : Int32 × Sto => E 25 [(0, .ref (B + 101)), (2, .int s.1)] [] s.2) h (fun K s hK h => s_X12_city_25 C s.1 K (fun x2 σ hk => hK (x2, σ) hk) s.2 h)
  · replace h := Eq.mp (if_pos hq_3) h
    refine f_iconst C (v := (-1)) dX12_city_21 kcm1 rfl ?_
    exact f_iret C dX12_city_22 h
theorem c_X12_city (x1 : Int32) (σ : Sto) (P : Int32 → Sto → Prop) (h : w_X12_city x1 σ P) : Ct yX12_city cX12_city 3 (some .int) 7 157 (fun B => [.ref (B + 101), .int x1]) σ (QFi P) := Ct.of (by decide) (fun _ => Nat.le_of_ble_eq_true rfl) (fun B E C => s_X12_city C x1 σ h)
def w_X12_readTest_123 (x1 : Int32) (z0 : Int32) (σ : Sto) (P : Sto → Prop) : Prop :=
  w_X12_must z0 σ (fun σ_20 => w_X12_count 0 99 σ_20 (fun r_23 σ_22 => vp_in (x1 + 2) 2105 ∧ P (si σ_22 106 (tn (x1 + 2)) r_23)))
theorem s_X12_readTest_123 {B : Nat} {E : Nat → List (Nat × Value) → List Value → Sto → Prop} {P : Sto → Prop} (C : Cy B E RX12 cX12_readTest 3 none 5 111 (Zm (QFv P))) (x1 : Int32) (z0 : Int32) (σ : Sto) (h : w_X12_readTest_123 x1 z0 σ P) : E 123 [(0, .ref (B + 101)), (1, .int x1)] [.int z0, .ref (B + 101)] σ := by
  unfold w_X12_readTest_123 at h
  refine f_callVv C (a := 101) (ci := 12) (As := fun B => [.int z0]) o101 rfl (c_X12_must  _ _ _ h) tM_X12_244 tI_X12_must tS_X12_must tN_X12 tC_X12_must 1 dd_X12_must rfl (by decide) (by decide) rfl (Nat.le_of_ble_eq_true rfl) dX12_readTest_123 rfl (fun σ_20 h => ?_)
  refine f_aload_n C (j := 0) dX12_readTest_126 rfl rfl rfl ?_
  refine f_getc C tF_X12_35 rfl o101 cs101_20 (by decide) dX12_readTest_127 rfl ?_
  refine f_iload_n C (j := 1) dX12_readTest_130 rfl rfl rfl ?_
  refine f_iconst C (v := 2) dX12_readTest_131 kc2 rfl ?_
  refine f_iadd C dX12_readTest_132 rfl ?_
  refine f_aload_n C (j := 0) dX12_readTest_133 rfl rfl rfl ?_
  refine f_iconst C (v := 0) dX12_readTest_134 kc0 rfl ?_
  refine f_bipush C (v := 99) dX12_readTest_135 kb99 rfl ?_
  refine f_callVi C (a := 101) (ci := 12) (As := fun B => [.int 0, .int 99]) o101 rfl (c_X12_count  _ _ _ _ h) tM_X12_258 tI_X12_count tS_X12_count tN_X12 tC_X12_count 2 dd_X12_count rfl (by decide) (by decide) rfl (Nat.le_of_ble_eq_true rfl) dX12_readTest_137 rfl (fun r_23 σ_22 h => ?_)
  obtain ⟨hi_24, h⟩ := h
  refine f_iast C (j := tn (x1 + 2)) a106 hi_24 rfl dX12_readTest_140 rfl ?_
  exact f_vret C dX12_readTest_141 h
def w_X12_readTest_89 (x1 : Int32) (z0 : Int32) (z1 : Int32) (σ : Sto) (P : Sto → Prop) : Prop :=
  vp_in z1 2105 ∧ w_X12_isSign 60 (si σ 106 (tn z1) z0) (fun r_18 σ_17 => (if r_18 = 0 then w_X12_isSign 62 σ_17 (fun r_26 σ_25 => (if r_26 = 0 then w_X12_isSign 61 σ_25 (fun r_29 σ_28 => (if r_29 = 0 then w_X12_readTest_123 x1 0 σ_28 P else w_X12_readTest_123 x1 1 σ_28 P)) else w_X12_readTest_123 x1 1 σ_25 P)) else w_X12_readTest_123 x1 1 σ_17 P))
theorem s_X12_readTest_89 {B : Nat} {E : Nat → List (Nat × Value) → List Value → Sto → Prop} {P : Sto → Prop} (C : Cy B E RX12 cX12_readTest 3 none 5 111 (Zm (QFv P))) (x1 : Int32) (z0 : Int32) (z1 : Int32) (σ : Sto) (h : w_X12_readTest_89 x1 z0 z1 σ P) : E 89 [(0, .ref (B + 101)), (1, .int x1)] [.int z0, .int z1, .ref (B + 106)] σ := by
  unfold w_X12_readTest_89 at h
  obtain ⟨hi_16, h⟩ := h
  refine f_iast C (j := tn z1) a106 hi_16 rfl dX12_readTest_89 rfl ?_
  refine f_aload_n C (j := 0) dX12_readTest_90 rfl rfl rfl ?_
  refine f_aload_n C (j := 0) dX12_readTest_91 rfl rfl rfl ?_
  refine f_bipush C (v := 60) dX12_readTest_92 kb60 rfl ?_
  refine f_callVi C (a := 101) (ci := 12) (As := fun B => [.int 60]) o101 rfl (c_X12_isSign  _ _ _ h) tM_X12_292 tI_X12_isSign tS_X12_isSign tN_X12 tC_X12_isSign 1 dd_X12_isSign rfl (by decide) (by decide) rfl (Nat.le_of_ble_eq_true rfl) dX12_readTest_94 rfl (fun r_18 σ_17 h => ?_)
  refine f_if_ne C (t := 118) dX12_readTest_97 (by decide) rfl (fun hq_19 => ?_) (fun hq_19 => ?_)
  · replace h := Eq.mp (if_neg hq_19) h
    refine f_iconst C (v := 1) dX12_readTest_118 kc1 rfl ?_
    refine f_goto C (t := 123) dX12_readTest_119 (by decide) ?_
    exact s_X12_readTest_123 C _ _  _ h
  · replace h := Eq.mp (if_pos hq_19) h
    refine f_aload_n C (j := 0) dX12_readTest_100 rfl rfl rfl ?_
    refine f_bipush C (v := 62) dX12_readTest_101 kb62 rfl ?_
    refine f_callVi C (a := 101) (ci := 12) (As := fun B => [.int 62]) o101 rfl (c_X12_isSign  _ _ _ h) tM_X12_292 tI_X12_isSign tS_X12_isSign tN_X12 tC_X12_isSign 1 dd_X12_isSign rfl (by decide) (by decide) rfl (Nat.le_of_ble_eq_true rfl) dX12_readTest_103 rfl (fun r_26 σ_25 h => ?_)
    refine f_if_ne C (t := 118) dX12_readTest_106 (by decide) rfl (fun hq_27 => ?_) (fun hq_27 => ?_)
    · replace h := Eq.mp (if_neg hq_27) h
      refine f_iconst C (v := 1) dX12_readTest_118 kc1 rfl ?_
      refine f_goto C (t := 123) dX12_readTest_119 (by decide) ?_
      exact s_X12_readTest_123 C _ _  _ h
    · replace h := Eq.mp (if_pos hq_27) h
      refine f_aload_n C (j := 0) dX12_readTest_109 rfl rfl rfl ?_
      refine f_bipush C (v := 61) dX12_readTest_110 kb61 rfl ?_
      refine f_callVi C (a := 101) (ci := 12) (As := fun B => [.int 61]) o101 rfl (c_X12_isSign  _ _ _ h) tM_X12_292 tI_X12_isSign tS_X12_isSign tN_X12 tC_X12_isSign 1 dd_X12_isSign rfl (by decide) (by decide) rfl (Nat.le_of_ble_eq_true rfl) dX12_readTest_112 rfl (fun r_29 σ_28 h => ?_)
      refine f_if_eq C (t := 122) dX12_readTest_115 (by decide) rfl (fun hq_30 => ?_) (fun hq_30 => ?_)
      · replace h := Eq.mp (if_pos hq_30) h
        refine f_iconst C (v := 0) dX12_readTest_122 kc0 rfl ?_
        exact s_X12_readTest_123 C _ _  _ h
      · replace h := Eq.mp (if_neg hq_30) h
        refine f_iconst C (v := 1) dX12_readTest_118 kc1 rfl ?_
        refine f_goto C (t := 123) dX12_readTest_119 (by decide) ?_
        exact s_X12_readTest_123 C _ _  _ h
def w_X12_readTest_47 (x1 : Int32) (x2 : Int32) (z0 : Int32) (z1 : Int32) (z3 : Int32) (σ : Sto) (P : Sto → Prop) : Prop :=
  w_X12_readTold z1 z0 (-1) σ (fun r_9 σ_8 => vp_in z3 2105 ∧ ∀ σ_11 : Sto, σ_11 = si σ_8 106 (tn z3) r_9 → (if 0 < (gi σ_11 101 12) then P σ_11 else (if x2 = 2 then (if (gi σ_11 101 14) = 3 then w_X12_readTest_89 x1 (gi σ_11 101 17) (x1 + 7) σ_11 P else w_X12_readTest_89 x1 0 (x1 + 7) σ_11 P) else P σ_11)))
theorem s_X12_readTest_47 {B : Nat} {E : Nat → List (Nat × Value) → List Value → Sto → Prop} {P : Sto → Prop} (C : Cy B E RX12 cX12_readTest 3 none 5 111 (Zm (QFv P))) (x1 : Int32) (x2 : Int32) (z0 : Int32) (z1 : Int32) (z3 : Int32) (σ : Sto) (h : w_X12_readTest_47 x1 x2 z0 z1 z3 σ P) : E 47 [(0, .ref (B + 101)), (1, .int x1), (2, .int x2)] [.int z0, .int z1, .ref (B + 101), .int z3, .ref (B + 106)] σ := by
  unfold w_X12_readTest_47 at h
  refine f_iconst C (v := (-1)) dX12_readTest_47 kcm1 rfl ?_
  refine f_callVi C (a := 101) (ci := 12) (As := fun B => [.int z1, .int z0, .int (-1)]) o101 rfl (c_X12_readTold  _ _ _ _ _ h) tM_X12_251 tI_X12_readTold tS_X12_readTold tN_X12 tC_X12_readTold 3 dd_X12_readTold rfl (by decide) (by decide) rfl (Nat.le_of_ble_eq_true rfl) dX12_readTest_48 rfl (fun r_9 σ_8 h => ?_)
  obtain ⟨hi_10, h⟩ := h
  refine f_iast C (j := tn z3) a106 hi_10 rfl dX12_readTest_51 rfl ?_
  refine f_aload_n C (j := 0) dX12_readTest_52 rfl rfl rfl ?_
  refine f_names (fun σ_11 hσ_12 => ?_)
  replace h := h σ_11 hσ_12
  refine f_geti C tF_X12_209 rfl o101 dX12_readTest_53 rfl ?_
  refine f_if_gt C (t := 64) dX12_readTest_56 (by decide) rfl (fun hq_13 => ?_) (fun hq_13 => ?_)
  · replace h := Eq.mp (if_pos hq_13) h
    exact f_vret C dX12_readTest_64 h
  · replace h := Eq.mp (if_neg hq_13) h
    refine f_iload_n C (j := 2) dX12_readTest_59 rfl rfl rfl ?_
    refine f_iconst C (v := 2) dX12_readTest_60 kc2 rfl ?_
    refine f_icmp_eq C (t := 65) dX12_readTest_61 (by decide) rfl (fun hq_14 => ?_) (fun hq_14 => ?_)
    · replace h := Eq.mp (if_pos hq_14) h
      refine f_aload_n C (j := 0) dX12_readTest_65 rfl rfl rfl ?_
      refine f_getc C tF_X12_35 rfl o101 cs101_20 (by decide) dX12_readTest_66 rfl ?_
      refine f_iload_n C (j := 1) dX12_readTest_69 rfl rfl rfl ?_
      refine f_bipush C (v := 7) dX12_readTest_70 kb7 rfl ?_
      refine f_iadd C dX12_readTest_72 rfl ?_
      refine f_aload_n C (j := 0) dX12_readTest_73 rfl rfl rfl ?_
      refine f_geti C tF_X12_129 rfl o101 dX12_readTest_74 rfl ?_
      refine f_iconst C (v := 3) dX12_readTest_77 kc3 rfl ?_
      refine f_icmp_ne C (t := 88) dX12_readTest_78 (by decide) rfl (fun hq_15 => ?_) (fun hq_15 => ?_)
      · replace h := Eq.mp (if_neg hq_15) h
        refine f_iconst C (v := 0) dX12_readTest_88 kc0 rfl ?_
        refine f_lv C (lv2 := [(0, .ref (B + 101)), (1, .int x1)]) [0, 1] rfl ?_
        exact s_X12_readTest_89 C _ _ _  _ h
      · replace h := Eq.mp (if_pos hq_15) h
        refine f_aload_n C (j := 0) dX12_readTest_81 rfl rfl rfl ?_
        refine f_geti C tF_X12_148 rfl o101 dX12_readTest_82 rfl ?_
        refine f_goto C (t := 89) dX12_readTest_85 (by decide) ?_
        refine f_lv C (lv2 := [(0, .ref (B + 101)), (1, .int x1)]) [0, 1] rfl ?_
        exact s_X12_readTest_89 C _ _ _  _ h
    · replace h := Eq.mp (if_neg hq_14) h
      exact f_vret C dX12_readTest_64 h
def w_X12_readTest_15 (x1 : Int32) (x2 : Int32) (z0 : Int32) (σ : Sto) (P : Sto → Prop) : Prop :=
  w_X12_must z0 σ (fun σ_4 => vp_in (x1 + 6) 2105 ∧ (if x2 = 1 then w_X12_readTest_47 x1 x2 1 0 (x1 + 1) (si σ_4 106 (tn (x1 + 6)) x2) P else w_X12_readTest_47 x1 x2 0 0 (x1 + 1) (si σ_4 106 (tn (x1 + 6)) x2) P))
theorem s_X12_readTest_15 {B : Nat} {E : Nat → List (Nat × Value) → List Value → Sto → Prop} {P : Sto → Prop} (C : Cy B E RX12 cX12_readTest 3 none 5 111 (Zm (QFv P))) (x1 : Int32) (x2 : Int32) (z0 : Int32) (σ : Sto) (h : w_X12_readTest_15 x1 x2 z0 σ P) : E 15 [(0, .ref (B + 101)), (1, .int x1), (2, .int x2)] [.int z0, .ref (B + 101)] σ := by
  unfold w_X12_readTest_15 at h
  refine f_callVv C (a := 101) (ci := 12) (As := fun B => [.int z0]) o101 rfl (c_X12_must  _ _ _ h) tM_X12_244 tI_X12_must tS_X12_must tN_X12 tC_X12_must 1 dd_X12_must rfl (by decide) (by decide) rfl (Nat.le_of_ble_eq_true rfl) dX12_readTest_15 rfl (fun σ_4 h => ?_)
  refine f_aload_n C (j := 0) dX12_readTest_18 rfl rfl rfl ?_
  refine f_getc C tF_X12_35 rfl o101 cs101_20 (by decide) dX12_readTest_19 rfl ?_
  refine f_iload_n C (j := 1) dX12_readTest_22 rfl rfl rfl ?_
  refine f_bipush C (v := 6) dX12_readTest_23 kb6 rfl ?_
  refine f_iadd C dX12_readTest_25 rfl ?_
  refine f_iload_n C (j := 2) dX12_readTest_26 rfl rfl rfl ?_
  obtain ⟨hi_6, h⟩ := h
  refine f_iast C (j := tn (x1 + 6)) a106 hi_6 rfl dX12_readTest_27 rfl ?_
  refine f_aload_n C (j := 0) dX12_readTest_28 rfl rfl rfl ?_
  refine f_getc C tF_X12_35 rfl o101 cs101_20 (by decide) dX12_readTest_29 rfl ?_
  refine f_iload_n C (j := 1) dX12_readTest_32 rfl rfl rfl ?_
  refine f_iconst C (v := 1) dX12_readTest_33 kc1 rfl ?_
  refine f_iadd C dX12_readTest_34 rfl ?_
  refine f_aload_n C (j := 0) dX12_readTest_35 rfl rfl rfl ?_
  refine f_iconst C (v := 0) dX12_readTest_36 kc0 rfl ?_
  refine f_iload_n C (j := 2) dX12_readTest_37 rfl rfl rfl ?_
  refine f_iconst C (v := 1) dX12_readTest_38 kc1 rfl ?_
  refine f_icmp_ne C (t := 46) dX12_readTest_39 (by decide) rfl (fun hq_7 => ?_) (fun hq_7 => ?_)
  · replace h := Eq.mp (if_neg hq_7) h
    refine f_iconst C (v := 0) dX12_readTest_46 kc0 rfl ?_
    exact s_X12_readTest_47 C _ _ _ _ _  _ h
  · replace h := Eq.mp (if_pos hq_7) h
    refine f_iconst C (v := 1) dX12_readTest_42 kc1 rfl ?_
    refine f_goto C (t := 47) dX12_readTest_43 (by decide) ?_
    exact s_X12_readTest_47 C _ _ _ _ _  _ h
def w_X12_readTest (x1 : Int32) (σ : Sto) (P : Sto → Prop) : Prop :=
  w_X12_testWord σ (fun r_2 σ_1 => (if r_2 < 0 then w_X12_readTest_15 x1 r_2 0 σ_1 P else w_X12_readTest_15 x1 r_2 1 σ_1 P))
theorem s_X12_readTest {B : Nat} {E : Nat → List (Nat × Value) → List Value → Sto → Prop} {P : Sto → Prop} (C : Cy B E RX12 cX12_readTest 3 none 5 111 (Zm (QFv P))) (x1 : Int32) (σ : Sto) (h : w_X12_readTest x1 σ P) : E 0 [(0, .ref (B + 101)), (1, .int x1)] [] σ := by
  unfold w_X12_readTest at h
  refine f_aload_n C (j := 0) dX12_readTest_0 rfl rfl rfl ?_
  refine f_callVi C (a := 101) (ci := 12) (As := fun B => []) o101 rfl (c_X12_testWord   _ _ h) tM_X12_200 tI_X12_testWord tS_X12_testWord tN_X12 tC_X12_testWord 0 dd_X12_testWord rfl (by decide) (by decide) rfl (Nat.le_of_ble_eq_true rfl) dX12_readTest_1 rfl (fun r_2 σ_1 h => ?_)
  refine f_istore_n C (lv2 := [(2, .int r_2), (0, .ref (B + 101)), (1, .int x1)]) dX12_readTest_4 rfl (by decide) rfl rfl ?_
  refine f_aload_n C (j := 1) dX12_readTest_5 rfl rfl rfl ?_
  refine f_iload_n C (j := 0) dX12_readTest_6 rfl rfl rfl ?_
  refine f_if_lt C (t := 14) dX12_readTest_7 (by decide) rfl (fun hq_3 => ?_) (fun hq_3 => ?_)
  · replace h := Eq.mp (if_pos hq_3) h
    refine f_iconst C (v := 0) dX12_readTest_14 kc0 rfl ?_
    refine f_lv C (lv2 := [(0, .ref (B + 101)), (1, .int x1), (2, .int r_2)]) [1, 2, 0] rfl ?_
    exact s_X12_readTest_15 C _ _ _  _ h
  · replace h := Eq.mp (if_neg hq_3) h
    refine f_iconst C (v := 1) dX12_readTest_10 kc1 rfl ?_
    refine f_goto C (t := 15) dX12_readTest_11 (by decide) ?_
    refine f_lv C (lv2 := [(0, .ref (B + 101)), (1, .int x1), (2, .int r_2)]) [1, 2, 0] rfl ?_
    exact s_X12_readTest_15 C _ _ _  _ h
theorem c_X12_readTest (x1 : Int32) (σ : Sto) (P : Sto → Prop) (h : w_X12_readTest x1 σ P) : Ct yX12_readTest cX12_readTest 3 none 5 111 (fun B => [.ref (B + 101), .int x1]) σ (QFv P) := Ct.of (by decide) (fun _ => Nat.le_of_ble_eq_true rfl) (fun B E C => s_X12_readTest C x1 σ h)
def w_X12_readRest (x1 : Int32) (σ : Sto) (P : Sto → Prop) : Prop :=
  vp_in x1 2105 ∧ ∀ x2_2 : Int32, x2_2 = gi σ 106 (tn x1) → (if x2_2 = 0 then w_X12_count 1 9 σ (fun r_17 σ_16 => vp_in (x1 + 1) 2105 ∧ P (si σ_16 106 (tn (x1 + 1)) r_17)) else (if x2_2 = 6 then w_X12_count 1 99 σ (fun r_14 σ_13 => vp_in (x1 + 1) 2105 ∧ P (si σ_13 106 (tn (x1 + 1)) r_14)) else (if x2_2 = 5 then w_X12_readTest x1 σ (fun σ_11 => P σ_11) else (if 4 ≤ x2_2 then P σ else w_X12_readTold 0 0 (-1) σ (fun r_9 σ_8 => vp_in (x1 + 1) 2105 ∧ P (si σ_8 106 (tn (x1 + 1)) r_9))))))
theorem s_X12_readRest {B : Nat} {E : Nat → List (Nat × Value) → List Value → Sto → Prop} {P : Sto → Prop} (C : Cy B E RX12 cX12_readRest 3 none 6 133 (Zm (QFv P))) (x1 : Int32) (σ : Sto) (h : w_X12_readRest x1 σ P) : E 0 [(0, .ref (B + 101)), (1, .int x1)] [] σ := by
  unfold w_X12_readRest at h
  refine f_aload_n C (j := 0) dX12_readRest_0 rfl rfl rfl ?_
  refine f_getc C tF_X12_35 rfl o101 cs101_20 (by decide) dX12_readRest_1 rfl ?_
  refine f_iload_n C (j := 1) dX12_readRest_4 rfl rfl rfl ?_
  obtain ⟨hi_1, h⟩ := h
  refine f_iald C (j := tn x1) a106 hi_1 rfl dX12_readRest_5 rfl ?_
  refine f_name (fun x2_2 hx_3 => ?_)
  replace h := h x2_2 hx_3
  refine f_istore_n C (lv2 := [(2, .int x2_2), (0, .ref (B + 101)), (1, .int x1)]) dX12_readRest_6 rfl (by decide) rfl rfl ?_
  refine f_iload_n C (j := 0) dX12_readRest_7 rfl rfl rfl ?_
  refine f_if_ne C (t := 29) dX12_readRest_8 (by decide) rfl (fun hq_4 => ?_) (fun hq_4 => ?_)
  · replace h := Eq.mp (if_neg hq_4) h
    refine f_iload_n C (j := 0) dX12_readRest_29 rfl rfl rfl ?_
    refine f_bipush C (v := 6) dX12_readRest_30 kb6 rfl ?_
    refine f_icmp_ne C (t := 53) dX12_readRest_32 (by decide) rfl (fun hq_5 => ?_) (fun hq_5 => ?_)
    · replace h := Eq.mp (if_neg hq_5) h
      refine f_iload_n C (j := 0) dX12_readRest_53 rfl rfl rfl ?_
      refine f_iconst C (v := 5) dX12_readRest_54 kc5 rfl ?_
      refine f_icmp_ne C (t := 66) dX12_readRest_55 (by decide) rfl (fun hq_6 => ?_) (fun hq_6 => ?_)
      · replace h := Eq.mp (if_neg hq_6) h
        refine f_iload_n C (j := 0) dX12_readRest_66 rfl rfl rfl ?_
        refine f_iconst C (v := 4) dX12_readRest_67 kc4 rfl ?_
        refine f_icmp_ge C (t := 86) dX12_readRest_68 (by decide) rfl (fun hq_7 => ?_) (fun hq_7 => ?_)
        · replace h := Eq.mp (if_pos hq_7) h
          exact f_vret C dX12_readRest_86 h
        · replace h := Eq.mp (if_neg hq_7) h
          refine f_aload_n C (j := 1) dX12_readRest_71 rfl rfl rfl ?_
          refine f_getc C tF_X12_35 rfl o101 cs101_20 (by decide) dX12_readRest_72 rfl ?_
          refine f_iload_n C (j := 2) dX12_readRest_75 rfl rfl rfl ?_
          refine f_iconst C (v := 1) dX12_readRest_76 kc1 rfl ?_
          refine f_iadd C dX12_readRest_77 rfl ?_
          refine f_aload_n C (j := 1) dX12_readRest_78 rfl rfl rfl ?_
          refine f_iconst C (v := 0) dX12_readRest_79 kc0 rfl ?_
          refine f_iconst C (v := 0) dX12_readRest_80 kc0 rfl ?_
          refine f_iconst C (v := (-1)) dX12_readRest_81 kcm1 rfl ?_
          refine f_callVi C (a := 101) (ci := 12) (As := fun B => [.int 0, .int 0, .int (-1)]) o101 rfl (c_X12_readTold  _ _ _ _ _ h) tM_X12_251 tI_X12_readTold tS_X12_readTold tN_X12 tC_X12_readTold 3 dd_X12_readTold rfl (by decide) (by decide) rfl (Nat.le_of_ble_eq_true rfl) dX12_readRest_82 rfl (fun r_9 σ_8 h => ?_)
          obtain ⟨hi_10, h⟩ := h
          refine f_iast C (j := tn (x1 + 1)) a106 hi_10 rfl dX12_readRest_85 rfl ?_
          exact f_vret C dX12_readRest_86 h
      · replace h := Eq.mp (if_pos hq_6) h
        refine f_aload_n C (j := 1) dX12_readRest_58 rfl rfl rfl ?_
        refine f_iload_n C (j := 2) dX12_readRest_59 rfl rfl rfl ?_
        refine f_callVv C (a := 101) (ci := 12) (As := fun B => [.int x1]) o101 rfl (c_X12_readTest  _ _ _ h) tM_X12_301 tI_X12_readTest tS_X12_readTest tN_X12 tC_X12_readTest 1 dd_X12_readTest rfl (by decide) (by decide) rfl (Nat.le_of_ble_eq_true rfl) dX12_readRest_60 rfl (fun σ_11 h => ?_)
        refine f_goto C (t := 86) dX12_readRest_63 (by decide) ?_
        exact f_vret C dX12_readRest_86 h
    · replace h := Eq.mp (if_pos hq_5) h
      refine f_aload_n C (j := 1) dX12_readRest_35 rfl rfl rfl ?_
      refine f_getc C tF_X12_35 rfl o101 cs101_20 (by decide) dX12_readRest_36 rfl ?_
      refine f_iload_n C (j := 2) dX12_readRest_39 rfl rfl rfl ?_
      refine f_iconst C (v := 1) dX12_readRest_40 kc1 rfl ?_
      refine f_iadd C dX12_readRest_41 rfl ?_
      refine f_aload_n C (j := 1) dX12_readRest_42 rfl rfl rfl ?_
      refine f_iconst C (v := 1) dX12_readRest_43 kc1 rfl ?_
      refine f_bipush C (v := 99) dX12_readRest_44 kb99 rfl ?_
      refine f_callVi C (a := 101) (ci := 12) (As := fun B => [.int 1, .int 99]) o101 rfl (c_X12_count  _ _ _ _ h) tM_X12_258 tI_X12_count tS_X12_count tN_X12 tC_X12_count 2 dd_X12_count rfl (by decide) (by decide) rfl (Nat.le_of_ble_eq_true rfl) dX12_readRest_46 rfl (fun r_14 σ_13 h => ?_)
      obtain ⟨hi_15, h⟩ := h
      refine f_iast C (j := tn (x1 + 1)) a106 hi_15 rfl dX12_readRest_49 rfl ?_
      refine f_goto C (t := 86) dX12_readRest_50 (by decide) ?_
      exact f_vret C dX12_readRest_86 h
  · replace h := Eq.mp (if_pos hq_4) h
    refine f_aload_n C (j := 1) dX12_readRest_11 rfl rfl rfl ?_
    refine f_getc C tF_X12_35 rfl o101 cs101_20 (by decide) dX12_readRest_12 rfl ?_
    refine f_iload_n C (j := 2) dX12_readRest_15 rfl rfl rfl ?_
    refine f_iconst C (v := 1) dX12_readRest_16 kc1 rfl ?_
    refine f_iadd C dX12_readRest_17 rfl ?_
    refine f_aload_n C (j := 1) dX12_readRest_18 rfl rfl rfl ?_
    refine f_iconst C (v := 1) dX12_readRest_19 kc1 rfl ?_
    refine f_bipush C (v := 9) dX12_readRest_20 kb9 rfl ?_
    refine f_callVi C (a := 101) (ci := 12) (As := fun B => [.int 1, .int 9]) o101 rfl (c_X12_count  _ _ _ _ h) tM_X12_258 tI_X12_count tS_X12_count tN_X12 tC_X12_count 2 dd_X12_count rfl (by decide) (by decide) rfl (Nat.le_of_ble_eq_true rfl) dX12_readRest_22 rfl (fun r_17 σ_16 h => ?_)
    obtain ⟨hi_18, h⟩ := h
    refine f_iast C (j := tn (x1 + 1)) a106 hi_18 rfl dX12_readRest_25 rfl ?_
    refine f_goto C (t := 86) dX12_readRest_26 (by decide) ?_
    exact f_vret C dX12_readRest_86 h
theorem c_X12_readRest (x1 : Int32) (σ : Sto) (P : Sto → Prop) (h : w_X12_readRest x1 σ P) : Ct yX12_readRest cX12_readRest 3 none 6 133 (fun B => [.ref (B + 101), .int x1]) σ (QFv P) := Ct.of (by decide) (fun _ => Nat.le_of_ble_eq_true rfl) (fun B E C => s_X12_readRest C x1 σ h)
def w_X12_readStep_191 (rec : Int32 → Sto → (Sto → Prop) → Prop) (x4 : Int32) (σ : Sto) (P : Sto → Prop) : Prop :=
  vp_in (x4 + 8) 2105 ∧ P (si σ 106 (tn (x4 + 8)) (gi σ 101 25))
theorem s_X12_readStep_191 {B : Nat} {E : Nat → List (Nat × Value) → List Value → Sto → Prop} (rec : Int32 → Sto → (Sto → Prop) → Prop) (n : Nat) (hrec : ∀ (x1 : Int32) (σ : Sto) (P : Sto → Prop), rec x1 σ P → Ct yX12_readStep cX12_readStep 5 none (7 + n) (155 + n * 24) (fun B => [.ref (B + 101), .int x1]) σ (QFv P)) {P : Sto → Prop} (C : Cy B E RX12 cX12_readStep 5 none (7 + (n + 1)) (155 + (n + 1) * 24) (Zm (QFv P))) (x4 : Int32) (σ : Sto) (h : w_X12_readStep_191 rec x4 σ P) : E 191 [(0, .ref (B + 101)), (4, .int x4)] [] σ := by
  unfold w_X12_readStep_191 at h
  refine f_aload_n C (j := 0) dX12_readStep_191 rfl rfl rfl ?_
  refine f_getc C tF_X12_35 rfl o101 cs101_20 (by decide) dX12_readStep_192 rfl ?_
  refine f_iload C (j := 1) dX12_readStep_195 rfl rfl ?_
  refine f_bipush C (v := 8) dX12_readStep_197 kb8 rfl ?_
  refine f_iadd C dX12_readStep_199 rfl ?_
  refine f_aload_n C (j := 0) dX12_readStep_200 rfl rfl rfl ?_
  refine f_geti C tF_X12_304 rfl o101 dX12_readStep_201 rfl ?_
  obtain ⟨hi_21, h⟩ := h
  refine f_iast C (j := tn (x4 + 8)) a106 hi_21 rfl dX12_readStep_204 rfl ?_
  exact f_vret C dX12_readStep_205 h
def w_X12_readStep_169 (rec : Int32 → Sto → (Sto → Prop) → Prop) (x3 : Int32) (x4 : Int32) (σ : Sto) (P : Sto → Prop) : Prop :=
  (if x3 = 0 then w_X12_readStep_191 rec x4 σ P else w_X12_isEnd σ (fun r_23 σ_22 => w_X12_must r_23 σ_22 (fun σ_24 => w_X12_isSign 59 σ_24 (fun r_27 σ_26 => w_X12_must r_27 σ_26 (fun σ_28 => w_X12_readStep_191 rec x4 σ_28 P)))))
theorem s_X12_readStep_169 {B : Nat} {E : Nat → List (Nat × Value) → List Value → Sto → Prop} (rec : Int32 → Sto → (Sto → Prop) → Prop) (n : Nat) (hrec : ∀ (x1 : Int32) (σ : Sto) (P : Sto → Prop), rec x1 σ P → Ct yX12_readStep cX12_readStep 5 none (7 + n) (155 + n * 24) (fun B => [.ref (B + 101), .int x1]) σ (QFv P)) {P : Sto → Prop} (C : Cy B E RX12 cX12_readStep 5 none (7 + (n + 1)) (155 + (n + 1) * 24) (Zm (QFv P))) (x3 : Int32) (x4 : Int32) (σ : Sto) (h : w_X12_readStep_169 rec x3 x4 σ P) : E 169 [(0, .ref (B + 101)), (3, .int x3), (4, .int x4)] [] σ := by
  unfold w_X12_readStep_169 at h
  refine f_iload_n C (j := 1) dX12_readStep_169 rfl rfl rfl ?_
  refine f_if_eq C (t := 191) dX12_readStep_170 (by decide) rfl (fun hq_20 => ?_) (fun hq_20 => ?_)
  · replace h := Eq.mp (if_pos hq_20) h
    refine f_lv C (lv2 := [(0, .ref (B + 101)), (4, .int x4)]) [0, 2] rfl ?_
    exact s_X12_readStep_191 (rec := rec) n hrec C _  _ h
  · replace h := Eq.mp (if_neg hq_20) h
    refine f_aload_n C (j := 0) dX12_readStep_173 rfl rfl rfl ?_
    refine f_aload_n C (j := 0) dX12_readStep_174 rfl rfl rfl ?_
    refine f_callVi C (a := 101) (ci := 12) (As := fun B => []) o101 rfl (c_X12_isEnd   _ _ h) tM_X12_203 tI_X12_isEnd tS_X12_isEnd tN_X12 tC_X12_isEnd 0 dd_X12_isEnd rfl (by omega) (by omega) rfl (Nat.le_of_ble_eq_true rfl) dX12_readStep_175 rfl (fun r_23 σ_22 h => ?_)
    refine f_callVv C (a := 101) (ci := 12) (As := fun B => [.int r_23]) o101 rfl (c_X12_must  _ _ _ h) tM_X12_244 tI_X12_must tS_X12_must tN_X12 tC_X12_must 1 dd_X12_must rfl (by omega) (by omega) rfl (Nat.le_of_ble_eq_true rfl) dX12_readStep_178 rfl (fun σ_24 h => ?_)
    refine f_aload_n C (j := 0) dX12_readStep_181 rfl rfl rfl ?_
    refine f_aload_n C (j := 0) dX12_readStep_182 rfl rfl rfl ?_
    refine f_bipush C (v := 59) dX12_readStep_183 kb59 rfl ?_
    refine f_callVi C (a := 101) (ci := 12) (As := fun B => [.int 59]) o101 rfl (c_X12_isSign  _ _ _ h) tM_X12_292 tI_X12_isSign tS_X12_isSign tN_X12 tC_X12_isSign 1 dd_X12_isSign rfl (by omega) (by omega) rfl (Nat.le_of_ble_eq_true rfl) dX12_readStep_185 rfl (fun r_27 σ_26 h => ?_)
    refine f_callVv C (a := 101) (ci := 12) (As := fun B => [.int r_27]) o101 rfl (c_X12_must  _ _ _ h) tM_X12_244 tI_X12_must tS_X12_must tN_X12 tC_X12_must 1 dd_X12_must rfl (by omega) (by omega) rfl (Nat.le_of_ble_eq_true rfl) dX12_readStep_188 rfl (fun σ_28 h => ?_)
    refine f_lv C (lv2 := [(0, .ref (B + 101)), (4, .int x4)]) [0, 2] rfl ?_
    exact s_X12_readStep_191 (rec := rec) n hrec C _  _ h
def w_X12_readStep_141 (rec : Int32 → Sto → (Sto → Prop) → Prop) (K141 : Sto → Prop) (x1 : Int32) (x3 : Int32) (x4 : Int32) (σ : Sto) (P : Sto → Prop) : Prop :=
  (if x3 = 0 then w_X12_readStep_169 rec x3 x4 σ P else (if (gi σ 101 12) = 0 then w_X12_isEnd σ (fun r_32 σ_31 => (if r_32 = 0 then rec (x1 + 1) σ_31 (fun σ_34 => K141 σ_34) else w_X12_readStep_169 rec x3 x4 σ_31 P)) else w_X12_readStep_169 rec x3 x4 σ P))
theorem s_X12_readStep_141 {B : Nat} {E : Nat → List (Nat × Value) → List Value → Sto → Prop} (rec : Int32 → Sto → (Sto → Prop) → Prop) (n : Nat) (hrec : ∀ (x1 : Int32) (σ : Sto) (P : Sto → Prop), rec x1 σ P → Ct yX12_readStep cX12_readStep 5 none (7 + n) (155 + n * 24) (fun B => [.ref (B + 101), .int x1]) σ (QFv P)) {P : Sto → Prop} (C : Cy B E RX12 cX12_readStep 5 none (7 + (n + 1)) (155 + (n + 1) * 24) (Zm (QFv P))) (x1 : Int32) (x3 : Int32) (x4 : Int32) (K141 : Sto → Prop) (hK141 : ∀ (σ : Sto), K141 (σ) → E 141 [(0, .ref (B + 101)), (1, .int x1), (3, .int x3), (4, .int x4)] [] σ) (σ : Sto) (h : w_X12_readStep_141 rec K141 x1 x3 x4 σ P) : E 141 [(0, .ref (B + 101)), (1, .int x1), (3, .int x3), (4, .int x4)] [] σ := by
  unfold w_X12_readStep_141 at h
  refine f_iload_n C (j := 2) dX12_readStep_141 rfl rfl rfl ?_
  refine f_if_eq C (t := 169) dX12_readStep_142 (by decide) rfl (fun hq_19 => ?_) (fun hq_19 => ?_)
  · replace h := Eq.mp (if_pos hq_19) h
    refine f_lv C (lv2 := [(0, .ref (B + 101)), (3, .int x3), (4, .int x4)]) [0, 2, 3] rfl ?_
    exact s_X12_readStep_169 (rec := rec) n hrec C _ _  _ h
  · replace h := Eq.mp (if_neg hq_19) h
    refine f_aload_n C (j := 0) dX12_readStep_145 rfl rfl rfl ?_
    refine f_geti C tF_X12_209 rfl o101 dX12_readStep_146 rfl ?_
    refine f_if_ne C (t := 169) dX12_readStep_149 (by decide) rfl (fun hq_30 => ?_) (fun hq_30 => ?_)
    · replace h := Eq.mp (if_neg hq_30) h
      refine f_lv C (lv2 := [(0, .ref (B + 101)), (3, .int x3), (4, .int x4)]) [0, 2, 3] rfl ?_
      exact s_X12_readStep_169 (rec := rec) n hrec C _ _  _ h
    · replace h := Eq.mp (if_pos hq_30) h
      refine f_aload_n C (j := 0) dX12_readStep_152 rfl rfl rfl ?_
      refine f_callVi C (a := 101) (ci := 12) (As := fun B => []) o101 rfl (c_X12_isEnd   _ _ h) tM_X12_203 tI_X12_isEnd tS_X12_isEnd tN_X12 tC_X12_isEnd 0 dd_X12_isEnd rfl (by omega) (by omega) rfl (Nat.le_of_ble_eq_true rfl) dX12_readStep_153 rfl (fun r_32 σ_31 h => ?_)
      refine f_if_ne C (t := 169) dX12_readStep_156 (by decide) rfl (fun hq_33 => ?_) (fun hq_33 => ?_)
      · replace h := Eq.mp (if_neg hq_33) h
        refine f_lv C (lv2 := [(0, .ref (B + 101)), (3, .int x3), (4, .int x4)]) [0, 2, 3] rfl ?_
        exact s_X12_readStep_169 (rec := rec) n hrec C _ _  _ h
      · replace h := Eq.mp (if_pos hq_33) h
        refine f_aload_n C (j := 0) dX12_readStep_159 rfl rfl rfl ?_
        refine f_iload_n C (j := 1) dX12_readStep_160 rfl rfl rfl ?_
        refine f_iconst C (v := 1) dX12_readStep_161 kc1 rfl ?_
        refine f_iadd C dX12_readStep_162 rfl ?_
        refine f_callVv C (a := 101) (ci := 12) (As := fun B => [.int (x1 + 1)]) o101 rfl (hrec _ _ _ h) tM_X12_310 tI_X12_readStep tS_X12_readStep tN_X12 tC_X12_readStep 1 dd_X12_readStep rfl (by omega) (by omega) rfl (Nat.le_of_ble_eq_true rfl) dX12_readStep_163 rfl (fun σ_34 h => ?_)
        refine f_goto C (t := 141) dX12_readStep_166 (by decide) ?_
        exact hK141  _ h
def w_X12_readStep_82 (rec : Int32 → Sto → (Sto → Prop) → Prop) (x1 : Int32) (x2 : Int32) (x3 : Int32) (σ : Sto) (P : Sto → Prop) : Prop :=
  (if (gi σ 101 12) ≤ 0 then ∀ x4_8 : Int32, x4_8 = 1828 + (9 * (gi σ 101 25)) → w_X12_advance (si σ 101 25 ((gi σ 101 25) + 1)) (fun σ_10 => vp_in x4_8 2105 ∧ w_X12_readRest x4_8 (si σ_10 106 (tn x4_8) x2) (fun σ_13 => w_X12_isSign 59 σ_13 (fun r_16 σ_15 => w_X12_must r_16 σ_15 (fun σ_17 => Lp (fun (K : Sto → Prop) s => w_X12_readStep_141 rec K x1 x3 x4_8 s P) σ_17)))) else P σ)
theorem s_X12_readStep_82 {B : Nat} {E : Nat → List (Nat × Value) → List Value → Sto → Prop} (rec : Int32 → Sto → (Sto → Prop) → Prop) (n : Nat) (hrec : ∀ (x1 : Int32) (σ : Sto) (P : Sto → Prop), rec x1 σ P → Ct yX12_readStep cX12_readStep 5 none (7 + n) (155 + n * 24) (fun B => [.ref (B + 101), .int x1]) σ (QFv P)) {P : Sto → Prop} (C : Cy B E RX12 cX12_readStep 5 none (7 + (n + 1)) (155 + (n + 1) * 24) (Zm (QFv P))) (x1 : Int32) (x2 : Int32) (x3 : Int32) (σ : Sto) (h : w_X12_readStep_82 rec x1 x2 x3 σ P) : E 82 [(0, .ref (B + 101)), (1, .int x1), (2, .int x2), (3, .int x3)] [] σ := by
  unfold w_X12_readStep_82 at h
  refine f_aload_n C (j := 0) dX12_readStep_82 rfl rfl rfl ?_
  refine f_geti C tF_X12_209 rfl o101 dX12_readStep_83 rfl ?_
  refine f_if_le C (t := 90) dX12_readStep_86 (by decide) rfl (fun hq_7 => ?_) (fun hq_7 => ?_)
  · replace h := Eq.mp (if_pos hq_7) h
    refine f_sipush C (v := 1828) dX12_readStep_90 ks1828 rfl ?_
    refine f_bipush C (v := 9) dX12_readStep_93 kb9 rfl ?_
    refine f_aload_n C (j := 0) dX12_readStep_95 rfl rfl rfl ?_
    refine f_geti C tF_X12_304 rfl o101 dX12_readStep_96 rfl ?_
    refine f_imul C dX12_readStep_99 rfl ?_
    refine f_iadd C dX12_readStep_100 rfl ?_
    refine f_name (fun x4_8 hx_9 => ?_)
    replace h := h x4_8 hx_9
    refine f_istore C (lv2 := [(4, .int x4_8), (0, .ref (B + 101)), (1, .int x1), (2, .int x2), (3, .int x3)]) dX12_readStep_101 (by decide) rfl rfl ?_
    refine f_aload_n C (j := 1) dX12_readStep_103 rfl rfl rfl ?_
    refine f_dup C dX12_readStep_104 rfl rfl ?_
    refine f_geti C tF_X12_304 rfl o101 dX12_readStep_105 rfl ?_
    refine f_iconst C (v := 1) dX12_readStep_108 kc1 rfl ?_
    refine f_iadd C dX12_readStep_109 rfl ?_
    refine f_puti C tF_X12_304 fm_12_25 rfl o101 dX12_readStep_110 rfl ?_
    refine f_aload_n C (j := 1) dX12_readStep_113 rfl rfl rfl ?_
    refine f_callVv C (a := 101) (ci := 12) (As := fun B => []) o101 rfl (c_X12_advance   _ _ h) tM_X12_219 tI_X12_advance tS_X12_advance tN_X12 tC_X12_advance 0 dd_X12_advance rfl (by omega) (by omega) rfl (Nat.le_of_ble_eq_true rfl) dX12_readStep_114 rfl (fun σ_10 h => ?_)
    refine f_aload_n C (j := 1) dX12_readStep_117 rfl rfl rfl ?_
    refine f_getc C tF_X12_35 rfl o101 cs101_20 (by decide) dX12_readStep_118 rfl ?_
    refine f_iload C (j := 0) dX12_readStep_121 rfl rfl ?_
    refine f_iload_n C (j := 3) dX12_readStep_123 rfl rfl rfl ?_
    obtain ⟨hi_12, h⟩ := h
    refine f_iast C (j := tn x4_8) a106 hi_12 rfl dX12_readStep_124 rfl ?_
    refine f_aload_n C (j := 1) dX12_readStep_125 rfl rfl rfl ?_
    refine f_iload C (j := 0) dX12_readStep_126 rfl rfl ?_
    refine f_callVv C (a := 101) (ci := 12) (As := fun B => [.int x4_8]) o101 rfl (c_X12_readRest  _ _ _ h) tM_X12_307 tI_X12_readRest tS_X12_readRest tN_X12 tC_X12_readRest 1 dd_X12_readRest rfl (by omega) (by omega) rfl (Nat.le_of_ble_eq_true rfl) dX12_readStep_128 rfl (fun σ_13 h => ?_)
    refine f_aload_n C (j := 1) dX12_readStep_131 rfl rfl rfl ?_
    refine f_aload_n C (j := 1) dX12_readStep_132 rfl rfl rfl ?_
    refine f_bipush C (v := 59) dX12_readStep_133 kb59 rfl ?_
    refine f_callVi C (a := 101) (ci := 12) (As := fun B => [.int 59]) o101 rfl (c_X12_isSign  _ _ _ h) tM_X12_292 tI_X12_isSign tS_X12_isSign tN_X12 tC_X12_isSign 1 dd_X12_isSign rfl (by omega) (by omega) rfl (Nat.le_of_ble_eq_true rfl) dX12_readStep_135 rfl (fun r_16 σ_15 h => ?_)
    refine f_callVv C (a := 101) (ci := 12) (As := fun B => [.int r_16]) o101 rfl (c_X12_must  _ _ _ h) tM_X12_244 tI_X12_must tS_X12_must tN_X12 tC_X12_must 1 dd_X12_must rfl (by omega) (by omega) rfl (Nat.le_of_ble_eq_true rfl) dX12_readStep_138 rfl (fun σ_17 h => ?_)
    refine f_lv C (lv2 := [(0, .ref (B + 101)), (1, .int x1), (3, .int x3), (4, .int x4_8)]) [1, 2, 4, 0] rfl ?_
    exact Lp_sound (fun s : Sto => E 141 [(0, .ref (B + 101)), (1, .int x1), (3, .int x3), (4, .int x4_8)] [] s) h (fun K s hK h => s_X12_readStep_141 (rec := rec) n hrec C x1 x3 x4_8 K (fun σ hk => hK σ hk) s h)
  · replace h := Eq.mp (if_neg hq_7) h
    exact f_vret C dX12_readStep_89 h
def w_X12_readStep_56 (rec : Int32 → Sto → (Sto → Prop) → Prop) (x1 : Int32) (x2 : Int32) (x3 : Int32) (σ : Sto) (P : Sto → Prop) : Prop :=
  (if (gi σ 101 12) = 0 then (if x3 = 0 then w_X12_readStep_82 rec x1 x2 x3 σ P else (if x1 = 3 then w_X12_fail 7 (gi σ 101 15) σ (fun σ_38 => w_X12_readStep_82 rec x1 x2 x3 σ_38 P) else w_X12_readStep_82 rec x1 x2 x3 σ P)) else w_X12_readStep_82 rec x1 x2 x3 σ P)
theorem s_X12_readStep_56 {B : Nat} {E : Nat → List (Nat × Value) → List Value → Sto → Prop} (rec : Int32 → Sto → (Sto → Prop) → Prop) (n : Nat) (hrec : ∀ (x1 : Int32) (σ : Sto) (P : Sto → Prop), rec x1 σ P → Ct yX12_readStep cX12_readStep 5 none (7 + n) (155 + n * 24) (fun B => [.ref (B + 101), .int x1]) σ (QFv P)) {P : Sto → Prop} (C : Cy B E RX12 cX12_readStep 5 none (7 + (n + 1)) (155 + (n + 1) * 24) (Zm (QFv P))) (x1 : Int32) (x2 : Int32) (x3 : Int32) (σ : Sto) (h : w_X12_readStep_56 rec x1 x2 x3 σ P) : E 56 [(0, .ref (B + 101)), (1, .int x1), (2, .int x2), (3, .int x3)] [] σ := by
  unfold w_X12_readStep_56 at h
  refine f_aload_n C (j := 0) dX12_readStep_56 rfl rfl rfl ?_
  refine f_geti C tF_X12_209 rfl o101 dX12_readStep_57 rfl ?_
  refine f_if_ne C (t := 82) dX12_readStep_60 (by decide) rfl (fun hq_6 => ?_) (fun hq_6 => ?_)
  · replace h := Eq.mp (if_neg hq_6) h
    exact s_X12_readStep_82 (rec := rec) n hrec C _ _ _  _ h
  · replace h := Eq.mp (if_pos hq_6) h
    refine f_iload_n C (j := 3) dX12_readStep_63 rfl rfl rfl ?_
    refine f_if_eq C (t := 82) dX12_readStep_64 (by decide) rfl (fun hq_36 => ?_) (fun hq_36 => ?_)
    · replace h := Eq.mp (if_pos hq_36) h
      exact s_X12_readStep_82 (rec := rec) n hrec C _ _ _  _ h
    · replace h := Eq.mp (if_neg hq_36) h
      refine f_iload_n C (j := 1) dX12_readStep_67 rfl rfl rfl ?_
      refine f_iconst C (v := 3) dX12_readStep_68 kc3 rfl ?_
      refine f_icmp_ne C (t := 82) dX12_readStep_69 (by decide) rfl (fun hq_37 => ?_) (fun hq_37 => ?_)
      · replace h := Eq.mp (if_neg hq_37) h
        exact s_X12_readStep_82 (rec := rec) n hrec C _ _ _  _ h
      · replace h := Eq.mp (if_pos hq_37) h
        refine f_aload_n C (j := 0) dX12_readStep_72 rfl rfl rfl ?_
        refine f_bipush C (v := 7) dX12_readStep_73 kb7 rfl ?_
        refine f_aload_n C (j := 0) dX12_readStep_75 rfl rfl rfl ?_
        refine f_geti C tF_X12_123 rfl o101 dX12_readStep_76 rfl ?_
        refine f_callVv C (a := 101) (ci := 12) (As := fun B => [.int 7, .int (gi σ 101 15)]) o101 rfl (c_X12_fail  _ _ _ _ h) tM_X12_215 tI_X12_fail tS_X12_fail tN_X12 tC_X12_fail 2 dd_X12_fail rfl (by omega) (by omega) rfl (Nat.le_of_ble_eq_true rfl) dX12_readStep_79 rfl (fun σ_38 h => ?_)
        exact s_X12_readStep_82 (rec := rec) n hrec C _ _ _  _ h
def w_X12_readStep_30 (rec : Int32 → Sto → (Sto → Prop) → Prop) (x1 : Int32) (x2 : Int32) (x3 : Int32) (σ : Sto) (P : Sto → Prop) : Prop :=
  (if (gi σ 101 12) = 0 then (if (gi σ 101 25) = 30 then w_X12_fail 6 (gi σ 101 15) σ (fun σ_41 => w_X12_readStep_56 rec x1 x2 x3 σ_41 P) else w_X12_readStep_56 rec x1 x2 x3 σ P) else w_X12_readStep_56 rec x1 x2 x3 σ P)
theorem s_X12_readStep_30 {B : Nat} {E : Nat → List (Nat × Value) → List Value → Sto → Prop} (rec : Int32 → Sto → (Sto → Prop) → Prop) (n : Nat) (hrec : ∀ (x1 : Int32) (σ : Sto) (P : Sto → Prop), rec x1 σ P → Ct yX12_readStep cX12_readStep 5 none (7 + n) (155 + n * 24) (fun B => [.ref (B + 101), .int x1]) σ (QFv P)) {P : Sto → Prop} (C : Cy B E RX12 cX12_readStep 5 none (7 + (n + 1)) (155 + (n + 1) * 24) (Zm (QFv P))) (x1 : Int32) (x2 : Int32) (x3 : Int32) (σ : Sto) (h : w_X12_readStep_30 rec x1 x2 x3 σ P) : E 30 [(0, .ref (B + 101)), (1, .int x1), (2, .int x2), (3, .int x3)] [] σ := by
  unfold w_X12_readStep_30 at h
  refine f_aload_n C (j := 0) dX12_readStep_30 rfl rfl rfl ?_
  refine f_geti C tF_X12_209 rfl o101 dX12_readStep_31 rfl ?_
  refine f_if_ne C (t := 56) dX12_readStep_34 (by decide) rfl (fun hq_5 => ?_) (fun hq_5 => ?_)
  · replace h := Eq.mp (if_neg hq_5) h
    exact s_X12_readStep_56 (rec := rec) n hrec C _ _ _  _ h
  · replace h := Eq.mp (if_pos hq_5) h
    refine f_aload_n C (j := 0) dX12_readStep_37 rfl rfl rfl ?_
    refine f_geti C tF_X12_304 rfl o101 dX12_readStep_38 rfl ?_
    refine f_bipush C (v := 30) dX12_readStep_41 kb30 rfl ?_
    refine f_icmp_ne C (t := 56) dX12_readStep_43 (by decide) rfl (fun hq_40 => ?_) (fun hq_40 => ?_)
    · replace h := Eq.mp (if_neg hq_40) h
      exact s_X12_readStep_56 (rec := rec) n hrec C _ _ _  _ h
    · replace h := Eq.mp (if_pos hq_40) h
      refine f_aload_n C (j := 0) dX12_readStep_46 rfl rfl rfl ?_
      refine f_bipush C (v := 6) dX12_readStep_47 kb6 rfl ?_
      refine f_aload_n C (j := 0) dX12_readStep_49 rfl rfl rfl ?_
      refine f_geti C tF_X12_123 rfl o101 dX12_readStep_50 rfl ?_
      refine f_callVv C (a := 101) (ci := 12) (As := fun B => [.int 6, .int (gi σ 101 15)]) o101 rfl (c_X12_fail  _ _ _ _ h) tM_X12_215 tI_X12_fail tS_X12_fail tN_X12 tC_X12_fail 2 dd_X12_fail rfl (by omega) (by omega) rfl (Nat.le_of_ble_eq_true rfl) dX12_readStep_53 rfl (fun σ_41 h => ?_)
      exact s_X12_readStep_56 (rec := rec) n hrec C _ _ _  _ h
def w_X12_readStep_21 (rec : Int32 → Sto → (Sto → Prop) → Prop) (x1 : Int32) (x2 : Int32) (z0 : Int32) (σ : Sto) (P : Sto → Prop) : Prop :=
  (if 0 ≤ x2 then w_X12_readStep_30 rec x1 x2 z0 σ P else w_X12_amiss σ (fun σ_43 => w_X12_readStep_30 rec x1 x2 z0 σ_43 P))
theorem s_X12_readStep_21 {B : Nat} {E : Nat → List (Nat × Value) → List Value → Sto → Prop} (rec : Int32 → Sto → (Sto → Prop) → Prop) (n : Nat) (hrec : ∀ (x1 : Int32) (σ : Sto) (P : Sto → Prop), rec x1 σ P → Ct yX12_readStep cX12_readStep 5 none (7 + n) (155 + n * 24) (fun B => [.ref (B + 101), .int x1]) σ (QFv P)) {P : Sto → Prop} (C : Cy B E RX12 cX12_readStep 5 none (7 + (n + 1)) (155 + (n + 1) * 24) (Zm (QFv P))) (x1 : Int32) (x2 : Int32) (z0 : Int32) (σ : Sto) (h : w_X12_readStep_21 rec x1 x2 z0 σ P) : E 21 [(0, .ref (B + 101)), (1, .int x1), (2, .int x2)] [.int z0] σ := by
  unfold w_X12_readStep_21 at h
  refine f_istore_n C (lv2 := [(3, .int z0), (0, .ref (B + 101)), (1, .int x1), (2, .int x2)]) dX12_readStep_21 rfl (by decide) rfl rfl ?_
  refine f_iload_n C (j := 3) dX12_readStep_22 rfl rfl rfl ?_
  refine f_if_ge C (t := 30) dX12_readStep_23 (by decide) rfl (fun hq_4 => ?_) (fun hq_4 => ?_)
  · replace h := Eq.mp (if_pos hq_4) h
    refine f_lv C (lv2 := [(0, .ref (B + 101)), (1, .int x1), (2, .int x2), (3, .int z0)]) [1, 2, 3, 0] rfl ?_
    exact s_X12_readStep_30 (rec := rec) n hrec C _ _ _  _ h
  · replace h := Eq.mp (if_neg hq_4) h
    refine f_aload_n C (j := 1) dX12_readStep_26 rfl rfl rfl ?_
    refine f_callVv C (a := 101) (ci := 12) (As := fun B => []) o101 rfl (c_X12_amiss   _ _ h) tM_X12_222 tI_X12_amiss tS_X12_amiss tN_X12 tC_X12_amiss 0 dd_X12_amiss rfl (by omega) (by omega) rfl (Nat.le_of_ble_eq_true rfl) dX12_readStep_27 rfl (fun σ_43 h => ?_)
    refine f_lv C (lv2 := [(0, .ref (B + 101)), (1, .int x1), (2, .int x2), (3, .int z0)]) [1, 2, 3, 0] rfl ?_
    exact s_X12_readStep_30 (rec := rec) n hrec C _ _ _  _ h
def w_X12_readStep_e (rec : Int32 → Sto → (Sto → Prop) → Prop) (x1 : Int32) (σ : Sto) (P : Sto → Prop) : Prop :=
  w_X12_stepWord σ (fun r_2 σ_1 => (if r_2 = 5 then w_X12_readStep_21 rec x1 r_2 1 σ_1 P else (if r_2 = 6 then w_X12_readStep_21 rec x1 r_2 1 σ_1 P else w_X12_readStep_21 rec x1 r_2 0 σ_1 P)))
theorem s_X12_readStep_e {B : Nat} {E : Nat → List (Nat × Value) → List Value → Sto → Prop} (rec : Int32 → Sto → (Sto → Prop) → Prop) (n : Nat) (hrec : ∀ (x1 : Int32) (σ : Sto) (P : Sto → Prop), rec x1 σ P → Ct yX12_readStep cX12_readStep 5 none (7 + n) (155 + n * 24) (fun B => [.ref (B + 101), .int x1]) σ (QFv P)) {P : Sto → Prop} (C : Cy B E RX12 cX12_readStep 5 none (7 + (n + 1)) (155 + (n + 1) * 24) (Zm (QFv P))) (x1 : Int32) (σ : Sto) (h : w_X12_readStep_e rec x1 σ P) : E 0 [(0, .ref (B + 101)), (1, .int x1)] [] σ := by
  unfold w_X12_readStep_e at h
  refine f_aload_n C (j := 0) dX12_readStep_0 rfl rfl rfl ?_
  refine f_callVi C (a := 101) (ci := 12) (As := fun B => []) o101 rfl (c_X12_stepWord   _ _ h) tM_X12_196 tI_X12_stepWord tS_X12_stepWord tN_X12 tC_X12_stepWord 0 dd_X12_stepWord rfl (by omega) (by omega) rfl (Nat.le_of_ble_eq_true rfl) dX12_readStep_1 rfl (fun r_2 σ_1 h => ?_)
  refine f_istore_n C (lv2 := [(2, .int r_2), (0, .ref (B + 101)), (1, .int x1)]) dX12_readStep_4 rfl (by decide) rfl rfl ?_
  refine f_iload_n C (j := 0) dX12_readStep_5 rfl rfl rfl ?_
  refine f_iconst C (v := 5) dX12_readStep_6 kc5 rfl ?_
  refine f_icmp_eq C (t := 16) dX12_readStep_7 (by decide) rfl (fun hq_3 => ?_) (fun hq_3 => ?_)
  · replace h := Eq.mp (if_pos hq_3) h
    refine f_iconst C (v := 1) dX12_readStep_16 kc1 rfl ?_
    refine f_goto C (t := 21) dX12_readStep_17 (by decide) ?_
    refine f_lv C (lv2 := [(0, .ref (B + 101)), (1, .int x1), (2, .int r_2)]) [1, 2, 0] rfl ?_
    exact s_X12_readStep_21 (rec := rec) n hrec C _ _ _  _ h
  · replace h := Eq.mp (if_neg hq_3) h
    refine f_iload_n C (j := 0) dX12_readStep_10 rfl rfl rfl ?_
    refine f_bipush C (v := 6) dX12_readStep_11 kb6 rfl ?_
    refine f_icmp_ne C (t := 20) dX12_readStep_13 (by decide) rfl (fun hq_45 => ?_) (fun hq_45 => ?_)
    · replace h := Eq.mp (if_neg hq_45) h
      refine f_iconst C (v := 0) dX12_readStep_20 kc0 rfl ?_
      refine f_lv C (lv2 := [(0, .ref (B + 101)), (1, .int x1), (2, .int r_2)]) [1, 2, 0] rfl ?_
      exact s_X12_readStep_21 (rec := rec) n hrec C _ _ _  _ h
    · replace h := Eq.mp (if_pos hq_45) h
      refine f_iconst C (v := 1) dX12_readStep_16 kc1 rfl ?_
      refine f_goto C (t := 21) dX12_readStep_17 (by decide) ?_
      refine f_lv C (lv2 := [(0, .ref (B + 101)), (1, .int x1), (2, .int r_2)]) [1, 2, 0] rfl ?_
      exact s_X12_readStep_21 (rec := rec) n hrec C _ _ _  _ h
def w_X12_readStep : Nat → Int32 → Sto → (Sto → Prop) → Prop
  | 0 => fun _ _ _ => False
  | n + 1 => fun x1 σ P => w_X12_readStep_e (w_X12_readStep n) x1 σ P
theorem c_X12_readStep (n : Nat) (x1 : Int32) (σ : Sto) (P : Sto → Prop) (h : w_X12_readStep n x1 σ P) : Ct yX12_readStep cX12_readStep 5 none (7 + n) (155 + n * 24) (fun B => [.ref (B + 101), .int x1]) σ (QFv P) := by
  induction n generalizing x1 σ P with
  | zero => exact h.elim
  | succ n ih => exact Ct.of (by decide) (fun _ => Nat.le_of_ble_eq_true rfl) (fun B E C => s_X12_readStep_e (rec := w_X12_readStep n) n ih C x1 σ h)
def w_X12_centuries_82 (K82 : Int32 × Sto → Prop) (x2 : Int32) (σ : Sto) (P : Int32 → Sto → Prop) : Prop :=
  (if (9 * (gi σ 101 25)) ≤ x2 then P (gi σ 101 25) σ else vp_in (1828 + x2) 2105 ∧ vp_in (144 + x2) 2105 ∧ ∀ x2_13 : Int32, x2_13 = x2 + 1 → K82 (x2_13, si σ 106 (tn (144 + x2)) (gi σ 106 (tn (1828 + x2)))))
theorem s_X12_centuries_82 {B : Nat} {E : Nat → List (Nat × Value) → List Value → Sto → Prop} {P : Int32 → Sto → Prop} (C : Cy B E RX12 cX12_centuries 3 (some .int) 24 563 (Zm (QFi P))) (x2 : Int32) (K82 : Int32 × Sto → Prop) (hK82 : ∀ (x2 : Int32) (σ : Sto), K82 (x2, σ) → E 82 [(0, .ref (B + 101)), (2, .int x2)] [] σ) (σ : Sto) (h : w_X12_centuries_82 K82 x2 σ P) : E 82 [(0, .ref (B + 101)), (2, .int x2)] [] σ := by
  unfold w_X12_centuries_82 at h
  refine f_iload_n C (j := 1) dX12_centuries_82 rfl rfl rfl ?_
  refine f_bipush C (v := 9) dX12_centuries_83 kb9 rfl ?_
  refine f_aload_n C (j := 0) dX12_centuries_85 rfl rfl rfl ?_
  refine f_geti C tF_X12_304 rfl o101 dX12_centuries_86 rfl ?_
  refine f_imul C dX12_centuries_89 rfl ?_
  refine f_icmp_ge C (t := 119) dX12_centuries_90 (by decide) rfl (fun hq_10 => ?_) (fun hq_10 => ?_)
  · replace h := Eq.mp (if_pos hq_10) h
    refine f_aload_n C (j := 0) dX12_centuries_119 rfl rfl rfl ?_
    refine f_geti C tF_X12_304 rfl o101 dX12_centuries_120 rfl ?_
    exact f_iret C dX12_centuries_123 h
  · replace h := Eq.mp (if_neg hq_10) h
    refine f_aload_n C (j := 0) dX12_centuries_93 rfl rfl rfl ?_
    refine f_getc C tF_X12_35 rfl o101 cs101_20 (by decide) dX12_centuries_94 rfl ?_
    refine f_sipush C (v := 144) dX12_centuries_97 ks144 rfl ?_
    refine f_iload_n C (j := 1) dX12_centuries_100 rfl rfl rfl ?_
    refine f_iadd C dX12_centuries_101 rfl ?_
    refine f_aload_n C (j := 0) dX12_centuries_102 rfl rfl rfl ?_
    refine f_getc C tF_X12_35 rfl o101 cs101_20 (by decide) dX12_centuries_103 rfl ?_
    refine f_sipush C (v := 1828) dX12_centuries_106 ks1828 rfl ?_
    refine f_iload_n C (j := 1) dX12_centuries_109 rfl rfl rfl ?_
    refine f_iadd C dX12_centuries_110 rfl ?_
    obtain ⟨hi_11, h⟩ := h
    refine f_iald C (j := tn (1828 + x2)) a106 hi_11 rfl dX12_centuries_111 rfl ?_
    obtain ⟨hi_12, h⟩ := h
    refine f_iast C (j := tn (144 + x2)) a106 hi_12 rfl dX12_centuries_112 rfl ?_
    obtain ⟨x2_13, hx_14⟩ : ∃ y : Int32, y = x2 + 1 := ⟨_, rfl⟩
    replace h := h x2_13 hx_14
    refine f_iinc C (j := 1) (v := x2_13) (lv2 := [(2, .int x2_13), (0, .ref (B + 101))]) dX12_centuries_113 rfl hx_14.symm (by decide) rfl rfl ?_
    refine f_goto C (t := 82) dX12_centuries_116 (by decide) ?_
    refine f_lv C (lv2 := [(0, .ref (B + 101)), (2, .int x2_13)]) [1, 0] rfl ?_
    exact hK82 _ _ h
def w_X12_centuries_50 (σ : Sto) (P : Int32 → Sto → Prop) : Prop :=
  w_X12_isWell σ (fun r_6 σ_5 => (if r_6 = 0 then P (-1) σ_5 else ∀ σ_8 : Sto, σ_8 = si σ_5 106 142 1 → Lp (fun (K : Int32 × Sto → Prop) s => w_X12_centuries_82 K s.1 s.2 P) (0, si σ_8 106 143 (gi σ_8 101 25))))
theorem s_X12_centuries_50 {B : Nat} {E : Nat → List (Nat × Value) → List Value → Sto → Prop} {P : Int32 → Sto → Prop} (C : Cy B E RX12 cX12_centuries 3 (some .int) 24 563 (Zm (QFi P))) (σ : Sto) (h : w_X12_centuries_50 σ P) : E 50 [(0, .ref (B + 101))] [] σ := by
  unfold w_X12_centuries_50 at h
  refine f_aload_n C (j := 0) dX12_centuries_50 rfl rfl rfl ?_
  refine f_callVi C (a := 101) (ci := 12) (As := fun B => []) o101 rfl (c_X12_isWell   _ _ h) tM_X12_295 tI_X12_isWell tS_X12_isWell tN_X12 tC_X12_isWell 0 dd_X12_isWell rfl (by decide) (by decide) rfl (Nat.le_of_ble_eq_true rfl) dX12_centuries_51 rfl (fun r_6 σ_5 h => ?_)
  refine f_if_ne C (t := 59) dX12_centuries_54 (by decide) rfl (fun hq_7 => ?_) (fun hq_7 => ?_)
  · replace h := Eq.mp (if_neg hq_7) h
    refine f_aload_n C (j := 0) dX12_centuries_59 rfl rfl rfl ?_
    refine f_getc C tF_X12_35 rfl o101 cs101_20 (by decide) dX12_centuries_60 rfl ?_
    refine f_sipush C (v := 142) dX12_centuries_63 ks142 rfl ?_
    refine f_iconst C (v := 1) dX12_centuries_66 kc1 rfl ?_
    refine f_iast C (j := 142) a106 (vp_lit (by decide)) rfl dX12_centuries_67 rfl ?_
    refine f_aload_n C (j := 0) dX12_centuries_68 rfl rfl rfl ?_
    refine f_getc C tF_X12_35 rfl o101 cs101_20 (by decide) dX12_centuries_69 rfl ?_
    refine f_sipush C (v := 143) dX12_centuries_72 ks143 rfl ?_
    refine f_aload_n C (j := 0) dX12_centuries_75 rfl rfl rfl ?_
    refine f_names (fun σ_8 hσ_9 => ?_)
    replace h := h σ_8 hσ_9
    refine f_geti C tF_X12_304 rfl o101 dX12_centuries_76 rfl ?_
    refine f_iast C (j := 143) a106 (vp_lit (by decide)) rfl dX12_centuries_79 rfl ?_
    refine f_iconst C (v := 0) dX12_centuries_80 kc0 rfl ?_
    refine f_istore_n C (lv2 := [(2, .int 0), (0, .ref (B + 101))]) dX12_centuries_81 rfl (by decide) rfl rfl ?_
    refine f_lv C (lv2 := [(0, .ref (B + 101)), (2, .int 0)]) [1, 0] rfl ?_
    exact Lp_sound (fun s : Int32 × Sto => E 82 [(0, .ref (B + 101)), (2, .int s.1)] [] s.2) h (fun K s hK h => s_X12_centuries_82 C s.1 K (fun x2 σ hk => hK (x2, σ) hk) s.2 h)
  · replace h := Eq.mp (if_pos hq_7) h
    refine f_iconst C (v := (-1)) dX12_centuries_57 kcm1 rfl ?_
    exact f_iret C dX12_centuries_58 h
def w_X12_centuries_28 (K28 : Sto → Prop) (σ : Sto) (P : Int32 → Sto → Prop) : Prop :=
  (if (gi σ 101 12) = 0 then (if (gi σ 101 14) = 0 then w_X12_centuries_50 σ P else w_X12_readStep 16 0 σ (fun σ_16 => K28 σ_16)) else w_X12_centuries_50 σ P)
theorem s_X12_centuries_28 {B : Nat} {E : Nat → List (Nat × Value) → List Value → Sto → Prop} {P : Int32 → Sto → Prop} (C : Cy B E RX12 cX12_centuries 3 (some .int) 24 563 (Zm (QFi P))) (K28 : Sto → Prop) (hK28 : ∀ (σ : Sto), K28 (σ) → E 28 [(0, .ref (B + 101))] [] σ) (σ : Sto) (h : w_X12_centuries_28 K28 σ P) : E 28 [(0, .ref (B + 101))] [] σ := by
  unfold w_X12_centuries_28 at h
  refine f_aload_n C (j := 0) dX12_centuries_28 rfl rfl rfl ?_
  refine f_geti C tF_X12_209 rfl o101 dX12_centuries_29 rfl ?_
  refine f_if_ne C (t := 50) dX12_centuries_32 (by decide) rfl (fun hq_4 => ?_) (fun hq_4 => ?_)
  · replace h := Eq.mp (if_neg hq_4) h
    exact s_X12_centuries_50 C  _ h
  · replace h := Eq.mp (if_pos hq_4) h
    refine f_aload_n C (j := 0) dX12_centuries_35 rfl rfl rfl ?_
    refine f_geti C tF_X12_129 rfl o101 dX12_centuries_36 rfl ?_
    refine f_if_eq C (t := 50) dX12_centuries_39 (by decide) rfl (fun hq_15 => ?_) (fun hq_15 => ?_)
    · replace h := Eq.mp (if_pos hq_15) h
      exact s_X12_centuries_50 C  _ h
    · replace h := Eq.mp (if_neg hq_15) h
      refine f_aload_n C (j := 0) dX12_centuries_42 rfl rfl rfl ?_
      refine f_iconst C (v := 0) dX12_centuries_43 kc0 rfl ?_
      refine f_callVv C (a := 101) (ci := 12) (As := fun B => [.int 0]) o101 rfl (c_X12_readStep 16 _ _ _ h) tM_X12_310 tI_X12_readStep tS_X12_readStep tN_X12 tC_X12_readStep 1 dd_X12_readStep rfl (by decide) (by decide) rfl (Nat.le_of_ble_eq_true rfl) dX12_centuries_44 rfl (fun σ_16 h => ?_)
      refine f_goto C (t := 28) dX12_centuries_47 (by decide) ?_
      exact hK28  _ h
def w_X12_centuries (x1 : Int32) (σ : Sto) (P : Int32 → Sto → Prop) : Prop :=
  w_X12_starts x1 300 (si (si σ 101 1 0) 101 0 0) (fun r_2 σ_1 => (if r_2 = 0 then P (-1) σ_1 else Lp (fun (K : Sto → Prop) s => w_X12_centuries_28 K  s P) (si σ_1 101 25 0)))
theorem s_X12_centuries {B : Nat} {E : Nat → List (Nat × Value) → List Value → Sto → Prop} {P : Int32 → Sto → Prop} (C : Cy B E RX12 cX12_centuries 3 (some .int) 24 563 (Zm (QFi P))) (x1 : Int32) (σ : Sto) (h : w_X12_centuries x1 σ P) : E 0 [(0, .ref (B + 101)), (1, .int x1)] [] σ := by
  unfold w_X12_centuries at h
  refine f_aload_n C (j := 0) dX12_centuries_0 rfl rfl rfl ?_
  refine f_iconst C (v := 0) dX12_centuries_1 kc0 rfl ?_
  refine f_puti C tF_X12_74 fm_12_1 rfl o101 dX12_centuries_2 rfl ?_
  refine f_aload_n C (j := 0) dX12_centuries_5 rfl rfl rfl ?_
  refine f_iconst C (v := 0) dX12_centuries_6 kc0 rfl ?_
  refine f_puti C tF_X12_77 fm_12_0 rfl o101 dX12_centuries_7 rfl ?_
  refine f_aload_n C (j := 0) dX12_centuries_10 rfl rfl rfl ?_
  refine f_iload_n C (j := 1) dX12_centuries_11 rfl rfl rfl ?_
  refine f_sipush C (v := 300) dX12_centuries_12 ks300 rfl ?_
  refine f_callVi C (a := 101) (ci := 12) (As := fun B => [.int x1, .int 300]) o101 rfl (c_X12_starts  _ _ _ _ h) tM_X12_268 tI_X12_starts tS_X12_starts tN_X12 tC_X12_starts 2 dd_X12_starts rfl (by decide) (by decide) rfl (Nat.le_of_ble_eq_true rfl) dX12_centuries_15 rfl (fun r_2 σ_1 h => ?_)
  refine f_if_ne C (t := 23) dX12_centuries_18 (by decide) rfl (fun hq_3 => ?_) (fun hq_3 => ?_)
  · replace h := Eq.mp (if_neg hq_3) h
    refine f_aload_n C (j := 0) dX12_centuries_23 rfl rfl rfl ?_
    refine f_iconst C (v := 0) dX12_centuries_24 kc0 rfl ?_
    refine f_puti C tF_X12_304 fm_12_25 rfl o101 dX12_centuries_25 rfl ?_
    refine f_lv C (lv2 := [(0, .ref (B + 101))]) [0] rfl ?_
    exact Lp_sound (fun s : Sto => E 28 [(0, .ref (B + 101))] [] s) h (fun K s hK h => s_X12_centuries_28 C  K (fun σ hk => hK σ hk) s h)
  · replace h := Eq.mp (if_pos hq_3) h
    refine f_iconst C (v := (-1)) dX12_centuries_21 kcm1 rfl ?_
    exact f_iret C dX12_centuries_22 h
theorem c_X12_centuries (x1 : Int32) (σ : Sto) (P : Int32 → Sto → Prop) (h : w_X12_centuries x1 σ P) : Ct yX12_centuries cX12_centuries 3 (some .int) 24 563 (fun B => [.ref (B + 101), .int x1]) σ (QFi P) := Ct.of (by decide) (fun _ => Nat.le_of_ble_eq_true rfl) (fun B E C => s_X12_centuries C x1 σ h)
def w_X12_isThingAt (x1 : Int32) (σ : Sto) (P : Int32 → Sto → Prop) : Prop :=
  w_X12_isIn x1.toInt64 0 (((gi σ 106 0) - 1).toInt64) σ (fun r_2 σ_1 => (r_2 = 0 ∨ r_2 = 1) ∧ P r_2 σ_1)
theorem s_X12_isThingAt {B : Nat} {E : Nat → List (Nat × Value) → List Value → Sto → Prop} {P : Int32 → Sto → Prop} (C : Cy B E RX12 cX12_isThingAt 2 (some .boolean) 1 25 (Zm (QFi P))) (x1 : Int32) (σ : Sto) (h : w_X12_isThingAt x1 σ P) : E 0 [(0, .ref (B + 101)), (1, .int x1)] [] σ := by
  unfold w_X12_isThingAt at h
  refine f_iload_n C (j := 1) dX12_isThingAt_0 rfl rfl rfl ?_
  refine f_i2l C dX12_isThingAt_1 rfl ?_
  refine f_lconst C (v := 0) dX12_isThingAt_2 (by decide) rfl ?_
  refine f_aload_n C (j := 0) dX12_isThingAt_3 rfl rfl rfl ?_
  refine f_getc C tF_X12_35 rfl o101 cs101_20 (by decide) dX12_isThingAt_4 rfl ?_
  refine f_iconst C (v := 0) dX12_isThingAt_7 kc0 rfl ?_
  refine f_iald C (j := 0) a106 (vp_lit (by decide)) rfl dX12_isThingAt_8 rfl ?_
  refine f_iconst C (v := 1) dX12_isThingAt_9 kc1 rfl ?_
  refine f_isub C dX12_isThingAt_10 rfl ?_
  refine f_i2l C dX12_isThingAt_11 rfl ?_
  refine f_callSi C (As := fun B => [.long x1.toInt64, .long 0, .long (((gi σ 106 0) - 1).toInt64)]) (c_X12_isIn  _ _ _ _ _ h) tM_X12_109 tT_X12_isIn tN_X12 tC_X12_isIn 3 dd_X12_isIn rfl (by decide) (by decide) rfl (Nat.le_of_ble_eq_true rfl) dX12_isThingAt_12 rfl (fun r_2 σ_1 h => ?_)
  obtain ⟨hb_3, h⟩ := h
  exact f_zret C hb_3 dX12_isThingAt_15 h
theorem c_X12_isThingAt (x1 : Int32) (σ : Sto) (P : Int32 → Sto → Prop) (h : w_X12_isThingAt x1 σ P) : Ct yX12_isThingAt cX12_isThingAt 2 (some .boolean) 1 25 (fun B => [.ref (B + 101), .int x1]) σ (QFi P) := Ct.of (by decide) (fun _ => Nat.le_of_ble_eq_true rfl) (fun B E C => s_X12_isThingAt C x1 σ h)
def w_X12_isWorkAt (x1 : Int32) (σ : Sto) (P : Int32 → Sto → Prop) : Prop :=
  w_X12_isIn x1.toInt64 0 (((gi σ 106 2) - 1).toInt64) σ (fun r_2 σ_1 => (r_2 = 0 ∨ r_2 = 1) ∧ P r_2 σ_1)
theorem s_X12_isWorkAt {B : Nat} {E : Nat → List (Nat × Value) → List Value → Sto → Prop} {P : Int32 → Sto → Prop} (C : Cy B E RX12 cX12_isWorkAt 2 (some .boolean) 1 25 (Zm (QFi P))) (x1 : Int32) (σ : Sto) (h : w_X12_isWorkAt x1 σ P) : E 0 [(0, .ref (B + 101)), (1, .int x1)] [] σ := by
  unfold w_X12_isWorkAt at h
  refine f_iload_n C (j := 1) dX12_isWorkAt_0 rfl rfl rfl ?_
  refine f_i2l C dX12_isWorkAt_1 rfl ?_
  refine f_lconst C (v := 0) dX12_isWorkAt_2 (by decide) rfl ?_
  refine f_aload_n C (j := 0) dX12_isWorkAt_3 rfl rfl rfl ?_
  refine f_getc C tF_X12_35 rfl o101 cs101_20 (by decide) dX12_isWorkAt_4 rfl ?_
  refine f_iconst C (v := 2) dX12_isWorkAt_7 kc2 rfl ?_
  refine f_iald C (j := 2) a106 (vp_lit (by decide)) rfl dX12_isWorkAt_8 rfl ?_
  refine f_iconst C (v := 1) dX12_isWorkAt_9 kc1 rfl ?_
  refine f_isub C dX12_isWorkAt_10 rfl ?_
  refine f_i2l C dX12_isWorkAt_11 rfl ?_
  refine f_callSi C (As := fun B => [.long x1.toInt64, .long 0, .long (((gi σ 106 2) - 1).toInt64)]) (c_X12_isIn  _ _ _ _ _ h) tM_X12_109 tT_X12_isIn tN_X12 tC_X12_isIn 3 dd_X12_isIn rfl (by decide) (by decide) rfl (Nat.le_of_ble_eq_true rfl) dX12_isWorkAt_12 rfl (fun r_2 σ_1 h => ?_)
  obtain ⟨hb_3, h⟩ := h
  exact f_zret C hb_3 dX12_isWorkAt_15 h
theorem c_X12_isWorkAt (x1 : Int32) (σ : Sto) (P : Int32 → Sto → Prop) (h : w_X12_isWorkAt x1 σ P) : Ct yX12_isWorkAt cX12_isWorkAt 2 (some .boolean) 1 25 (fun B => [.ref (B + 101), .int x1]) σ (QFi P) := Ct.of (by decide) (fun _ => Nat.le_of_ble_eq_true rfl) (fun B E C => s_X12_isWorkAt C x1 σ h)
def w_X12_isVoterAt (x1 : Int32) (σ : Sto) (P : Int32 → Sto → Prop) : Prop :=
  w_X12_isIn x1.toInt64 0 (((gi σ 106 3) - 1).toInt64) σ (fun r_2 σ_1 => (r_2 = 0 ∨ r_2 = 1) ∧ P r_2 σ_1)
theorem s_X12_isVoterAt {B : Nat} {E : Nat → List (Nat × Value) → List Value → Sto → Prop} {P : Int32 → Sto → Prop} (C : Cy B E RX12 cX12_isVoterAt 2 (some .boolean) 1 25 (Zm (QFi P))) (x1 : Int32) (σ : Sto) (h : w_X12_isVoterAt x1 σ P) : E 0 [(0, .ref (B + 101)), (1, .int x1)] [] σ := by
  unfold w_X12_isVoterAt at h
  refine f_iload_n C (j := 1) dX12_isVoterAt_0 rfl rfl rfl ?_
  refine f_i2l C dX12_isVoterAt_1 rfl ?_
  refine f_lconst C (v := 0) dX12_isVoterAt_2 (by decide) rfl ?_
  refine f_aload_n C (j := 0) dX12_isVoterAt_3 rfl rfl rfl ?_
  refine f_getc C tF_X12_35 rfl o101 cs101_20 (by decide) dX12_isVoterAt_4 rfl ?_
  refine f_iconst C (v := 3) dX12_isVoterAt_7 kc3 rfl ?_
  refine f_iald C (j := 3) a106 (vp_lit (by decide)) rfl dX12_isVoterAt_8 rfl ?_
  refine f_iconst C (v := 1) dX12_isVoterAt_9 kc1 rfl ?_
  refine f_isub C dX12_isVoterAt_10 rfl ?_
  refine f_i2l C dX12_isVoterAt_11 rfl ?_
  refine f_callSi C (As := fun B => [.long x1.toInt64, .long 0, .long (((gi σ 106 3) - 1).toInt64)]) (c_X12_isIn  _ _ _ _ _ h) tM_X12_109 tT_X12_isIn tN_X12 tC_X12_isIn 3 dd_X12_isIn rfl (by decide) (by decide) rfl (Nat.le_of_ble_eq_true rfl) dX12_isVoterAt_12 rfl (fun r_2 σ_1 h => ?_)
  obtain ⟨hb_3, h⟩ := h
  exact f_zret C hb_3 dX12_isVoterAt_15 h
theorem c_X12_isVoterAt (x1 : Int32) (σ : Sto) (P : Int32 → Sto → Prop) (h : w_X12_isVoterAt x1 σ P) : Ct yX12_isVoterAt cX12_isVoterAt 2 (some .boolean) 1 25 (fun B => [.ref (B + 101), .int x1]) σ (QFi P) := Ct.of (by decide) (fun _ => Nat.le_of_ble_eq_true rfl) (fun B E C => s_X12_isVoterAt C x1 σ h)
def w_X12_allThings (σ : Sto) (P : Int32 → Sto → Prop) : Prop :=
  P ((1 <<< ((gi σ 106 0) &&& 31)) - 1) σ
theorem s_X12_allThings {B : Nat} {E : Nat → List (Nat × Value) → List Value → Sto → Prop} {P : Int32 → Sto → Prop} (C : Cy B E RX12 cX12_allThings 1 (some .int) 0 0 (Zm (QFi P))) (σ : Sto) (h : w_X12_allThings σ P) : E 0 [(0, .ref (B + 101))] [] σ := by
  unfold w_X12_allThings at h
  refine f_iconst C (v := 1) dX12_allThings_0 kc1 rfl ?_
  refine f_aload_n C (j := 0) dX12_allThings_1 rfl rfl rfl ?_
  refine f_getc C tF_X12_35 rfl o101 cs101_20 (by decide) dX12_allThings_2 rfl ?_
  refine f_iconst C (v := 0) dX12_allThings_5 kc0 rfl ?_
  refine f_iald C (j := 0) a106 (vp_lit (by decide)) rfl dX12_allThings_6 rfl ?_
  refine f_ishl C dX12_allThings_7 rfl ?_
  refine f_iconst C (v := 1) dX12_allThings_8 kc1 rfl ?_
  refine f_isub C dX12_allThings_9 rfl ?_
  exact f_iret C dX12_allThings_10 h
theorem c_X12_allThings (σ : Sto) (P : Int32 → Sto → Prop) (h : w_X12_allThings σ P) : Ct yX12_allThings cX12_allThings 1 (some .int) 0 0 (fun B => [.ref (B + 101)]) σ (QFi P) := Ct.of (by decide) (fun _ => Nat.le_of_ble_eq_true rfl) (fun B E C => s_X12_allThings C σ h)
def w_X12_isSet (x1 : Int32) (σ : Sto) (P : Int32 → Sto → Prop) : Prop :=
  w_X12_allThings σ (fun r_2 σ_1 => w_X12_isIn x1.toInt64 0 r_2.toInt64 σ_1 (fun r_4 σ_3 => (r_4 = 0 ∨ r_4 = 1) ∧ P r_4 σ_3))
theorem s_X12_isSet {B : Nat} {E : Nat → List (Nat × Value) → List Value → Sto → Prop} {P : Int32 → Sto → Prop} (C : Cy B E RX12 cX12_isSet 2 (some .boolean) 1 25 (Zm (QFi P))) (x1 : Int32) (σ : Sto) (h : w_X12_isSet x1 σ P) : E 0 [(0, .ref (B + 101)), (1, .int x1)] [] σ := by
  unfold w_X12_isSet at h
  refine f_iload_n C (j := 1) dX12_isSet_0 rfl rfl rfl ?_
  refine f_i2l C dX12_isSet_1 rfl ?_
  refine f_lconst C (v := 0) dX12_isSet_2 (by decide) rfl ?_
  refine f_aload_n C (j := 0) dX12_isSet_3 rfl rfl rfl ?_
  refine f_callVi C (a := 101) (ci := 12) (As := fun B => []) o101 rfl (c_X12_allThings   _ _ h) tM_X12_313 tI_X12_allThings tS_X12_allThings tN_X12 tC_X12_allThings 0 dd_X12_allThings rfl (by decide) (by decide) rfl (Nat.le_of_ble_eq_true rfl) dX12_isSet_4 rfl (fun r_2 σ_1 h => ?_)
  refine f_i2l C dX12_isSet_7 rfl ?_
  refine f_callSi C (As := fun B => [.long x1.toInt64, .long 0, .long r_2.toInt64]) (c_X12_isIn  _ _ _ _ _ h) tM_X12_109 tT_X12_isIn tN_X12 tC_X12_isIn 3 dd_X12_isIn rfl (by decide) (by decide) rfl (Nat.le_of_ble_eq_true rfl) dX12_isSet_8 rfl (fun r_4 σ_3 h => ?_)
  obtain ⟨hb_5, h⟩ := h
  exact f_zret C hb_5 dX12_isSet_11 h
theorem c_X12_isSet (x1 : Int32) (σ : Sto) (P : Int32 → Sto → Prop) (h : w_X12_isSet x1 σ P) : Ct yX12_isSet cX12_isSet 2 (some .boolean) 1 25 (fun B => [.ref (B + 101), .int x1]) σ (QFi P) := Ct.of (by decide) (fun _ => Nat.le_of_ble_eq_true rfl) (fun B E C => s_X12_isSet C x1 σ h)
def w_X12_madeThings_4 (K4 : Int32 × Int32 × Sto → Prop) (x1 : Int32) (x2 : Int32) (σ : Sto) (P : Int32 → Sto → Prop) : Prop :=
  (if (gi σ 106 1) ≤ x2 then P x1 σ else vp_in (20 + x2) 2105 ∧ ∀ x1_3 : Int32, x1_3 = x1 ||| (1 <<< ((gi σ 106 (tn (20 + x2))) &&& 31)) → ∀ x2_5 : Int32, x2_5 = x2 + 1 → K4 (x1_3, x2_5, σ))
theorem s_X12_madeThings_4 {B : Nat} {E : Nat → List (Nat × Value) → List Value → Sto → Prop} {P : Int32 → Sto → Prop} (C : Cy B E RX12 cX12_madeThings 3 (some .int) 0 0 (Zm (QFi P))) (x1 : Int32) (x2 : Int32) (K4 : Int32 × Int32 × Sto → Prop) (hK4 : ∀ (x1 : Int32) (x2 : Int32) (σ : Sto), K4 (x1, x2, σ) → E 4 [(0, .ref (B + 101)), (1, .int x1), (2, .int x2)] [] σ) (σ : Sto) (h : w_X12_madeThings_4 K4 x1 x2 σ P) : E 4 [(0, .ref (B + 101)), (1, .int x1), (2, .int x2)] [] σ := by
  unfold w_X12_madeThings_4 at h
  refine f_iload_n C (j := 2) dX12_madeThings_4 rfl rfl rfl ?_
  refine f_aload_n C (j := 0) dX12_madeThings_5 rfl rfl rfl ?_
  refine f_getc C tF_X12_35 rfl o101 cs101_20 (by decide) dX12_madeThings_6 rfl ?_
  refine f_iconst C (v := 1) dX12_madeThings_9 kc1 rfl ?_
  refine f_iald C (j := 1) a106 (vp_lit (by decide)) rfl dX12_madeThings_10 rfl ?_
  refine f_icmp_ge C (t := 34) dX12_madeThings_11 (by decide) rfl (fun hq_1 => ?_) (fun hq_1 => ?_)
  · replace h := Eq.mp (if_pos hq_1) h
    refine f_iload_n C (j := 1) dX12_madeThings_34 rfl rfl rfl ?_
    exact f_iret C dX12_madeThings_35 h
  · replace h := Eq.mp (if_neg hq_1) h
    refine f_iload_n C (j := 1) dX12_madeThings_14 rfl rfl rfl ?_
    refine f_iconst C (v := 1) dX12_madeThings_15 kc1 rfl ?_
    refine f_aload_n C (j := 0) dX12_madeThings_16 rfl rfl rfl ?_
    refine f_getc C tF_X12_35 rfl o101 cs101_20 (by decide) dX12_madeThings_17 rfl ?_
    refine f_bipush C (v := 20) dX12_madeThings_20 kb20 rfl ?_
    refine f_iload_n C (j := 2) dX12_madeThings_22 rfl rfl rfl ?_
    refine f_iadd C dX12_madeThings_23 rfl ?_
    obtain ⟨hi_2, h⟩ := h
    refine f_iald C (j := tn (20 + x2)) a106 hi_2 rfl dX12_madeThings_24 rfl ?_
    refine f_ishl C dX12_madeThings_25 rfl ?_
    refine f_ior C dX12_madeThings_26 rfl ?_
    refine f_name (fun x1_3 hx_4 => ?_)
    replace h := h x1_3 hx_4
    refine f_istore_n C (lv2 := [(1, .int x1_3), (0, .ref (B + 101)), (2, .int x2)]) dX12_madeThings_27 rfl (by decide) rfl rfl ?_
    obtain ⟨x2_5, hx_6⟩ : ∃ y : Int32, y = x2 + 1 := ⟨_, rfl⟩
    replace h := h x2_5 hx_6
    refine f_iinc C (j := 2) (v := x2_5) (lv2 := [(2, .int x2_5), (1, .int x1_3), (0, .ref (B + 101))]) dX12_madeThings_28 rfl hx_6.symm (by decide) rfl rfl ?_
    refine f_goto C (t := 4) dX12_madeThings_31 (by decide) ?_
    refine f_lv C (lv2 := [(0, .ref (B + 101)), (1, .int x1_3), (2, .int x2_5)]) [2, 1, 0] rfl ?_
    exact hK4 _ _ _ h
def w_X12_madeThings (σ : Sto) (P : Int32 → Sto → Prop) : Prop :=
  Lp (fun (K : Int32 × Int32 × Sto → Prop) s => w_X12_madeThings_4 K s.1 s.2.1 s.2.2 P) (0, 0, σ)
theorem s_X12_madeThings {B : Nat} {E : Nat → List (Nat × Value) → List Value → Sto → Prop} {P : Int32 → Sto → Prop} (C : Cy B E RX12 cX12_madeThings 3 (some .int) 0 0 (Zm (QFi P))) (σ : Sto) (h : w_X12_madeThings σ P) : E 0 [(0, .ref (B + 101))] [] σ := by
  unfold w_X12_madeThings at h
  refine f_iconst C (v := 0) dX12_madeThings_0 kc0 rfl ?_
  refine f_istore_n C (lv2 := [(1, .int 0), (0, .ref (B + 101))]) dX12_madeThings_1 rfl (by decide) rfl rfl ?_
  refine f_iconst C (v := 0) dX12_madeThings_2 kc0 rfl ?_
  refine f_istore_n C (lv2 := [(2, .int 0), (1, .int 0), (0, .ref (B + 101))]) dX12_madeThings_3 rfl (by decide) rfl rfl ?_
  refine f_lv C (lv2 := [(0, .ref (B + 101)), (1, .int 0), (2, .int 0)]) [2, 1, 0] rfl ?_
  exact Lp_sound (fun s : Int32 × Int32 × Sto => E 4 [(0, .ref (B + 101)), (1, .int s.1), (2, .int s.2.1)] [] s.2.2) h (fun K s hK h => s_X12_madeThings_4 C s.1 s.2.1 K (fun x1 x2 σ hk => hK (x1, x2, σ) hk) s.2.2 h)
theorem c_X12_madeThings (σ : Sto) (P : Int32 → Sto → Prop) (h : w_X12_madeThings σ P) : Ct yX12_madeThings cX12_madeThings 3 (some .int) 0 0 (fun B => [.ref (B + 101)]) σ (QFi P) := Ct.of (by decide) (fun _ => Nat.le_of_ble_eq_true rfl) (fun B E C => s_X12_madeThings C σ h)
def w_X12_standingBy_90 (K19 : Int32 × Int32 × Sto → Prop) (K31 : Int32 × Int32 × Sto → Prop) (x1 : Int32) (x2 : Int32) (x3 : Int32) (x4 : Int32) (x5 : Int32) (z0 : Int32) (σ : Sto) (P : Int32 → Sto → Prop) : Prop :=
  (if z0 = 0 then ∀ x5_13 : Int32, x5_13 = x5 + 1 → K31 (x3, x5_13, σ) else vp_in (20 + x5) 2105 ∧ ∀ x3_16 : Int32, x3_16 = x3 ||| (1 <<< ((gi σ 106 (tn (20 + x5))) &&& 31)) → ∀ x5_18 : Int32, x5_18 = x5 + 1 → K31 (x3_16, x5_18, σ))
theorem s_X12_standingBy_90 {B : Nat} {E : Nat → List (Nat × Value) → List Value → Sto → Prop} {P : Int32 → Sto → Prop} (C : Cy B E RX12 cX12_standingBy 7 (some .int) 1 22 (Zm (QFi P))) (x1 : Int32) (x2 : Int32) (x3 : Int32) (x4 : Int32) (x5 : Int32) (z0 : Int32) (K19 : Int32 × Int32 × Sto → Prop) (K31 : Int32 × Int32 × Sto → Prop) (hK19 : ∀ (x3 : Int32) (x4 : Int32) (σ : Sto), K19 (x3, x4, σ) → E 19 [(0, .ref (B + 101)), (1, .int x1), (2, .int x2), (3, .int x3), (4, .int x4)] [] σ) (hK31 : ∀ (x3 : Int32) (x5 : Int32) (σ : Sto), K31 (x3, x5, σ) → E 31 [(0, .ref (B + 101)), (1, .int x1), (2, .int x2), (3, .int x3), (4, .int x4), (5, .int x5)] [] σ) (σ : Sto) (h : w_X12_standingBy_90 K19 K31 x1 x2 x3 x4 x5 z0 σ P) : E 90 [(0, .ref (B + 101)), (1, .int x1), (2, .int x2), (3, .int x3), (4, .int x4), (5, .int x5)] [.int z0] σ := by
  unfold w_X12_standingBy_90 at h
  refine f_istore C (lv2 := [(6, .int z0), (0, .ref (B + 101)), (1, .int x1), (2, .int x2), (3, .int x3), (4, .int x4), (5, .int x5)]) dX12_standingBy_90 (by decide) rfl rfl ?_
  refine f_iload C (j := 0) dX12_standingBy_92 rfl rfl ?_
  refine f_if_eq C (t := 112) dX12_standingBy_94 (by decide) rfl (fun hq_12 => ?_) (fun hq_12 => ?_)
  · replace h := Eq.mp (if_pos hq_12) h
    obtain ⟨x5_13, hx_14⟩ : ∃ y : Int32, y = x5 + 1 := ⟨_, rfl⟩
    replace h := h x5_13 hx_14
    refine f_iinc C (j := 6) (v := x5_13) (lv2 := [(5, .int x5_13), (6, .int z0), (0, .ref (B + 101)), (1, .int x1), (2, .int x2), (3, .int x3), (4, .int x4)]) dX12_standingBy_112 rfl hx_14.symm (by decide) rfl rfl ?_
    refine f_goto C (t := 31) dX12_standingBy_115 (by decide) ?_
    refine f_lv C (lv2 := [(0, .ref (B + 101)), (1, .int x1), (2, .int x2), (3, .int x3), (4, .int x4), (5, .int x5_13)]) [2, 3, 4, 5, 6, 0] rfl ?_
    exact hK31 _ _ _ h
  · replace h := Eq.mp (if_neg hq_12) h
    refine f_iload_n C (j := 4) dX12_standingBy_97 rfl rfl rfl ?_
    refine f_iconst C (v := 1) dX12_standingBy_98 kc1 rfl ?_
    refine f_aload_n C (j := 1) dX12_standingBy_99 rfl rfl rfl ?_
    refine f_getc C tF_X12_35 rfl o101 cs101_20 (by decide) dX12_standingBy_100 rfl ?_
    refine f_bipush C (v := 20) dX12_standingBy_103 kb20 rfl ?_
    refine f_iload C (j := 6) dX12_standingBy_105 rfl rfl ?_
    refine f_iadd C dX12_standingBy_107 rfl ?_
    obtain ⟨hi_15, h⟩ := h
    refine f_iald C (j := tn (20 + x5)) a106 hi_15 rfl dX12_standingBy_108 rfl ?_
    refine f_ishl C dX12_standingBy_109 rfl ?_
    refine f_ior C dX12_standingBy_110 rfl ?_
    refine f_name (fun x3_16 hx_17 => ?_)
    replace h := h x3_16 hx_17
    refine f_istore_n C (lv2 := [(3, .int x3_16), (6, .int z0), (0, .ref (B + 101)), (1, .int x1), (2, .int x2), (4, .int x4), (5, .int x5)]) dX12_standingBy_111 rfl (by decide) rfl rfl ?_
    obtain ⟨x5_18, hx_19⟩ : ∃ y : Int32, y = x5 + 1 := ⟨_, rfl⟩
    replace h := h x5_18 hx_19
    refine f_iinc C (j := 6) (v := x5_18) (lv2 := [(5, .int x5_18), (3, .int x3_16), (6, .int z0), (0, .ref (B + 101)), (1, .int x1), (2, .int x2), (4, .int x4)]) dX12_standingBy_112 rfl hx_19.symm (by decide) rfl rfl ?_
    refine f_goto C (t := 31) dX12_standingBy_115 (by decide) ?_
    refine f_lv C (lv2 := [(0, .ref (B + 101)), (1, .int x1), (2, .int x2), (3, .int x3_16), (4, .int x4), (5, .int x5_18)]) [3, 4, 5, 1, 6, 0] rfl ?_
    exact hK31 _ _ _ h
def w_X12_standingBy_31 (K19 : Int32 × Int32 × Sto → Prop) (K31 : Int32 × Int32 × Sto → Prop) (x1 : Int32) (x2 : Int32) (x3 : Int32) (x4 : Int32) (x5 : Int32) (σ : Sto) (P : Int32 → Sto → Prop) : Prop :=
  (if (gi σ 106 1) ≤ x5 then K19 (x3, x4, σ) else w_X12_has x2 x5 σ (fun r_10 σ_9 => (if r_10 = 0 then w_X12_standingBy_90 K19 K31 x1 x2 x3 x4 x5 0 σ_9 P else vp_in (36 + x5) 2105 ∧ (if ((gi σ_9 106 (tn (36 + x5))) &&& (~~~x3)) = 0 then vp_in (20 + x5) 2105 ∧ w_X12_has x1 (gi σ_9 106 (tn (20 + x5))) σ_9 (fun r_24 σ_23 => (if r_24 = 0 then w_X12_standingBy_90 K19 K31 x1 x2 x3 x4 x5 1 σ_23 P else w_X12_standingBy_90 K19 K31 x1 x2 x3 x4 x5 0 σ_23 P)) else w_X12_standingBy_90 K19 K31 x1 x2 x3 x4 x5 0 σ_9 P))))
theorem s_X12_standingBy_31 {B : Nat} {E : Nat → List (Nat × Value) → List Value → Sto → Prop} {P : Int32 → Sto → Prop} (C : Cy B E RX12 cX12_standingBy 7 (some .int) 1 22 (Zm (QFi P))) (x1 : Int32) (x2 : Int32) (x3 : Int32) (x4 : Int32) (x5 : Int32) (K19 : Int32 × Int32 × Sto → Prop) (K31 : Int32 × Int32 × Sto → Prop) (hK19 : ∀ (x3 : Int32) (x4 : Int32) (σ : Sto), K19 (x3, x4, σ) → E 19 [(0, .ref (B + 101)), (1, .int x1), (2, .int x2), (3, .int x3), (4, .int x4)] [] σ) (hK31 : ∀ (x3 : Int32) (x5 : Int32) (σ : Sto), K31 (x3, x5, σ) → E 31 [(0, .ref (B + 101)), (1, .int x1), (2, .int x2), (3, .int x3), (4, .int x4), (5, .int x5)] [] σ) (σ : Sto) (h : w_X12_standingBy_31 K19 K31 x1 x2 x3 x4 x5 σ P) : E 31 [(0, .ref (B + 101)), (1, .int x1), (2, .int x2), (3, .int x3), (4, .int x4), (5, .int x5)] [] σ := by
  unfold w_X12_standingBy_31 at h
  refine f_iload C (j := 5) dX12_standingBy_31 rfl rfl ?_
  refine f_aload_n C (j := 0) dX12_standingBy_33 rfl rfl rfl ?_
  refine f_getc C tF_X12_35 rfl o101 cs101_20 (by decide) dX12_standingBy_34 rfl ?_
  refine f_iconst C (v := 1) dX12_standingBy_37 kc1 rfl ?_
  refine f_iald C (j := 1) a106 (vp_lit (by decide)) rfl dX12_standingBy_38 rfl ?_
  refine f_icmp_ge C (t := 118) dX12_standingBy_39 (by decide) rfl (fun hq_8 => ?_) (fun hq_8 => ?_)
  · replace h := Eq.mp (if_pos hq_8) h
    refine f_goto C (t := 19) dX12_standingBy_118 (by decide) ?_
    refine f_lv C (lv2 := [(0, .ref (B + 101)), (1, .int x1), (2, .int x2), (3, .int x3), (4, .int x4)]) [0, 1, 2, 3, 4] rfl ?_
    exact hK19 _ _ _ h
  · replace h := Eq.mp (if_neg hq_8) h
    refine f_iload_n C (j := 2) dX12_standingBy_42 rfl rfl rfl ?_
    refine f_iload C (j := 5) dX12_standingBy_43 rfl rfl ?_
    refine f_callSi C (As := fun B => [.int x2, .int x5]) (c_X12_has  _ _ _ _ h) tM_X12_113 tT_X12_has tN_X12 tC_X12_has 2 dd_X12_has rfl (by decide) (by decide) rfl (Nat.le_of_ble_eq_true rfl) dX12_standingBy_45 rfl (fun r_10 σ_9 h => ?_)
    refine f_if_eq C (t := 89) dX12_standingBy_48 (by decide) rfl (fun hq_11 => ?_) (fun hq_11 => ?_)
    · replace h := Eq.mp (if_pos hq_11) h
      refine f_iconst C (v := 0) dX12_standingBy_89 kc0 rfl ?_
      exact s_X12_standingBy_90 C _ _ _ _ _ _  K19 K31 hK19 hK31 _ h
    · replace h := Eq.mp (if_neg hq_11) h
      refine f_aload_n C (j := 0) dX12_standingBy_51 rfl rfl rfl ?_
      refine f_getc C tF_X12_35 rfl o101 cs101_20 (by decide) dX12_standingBy_52 rfl ?_
      refine f_bipush C (v := 36) dX12_standingBy_55 kb36 rfl ?_
      refine f_iload C (j := 5) dX12_standingBy_57 rfl rfl ?_
      refine f_iadd C dX12_standingBy_59 rfl ?_
      obtain ⟨hi_20, h⟩ := h
      refine f_iald C (j := tn (36 + x5)) a106 hi_20 rfl dX12_standingBy_60 rfl ?_
      refine f_iload_n C (j := 3) dX12_standingBy_61 rfl rfl rfl ?_
      refine f_iconst C (v := (-1)) dX12_standingBy_62 kcm1 rfl ?_
      refine f_inot C dX12_standingBy_63 rfl ?_
      refine f_iand C dX12_standingBy_64 rfl ?_
      refine f_if_ne C (t := 89) dX12_standingBy_65 (by decide) rfl (fun hq_21 => ?_) (fun hq_21 => ?_)
      · replace h := Eq.mp (if_neg hq_21) h
        refine f_iconst C (v := 0) dX12_standingBy_89 kc0 rfl ?_
        exact s_X12_standingBy_90 C _ _ _ _ _ _  K19 K31 hK19 hK31 _ h
      · replace h := Eq.mp (if_pos hq_21) h
        refine f_iload_n C (j := 1) dX12_standingBy_68 rfl rfl rfl ?_
        refine f_aload_n C (j := 0) dX12_standingBy_69 rfl rfl rfl ?_
        refine f_getc C tF_X12_35 rfl o101 cs101_20 (by decide) dX12_standingBy_70 rfl ?_
        refine f_bipush C (v := 20) dX12_standingBy_73 kb20 rfl ?_
        refine f_iload C (j := 5) dX12_standingBy_75 rfl rfl ?_
        refine f_iadd C dX12_standingBy_77 rfl ?_
        obtain ⟨hi_22, h⟩ := h
        refine f_iald C (j := tn (20 + x5)) a106 hi_22 rfl dX12_standingBy_78 rfl ?_
        refine f_callSi C (As := fun B => [.int x1, .int (gi σ_9 106 (tn (20 + x5)))]) (c_X12_has  _ _ _ _ h) tM_X12_113 tT_X12_has tN_X12 tC_X12_has 2 dd_X12_has rfl (by decide) (by decide) rfl (Nat.le_of_ble_eq_true rfl) dX12_standingBy_79 rfl (fun r_24 σ_23 h => ?_)
        refine f_if_ne C (t := 89) dX12_standingBy_82 (by decide) rfl (fun hq_25 => ?_) (fun hq_25 => ?_)
        · replace h := Eq.mp (if_neg hq_25) h
          refine f_iconst C (v := 0) dX12_standingBy_89 kc0 rfl ?_
          exact s_X12_standingBy_90 C _ _ _ _ _ _  K19 K31 hK19 hK31 _ h
        · replace h := Eq.mp (if_pos hq_25) h
          refine f_iconst C (v := 1) dX12_standingBy_85 kc1 rfl ?_
          refine f_goto C (t := 90) dX12_standingBy_86 (by decide) ?_
          exact s_X12_standingBy_90 C _ _ _ _ _ _  K19 K31 hK19 hK31 _ h
def w_X12_standingBy_19 (K19 : Int32 × Int32 × Sto → Prop) (x1 : Int32) (x2 : Int32) (x3 : Int32) (x4 : Int32) (σ : Sto) (P : Int32 → Sto → Prop) : Prop :=
  (if x3 = x4 then P x3 σ else Lp (fun (K : Int32 × Int32 × Sto → Prop) s => w_X12_standingBy_31 K19 K x1 x2 s.1 x3 s.2.1 s.2.2 P) (x3, 0, σ))
theorem s_X12_standingBy_19 {B : Nat} {E : Nat → List (Nat × Value) → List Value → Sto → Prop} {P : Int32 → Sto → Prop} (C : Cy B E RX12 cX12_standingBy 7 (some .int) 1 22 (Zm (QFi P))) (x1 : Int32) (x2 : Int32) (x3 : Int32) (x4 : Int32) (K19 : Int32 × Int32 × Sto → Prop) (hK19 : ∀ (x3 : Int32) (x4 : Int32) (σ : Sto), K19 (x3, x4, σ) → E 19 [(0, .ref (B + 101)), (1, .int x1), (2, .int x2), (3, .int x3), (4, .int x4)] [] σ) (σ : Sto) (h : w_X12_standingBy_19 K19 x1 x2 x3 x4 σ P) : E 19 [(0, .ref (B + 101)), (1, .int x1), (2, .int x2), (3, .int x3), (4, .int x4)] [] σ := by
  unfold w_X12_standingBy_19 at h
  refine f_iload_n C (j := 3) dX12_standingBy_19 rfl rfl rfl ?_
  refine f_iload C (j := 4) dX12_standingBy_20 rfl rfl ?_
  refine f_icmp_eq C (t := 121) dX12_standingBy_22 (by decide) rfl (fun hq_7 => ?_) (fun hq_7 => ?_)
  · replace h := Eq.mp (if_pos hq_7) h
    refine f_iload_n C (j := 3) dX12_standingBy_121 rfl rfl rfl ?_
    exact f_iret C dX12_standingBy_122 h
  · replace h := Eq.mp (if_neg hq_7) h
    refine f_iload_n C (j := 3) dX12_standingBy_25 rfl rfl rfl ?_
    refine f_istore C (lv2 := [(4, .int x3), (0, .ref (B + 101)), (1, .int x1), (2, .int x2), (3, .int x3)]) dX12_standingBy_26 (by decide) rfl rfl ?_
    refine f_iconst C (v := 0) dX12_standingBy_28 kc0 rfl ?_
    refine f_istore C (lv2 := [(5, .int 0), (4, .int x3), (0, .ref (B + 101)), (1, .int x1), (2, .int x2), (3, .int x3)]) dX12_standingBy_29 (by decide) rfl rfl ?_
    refine f_lv C (lv2 := [(0, .ref (B + 101)), (1, .int x1), (2, .int x2), (3, .int x3), (4, .int x3), (5, .int 0)]) [2, 3, 4, 5, 1, 0] rfl ?_
    exact Lp_sound (fun s : Int32 × Int32 × Sto => E 31 [(0, .ref (B + 101)), (1, .int x1), (2, .int x2), (3, .int s.1), (4, .int x3), (5, .int s.2.1)] [] s.2.2) h (fun K s hK h => s_X12_standingBy_31 C x1 x2 s.1 x3 s.2.1 K19 K hK19 (fun x3 x5 σ hk => hK (x3, x5, σ) hk) s.2.2 h)
def w_X12_standingBy (x1 : Int32) (x2 : Int32) (σ : Sto) (P : Int32 → Sto → Prop) : Prop :=
  w_X12_allThings σ (fun r_2 σ_1 => w_X12_madeThings σ_1 (fun r_4 σ_3 => ∀ x3_5 : Int32, x3_5 = (r_2 &&& (~~~r_4)) &&& (~~~x1) → Lp (fun (K : Int32 × Int32 × Sto → Prop) s => w_X12_standingBy_19 K x1 x2 s.1 s.2.1 s.2.2 P) (x3_5, (-1), σ_3)))
theorem s_X12_standingBy {B : Nat} {E : Nat → List (Nat × Value) → List Value → Sto → Prop} {P : Int32 → Sto → Prop} (C : Cy B E RX12 cX12_standingBy 7 (some .int) 1 22 (Zm (QFi P))) (x1 : Int32) (x2 : Int32) (σ : Sto) (h : w_X12_standingBy x1 x2 σ P) : E 0 [(0, .ref (B + 101)), (1, .int x1), (2, .int x2)] [] σ := by
  unfold w_X12_standingBy at h
  refine f_aload_n C (j := 0) dX12_standingBy_0 rfl rfl rfl ?_
  refine f_callVi C (a := 101) (ci := 12) (As := fun B => []) o101 rfl (c_X12_allThings   _ _ h) tM_X12_313 tI_X12_allThings tS_X12_allThings tN_X12 tC_X12_allThings 0 dd_X12_allThings rfl (by decide) (by decide) rfl (Nat.le_of_ble_eq_true rfl) dX12_standingBy_1 rfl (fun r_2 σ_1 h => ?_)
  refine f_aload_n C (j := 0) dX12_standingBy_4 rfl rfl rfl ?_
  refine f_callVi C (a := 101) (ci := 12) (As := fun B => []) o101 rfl (c_X12_madeThings   _ _ h) tM_X12_316 tI_X12_madeThings tS_X12_madeThings tN_X12 tC_X12_madeThings 0 dd_X12_madeThings rfl (by decide) (by decide) rfl (Nat.le_of_ble_eq_true rfl) dX12_standingBy_5 rfl (fun r_4 σ_3 h => ?_)
  refine f_iconst C (v := (-1)) dX12_standingBy_8 kcm1 rfl ?_
  refine f_inot C dX12_standingBy_9 rfl ?_
  refine f_iand C dX12_standingBy_10 rfl ?_
  refine f_iload_n C (j := 1) dX12_standingBy_11 rfl rfl rfl ?_
  refine f_iconst C (v := (-1)) dX12_standingBy_12 kcm1 rfl ?_
  refine f_inot C dX12_standingBy_13 rfl ?_
  refine f_iand C dX12_standingBy_14 rfl ?_
  refine f_name (fun x3_5 hx_6 => ?_)
  replace h := h x3_5 hx_6
  refine f_istore_n C (lv2 := [(3, .int x3_5), (0, .ref (B + 101)), (1, .int x1), (2, .int x2)]) dX12_standingBy_15 rfl (by decide) rfl rfl ?_
  refine f_iconst C (v := (-1)) dX12_standingBy_16 kcm1 rfl ?_
  refine f_istore C (lv2 := [(4, .int (-1)), (3, .int x3_5), (0, .ref (B + 101)), (1, .int x1), (2, .int x2)]) dX12_standingBy_17 (by decide) rfl rfl ?_
  refine f_lv C (lv2 := [(0, .ref (B + 101)), (1, .int x1), (2, .int x2), (3, .int x3_5), (4, .int (-1))]) [2, 3, 4, 1, 0] rfl ?_
  exact Lp_sound (fun s : Int32 × Int32 × Sto => E 19 [(0, .ref (B + 101)), (1, .int x1), (2, .int x2), (3, .int s.1), (4, .int s.2.1)] [] s.2.2) h (fun K s hK h => s_X12_standingBy_19 C x1 x2 s.1 s.2.1 K (fun x3 x4 σ hk => hK (x3, x4, σ) hk) s.2.2 h)
theorem c_X12_standingBy (x1 : Int32) (x2 : Int32) (σ : Sto) (P : Int32 → Sto → Prop) (h : w_X12_standingBy x1 x2 σ P) : Ct yX12_standingBy cX12_standingBy 7 (some .int) 1 22 (fun B => [.ref (B + 101), .int x1, .int x2]) σ (QFi P) := Ct.of (by decide) (fun _ => Nat.le_of_ble_eq_true rfl) (fun B E C => s_X12_standingBy C x1 x2 σ h)
def w_X12_standing (x1 : Int32) (σ : Sto) (P : Int32 → Sto → Prop) : Prop :=
  w_X12_standingBy x1 (-1) σ (fun r_2 σ_1 => P r_2 σ_1)
theorem s_X12_standing {B : Nat} {E : Nat → List (Nat × Value) → List Value → Sto → Prop} {P : Int32 → Sto → Prop} (C : Cy B E RX12 cX12_standing 2 (some .int) 2 48 (Zm (QFi P))) (x1 : Int32) (σ : Sto) (h : w_X12_standing x1 σ P) : E 0 [(0, .ref (B + 101)), (1, .int x1)] [] σ := by
  unfold w_X12_standing at h
  refine f_aload_n C (j := 0) dX12_standing_0 rfl rfl rfl ?_
  refine f_iload_n C (j := 1) dX12_standing_1 rfl rfl rfl ?_
  refine f_iconst C (v := (-1)) dX12_standing_2 kcm1 rfl ?_
  refine f_callVi C (a := 101) (ci := 12) (As := fun B => [.int x1, .int (-1)]) o101 rfl (c_X12_standingBy  _ _ _ _ h) tM_X12_319 tI_X12_standingBy tS_X12_standingBy tN_X12 tC_X12_standingBy 2 dd_X12_standingBy rfl (by decide) (by decide) rfl (Nat.le_of_ble_eq_true rfl) dX12_standing_3 rfl (fun r_2 σ_1 h => ?_)
  exact f_iret C dX12_standing_6 h
theorem c_X12_standing (x1 : Int32) (σ : Sto) (P : Int32 → Sto → Prop) (h : w_X12_standing x1 σ P) : Ct yX12_standing cX12_standing 2 (some .int) 2 48 (fun B => [.ref (B + 101), .int x1]) σ (QFi P) := Ct.of (by decide) (fun _ => Nat.le_of_ble_eq_true rfl) (fun B E C => s_X12_standing C x1 σ h)
def w_X12_now (σ : Sto) (P : Int32 → Sto → Prop) : Prop :=
  w_X12_standing (gi σ 106 6) σ (fun r_2 σ_1 => P r_2 σ_1)
theorem s_X12_now {B : Nat} {E : Nat → List (Nat × Value) → List Value → Sto → Prop} {P : Int32 → Sto → Prop} (C : Cy B E RX12 cX12_now 1 (some .int) 3 69 (Zm (QFi P))) (σ : Sto) (h : w_X12_now σ P) : E 0 [(0, .ref (B + 101))] [] σ := by
  unfold w_X12_now at h
  refine f_aload_n C (j := 0) dX12_now_0 rfl rfl rfl ?_
  refine f_aload_n C (j := 0) dX12_now_1 rfl rfl rfl ?_
  refine f_getc C tF_X12_35 rfl o101 cs101_20 (by decide) dX12_now_2 rfl ?_
  refine f_bipush C (v := 6) dX12_now_5 kb6 rfl ?_
  refine f_iald C (j := 6) a106 (vp_lit (by decide)) rfl dX12_now_7 rfl ?_
  refine f_callVi C (a := 101) (ci := 12) (As := fun B => [.int (gi σ 106 6)]) o101 rfl (c_X12_standing  _ _ _ h) tM_X12_322 tI_X12_standing tS_X12_standing tN_X12 tC_X12_standing 1 dd_X12_standing rfl (by decide) (by decide) rfl (Nat.le_of_ble_eq_true rfl) dX12_now_8 rfl (fun r_2 σ_1 h => ?_)
  exact f_iret C dX12_now_11 h
theorem c_X12_now (σ : Sto) (P : Int32 → Sto → Prop) (h : w_X12_now σ P) : Ct yX12_now cX12_now 1 (some .int) 3 69 (fun B => [.ref (B + 101)]) σ (QFi P) := Ct.of (by decide) (fun _ => Nat.le_of_ble_eq_true rfl) (fun B E C => s_X12_now C σ h)
def w_X12_doneBy_4 (K4 : Int32 × Int32 × Sto → Prop) (x1 : Int32) (x2 : Int32) (x3 : Int32) (σ : Sto) (P : Int32 → Sto → Prop) : Prop :=
  (if (gi σ 106 2) ≤ x3 then P x2 σ else vp_in (52 + x3) 2105 ∧ (if ((gi σ 106 (tn (52 + x3))) &&& (~~~x1)) = 0 then ∀ x2_8 : Int32, x2_8 = x2 ||| (1 <<< (x3 &&& 31)) → ∀ x3_10 : Int32, x3_10 = x3 + 1 → K4 (x2_8, x3_10, σ) else ∀ x2_4 : Int32, x2_4 = x2 ||| 0 → ∀ x3_6 : Int32, x3_6 = x3 + 1 → K4 (x2_4, x3_6, σ)))
theorem s_X12_doneBy_4 {B : Nat} {E : Nat → List (Nat × Value) → List Value → Sto → Prop} {P : Int32 → Sto → Prop} (C : Cy B E RX12 cX12_doneBy 4 (some .int) 0 0 (Zm (QFi P))) (x1 : Int32) (x2 : Int32) (x3 : Int32) (K4 : Int32 × Int32 × Sto → Prop) (hK4 : ∀ (x2 : Int32) (x3 : Int32) (σ : Sto), K4 (x2, x3, σ) → E 4 [(0, .ref (B + 101)), (1, .int x1), (2, .int x2), (3, .int x3)] [] σ) (σ : Sto) (h : w_X12_doneBy_4 K4 x1 x2 x3 σ P) : E 4 [(0, .ref (B + 101)), (1, .int x1), (2, .int x2), (3, .int x3)] [] σ := by
  unfold w_X12_doneBy_4 at h
  refine f_iload_n C (j := 3) dX12_doneBy_4 rfl rfl rfl ?_
  refine f_aload_n C (j := 0) dX12_doneBy_5 rfl rfl rfl ?_
  refine f_getc C tF_X12_35 rfl o101 cs101_20 (by decide) dX12_doneBy_6 rfl ?_
  refine f_iconst C (v := 2) dX12_doneBy_9 kc2 rfl ?_
  refine f_iald C (j := 2) a106 (vp_lit (by decide)) rfl dX12_doneBy_10 rfl ?_
  refine f_icmp_ge C (t := 46) dX12_doneBy_11 (by decide) rfl (fun hq_1 => ?_) (fun hq_1 => ?_)
  · replace h := Eq.mp (if_pos hq_1) h
    refine f_iload_n C (j := 2) dX12_doneBy_46 rfl rfl rfl ?_
    exact f_iret C dX12_doneBy_47 h
  · replace h := Eq.mp (if_neg hq_1) h
    refine f_iload_n C (j := 2) dX12_doneBy_14 rfl rfl rfl ?_
    refine f_aload_n C (j := 0) dX12_doneBy_15 rfl rfl rfl ?_
    refine f_getc C tF_X12_35 rfl o101 cs101_20 (by decide) dX12_doneBy_16 rfl ?_
    refine f_bipush C (v := 52) dX12_doneBy_19 kb52 rfl ?_
    refine f_iload_n C (j := 3) dX12_doneBy_21 rfl rfl rfl ?_
    refine f_iadd C dX12_doneBy_22 rfl ?_
    obtain ⟨hi_2, h⟩ := h
    refine f_iald C (j := tn (52 + x3)) a106 hi_2 rfl dX12_doneBy_23 rfl ?_
    refine f_iload_n C (j := 1) dX12_doneBy_24 rfl rfl rfl ?_
    refine f_iconst C (v := (-1)) dX12_doneBy_25 kcm1 rfl ?_
    refine f_inot C dX12_doneBy_26 rfl ?_
    refine f_iand C dX12_doneBy_27 rfl ?_
    refine f_if_ne C (t := 37) dX12_doneBy_28 (by decide) rfl (fun hq_3 => ?_) (fun hq_3 => ?_)
    · replace h := Eq.mp (if_neg hq_3) h
      refine f_iconst C (v := 0) dX12_doneBy_37 kc0 rfl ?_
      refine f_ior C dX12_doneBy_38 rfl ?_
      refine f_name (fun x2_4 hx_5 => ?_)
      replace h := h x2_4 hx_5
      refine f_istore_n C (lv2 := [(2, .int x2_4), (0, .ref (B + 101)), (1, .int x1), (3, .int x3)]) dX12_doneBy_39 rfl (by decide) rfl rfl ?_
      obtain ⟨x3_6, hx_7⟩ : ∃ y : Int32, y = x3 + 1 := ⟨_, rfl⟩
      replace h := h x3_6 hx_7
      refine f_iinc C (j := 3) (v := x3_6) (lv2 := [(3, .int x3_6), (2, .int x2_4), (0, .ref (B + 101)), (1, .int x1)]) dX12_doneBy_40 rfl hx_7.symm (by decide) rfl rfl ?_
      refine f_goto C (t := 4) dX12_doneBy_43 (by decide) ?_
      refine f_lv C (lv2 := [(0, .ref (B + 101)), (1, .int x1), (2, .int x2_4), (3, .int x3_6)]) [2, 3, 1, 0] rfl ?_
      exact hK4 _ _ _ h
    · replace h := Eq.mp (if_pos hq_3) h
      refine f_iconst C (v := 1) dX12_doneBy_31 kc1 rfl ?_
      refine f_iload_n C (j := 3) dX12_doneBy_32 rfl rfl rfl ?_
      refine f_ishl C dX12_doneBy_33 rfl ?_
      refine f_goto C (t := 38) dX12_doneBy_34 (by decide) ?_
      refine f_ior C dX12_doneBy_38 rfl ?_
      refine f_name (fun x2_8 hx_9 => ?_)
      replace h := h x2_8 hx_9
      refine f_istore_n C (lv2 := [(2, .int x2_8), (0, .ref (B + 101)), (1, .int x1), (3, .int x3)]) dX12_doneBy_39 rfl (by decide) rfl rfl ?_
      obtain ⟨x3_10, hx_11⟩ : ∃ y : Int32, y = x3 + 1 := ⟨_, rfl⟩
      replace h := h x3_10 hx_11
      refine f_iinc C (j := 3) (v := x3_10) (lv2 := [(3, .int x3_10), (2, .int x2_8), (0, .ref (B + 101)), (1, .int x1)]) dX12_doneBy_40 rfl hx_11.symm (by decide) rfl rfl ?_
      refine f_goto C (t := 4) dX12_doneBy_43 (by decide) ?_
      refine f_lv C (lv2 := [(0, .ref (B + 101)), (1, .int x1), (2, .int x2_8), (3, .int x3_10)]) [2, 3, 1, 0] rfl ?_
      exact hK4 _ _ _ h
def w_X12_doneBy (x1 : Int32) (σ : Sto) (P : Int32 → Sto → Prop) : Prop :=
  Lp (fun (K : Int32 × Int32 × Sto → Prop) s => w_X12_doneBy_4 K x1 s.1 s.2.1 s.2.2 P) (0, 0, σ)
theorem s_X12_doneBy {B : Nat} {E : Nat → List (Nat × Value) → List Value → Sto → Prop} {P : Int32 → Sto → Prop} (C : Cy B E RX12 cX12_doneBy 4 (some .int) 0 0 (Zm (QFi P))) (x1 : Int32) (σ : Sto) (h : w_X12_doneBy x1 σ P) : E 0 [(0, .ref (B + 101)), (1, .int x1)] [] σ := by
  unfold w_X12_doneBy at h
  refine f_iconst C (v := 0) dX12_doneBy_0 kc0 rfl ?_
  refine f_istore_n C (lv2 := [(2, .int 0), (0, .ref (B + 101)), (1, .int x1)]) dX12_doneBy_1 rfl (by decide) rfl rfl ?_
  refine f_iconst C (v := 0) dX12_doneBy_2 kc0 rfl ?_
  refine f_istore_n C (lv2 := [(3, .int 0), (2, .int 0), (0, .ref (B + 101)), (1, .int x1)]) dX12_doneBy_3 rfl (by decide) rfl rfl ?_
  refine f_lv C (lv2 := [(0, .ref (B + 101)), (1, .int x1), (2, .int 0), (3, .int 0)]) [2, 3, 1, 0] rfl ?_
  exact Lp_sound (fun s : Int32 × Int32 × Sto => E 4 [(0, .ref (B + 101)), (1, .int x1), (2, .int s.1), (3, .int s.2.1)] [] s.2.2) h (fun K s hK h => s_X12_doneBy_4 C x1 s.1 s.2.1 K (fun x2 x3 σ hk => hK (x2, x3, σ) hk) s.2.2 h)
theorem c_X12_doneBy (x1 : Int32) (σ : Sto) (P : Int32 → Sto → Prop) (h : w_X12_doneBy x1 σ P) : Ct yX12_doneBy cX12_doneBy 4 (some .int) 0 0 (fun B => [.ref (B + 101), .int x1]) σ (QFi P) := Ct.of (by decide) (fun _ => Nat.le_of_ble_eq_true rfl) (fun B E C => s_X12_doneBy C x1 σ h)
def w_X12_worthOf_4 (K4 : Int32 × Int32 × Sto → Prop) (x1 : Int32) (x2 : Int32) (x3 : Int32) (σ : Sto) (P : Int32 → Sto → Prop) : Prop :=
  (if (gi σ 106 0) ≤ x3 then P x2 σ else w_X12_has x1 x3 σ (fun r_3 σ_2 => (if r_3 = 0 then ∀ x2_5 : Int32, x2_5 = x2 + 0 → ∀ x3_7 : Int32, x3_7 = x3 + 1 → K4 (x2_5, x3_7, σ_2) else vp_in (8 + x3) 2105 ∧ ∀ x2_10 : Int32, x2_10 = x2 + (gi σ_2 106 (tn (8 + x3))) → ∀ x3_12 : Int32, x3_12 = x3 + 1 → K4 (x2_10, x3_12, σ_2))))
theorem s_X12_worthOf_4 {B : Nat} {E : Nat → List (Nat × Value) → List Value → Sto → Prop} {P : Int32 → Sto → Prop} (C : Cy B E RX12 cX12_worthOf 4 (some .int) 1 21 (Zm (QFi P))) (x1 : Int32) (x2 : Int32) (x3 : Int32) (K4 : Int32 × Int32 × Sto → Prop) (hK4 : ∀ (x2 : Int32) (x3 : Int32) (σ : Sto), K4 (x2, x3, σ) → E 4 [(0, .ref (B + 101)), (1, .int x1), (2, .int x2), (3, .int x3)] [] σ) (σ : Sto) (h : w_X12_worthOf_4 K4 x1 x2 x3 σ P) : E 4 [(0, .ref (B + 101)), (1, .int x1), (2, .int x2), (3, .int x3)] [] σ := by
  unfold w_X12_worthOf_4 at h
  refine f_iload_n C (j := 3) dX12_worthOf_4 rfl rfl rfl ?_
  refine f_aload_n C (j := 0) dX12_worthOf_5 rfl rfl rfl ?_
  refine f_getc C tF_X12_35 rfl o101 cs101_20 (by decide) dX12_worthOf_6 rfl ?_
  refine f_iconst C (v := 0) dX12_worthOf_9 kc0 rfl ?_
  refine f_iald C (j := 0) a106 (vp_lit (by decide)) rfl dX12_worthOf_10 rfl ?_
  refine f_icmp_ge C (t := 44) dX12_worthOf_11 (by decide) rfl (fun hq_1 => ?_) (fun hq_1 => ?_)
  · replace h := Eq.mp (if_pos hq_1) h
    refine f_iload_n C (j := 2) dX12_worthOf_44 rfl rfl rfl ?_
    exact f_iret C dX12_worthOf_45 h
  · replace h := Eq.mp (if_neg hq_1) h
    refine f_iload_n C (j := 2) dX12_worthOf_14 rfl rfl rfl ?_
    refine f_iload_n C (j := 1) dX12_worthOf_15 rfl rfl rfl ?_
    refine f_iload_n C (j := 3) dX12_worthOf_16 rfl rfl rfl ?_
    refine f_callSi C (As := fun B => [.int x1, .int x3]) (c_X12_has  _ _ _ _ h) tM_X12_113 tT_X12_has tN_X12 tC_X12_has 2 dd_X12_has rfl (by decide) (by decide) rfl (Nat.le_of_ble_eq_true rfl) dX12_worthOf_17 rfl (fun r_3 σ_2 h => ?_)
    refine f_if_eq C (t := 35) dX12_worthOf_20 (by decide) rfl (fun hq_4 => ?_) (fun hq_4 => ?_)
    · replace h := Eq.mp (if_pos hq_4) h
      refine f_iconst C (v := 0) dX12_worthOf_35 kc0 rfl ?_
      refine f_iadd C dX12_worthOf_36 rfl ?_
      refine f_name (fun x2_5 hx_6 => ?_)
      replace h := h x2_5 hx_6
      refine f_istore_n C (lv2 := [(2, .int x2_5), (0, .ref (B + 101)), (1, .int x1), (3, .int x3)]) dX12_worthOf_37 rfl (by decide) rfl rfl ?_
      obtain ⟨x3_7, hx_8⟩ : ∃ y : Int32, y = x3 + 1 := ⟨_, rfl⟩
      replace h := h x3_7 hx_8
      refine f_iinc C (j := 3) (v := x3_7) (lv2 := [(3, .int x3_7), (2, .int x2_5), (0, .ref (B + 101)), (1, .int x1)]) dX12_worthOf_38 rfl hx_8.symm (by decide) rfl rfl ?_
      refine f_goto C (t := 4) dX12_worthOf_41 (by decide) ?_
      refine f_lv C (lv2 := [(0, .ref (B + 101)), (1, .int x1), (2, .int x2_5), (3, .int x3_7)]) [2, 3, 1, 0] rfl ?_
      exact hK4 _ _ _ h
    · replace h := Eq.mp (if_neg hq_4) h
      refine f_aload_n C (j := 0) dX12_worthOf_23 rfl rfl rfl ?_
      refine f_getc C tF_X12_35 rfl o101 cs101_20 (by decide) dX12_worthOf_24 rfl ?_
      refine f_bipush C (v := 8) dX12_worthOf_27 kb8 rfl ?_
      refine f_iload_n C (j := 3) dX12_worthOf_29 rfl rfl rfl ?_
      refine f_iadd C dX12_worthOf_30 rfl ?_
      obtain ⟨hi_9, h⟩ := h
      refine f_iald C (j := tn (8 + x3)) a106 hi_9 rfl dX12_worthOf_31 rfl ?_
      refine f_goto C (t := 36) dX12_worthOf_32 (by decide) ?_
      refine f_iadd C dX12_worthOf_36 rfl ?_
      refine f_name (fun x2_10 hx_11 => ?_)
      replace h := h x2_10 hx_11
      refine f_istore_n C (lv2 := [(2, .int x2_10), (0, .ref (B + 101)), (1, .int x1), (3, .int x3)]) dX12_worthOf_37 rfl (by decide) rfl rfl ?_
      obtain ⟨x3_12, hx_13⟩ : ∃ y : Int32, y = x3 + 1 := ⟨_, rfl⟩
      replace h := h x3_12 hx_13
      refine f_iinc C (j := 3) (v := x3_12) (lv2 := [(3, .int x3_12), (2, .int x2_10), (0, .ref (B + 101)), (1, .int x1)]) dX12_worthOf_38 rfl hx_13.symm (by decide) rfl rfl ?_
      refine f_goto C (t := 4) dX12_worthOf_41 (by decide) ?_
      refine f_lv C (lv2 := [(0, .ref (B + 101)), (1, .int x1), (2, .int x2_10), (3, .int x3_12)]) [2, 3, 1, 0] rfl ?_
      exact hK4 _ _ _ h
def w_X12_worthOf (x1 : Int32) (σ : Sto) (P : Int32 → Sto → Prop) : Prop :=
  Lp (fun (K : Int32 × Int32 × Sto → Prop) s => w_X12_worthOf_4 K x1 s.1 s.2.1 s.2.2 P) (0, 0, σ)
theorem s_X12_worthOf {B : Nat} {E : Nat → List (Nat × Value) → List Value → Sto → Prop} {P : Int32 → Sto → Prop} (C : Cy B E RX12 cX12_worthOf 4 (some .int) 1 21 (Zm (QFi P))) (x1 : Int32) (σ : Sto) (h : w_X12_worthOf x1 σ P) : E 0 [(0, .ref (B + 101)), (1, .int x1)] [] σ := by
  unfold w_X12_worthOf at h
  refine f_iconst C (v := 0) dX12_worthOf_0 kc0 rfl ?_
  refine f_istore_n C (lv2 := [(2, .int 0), (0, .ref (B + 101)), (1, .int x1)]) dX12_worthOf_1 rfl (by decide) rfl rfl ?_
  refine f_iconst C (v := 0) dX12_worthOf_2 kc0 rfl ?_
  refine f_istore_n C (lv2 := [(3, .int 0), (2, .int 0), (0, .ref (B + 101)), (1, .int x1)]) dX12_worthOf_3 rfl (by decide) rfl rfl ?_
  refine f_lv C (lv2 := [(0, .ref (B + 101)), (1, .int x1), (2, .int 0), (3, .int 0)]) [2, 3, 1, 0] rfl ?_
  exact Lp_sound (fun s : Int32 × Int32 × Sto => E 4 [(0, .ref (B + 101)), (1, .int x1), (2, .int s.1), (3, .int s.2.1)] [] s.2.2) h (fun K s hK h => s_X12_worthOf_4 C x1 s.1 s.2.1 K (fun x2 x3 σ hk => hK (x2, x3, σ) hk) s.2.2 h)
theorem c_X12_worthOf (x1 : Int32) (σ : Sto) (P : Int32 → Sto → Prop) (h : w_X12_worthOf x1 σ P) : Ct yX12_worthOf cX12_worthOf 4 (some .int) 1 21 (fun B => [.ref (B + 101), .int x1]) σ (QFi P) := Ct.of (by decide) (fun _ => Nat.le_of_ble_eq_true rfl) (fun B E C => s_X12_worthOf C x1 σ h)
def w_X12_many (x1 : Int32) (σ : Sto) (P : Int32 → Sto → Prop) : Prop :=
  w_X12_isIn x1.toInt64 0 11 (si (si σ 101 1 0) 101 0 0) (fun r_2 σ_1 => (if r_2 = 0 then w_X12_refuse 5 σ_1 (fun r_20 σ_19 => P r_20 σ_19) else (if 6 ≤ x1 then w_X12_now σ_1 (fun r_6 σ_5 => (if x1 = 6 then P r_6 σ_5 else (if x1 = 7 then P (gi σ_5 106 6) σ_5 else (if x1 = 8 then w_X12_allThings σ_5 (fun r_17 σ_16 => P ((r_17 &&& (~~~r_6)) &&& (~~~(gi σ_16 106 6))) σ_16) else (if x1 = 9 then P (gi σ_5 106 7) σ_5 else (if x1 = 10 then w_X12_doneBy r_6 σ_5 (fun r_15 σ_14 => P r_15 σ_14) else w_X12_worthOf r_6 σ_5 (fun r_13 σ_12 => P r_13 σ_12))))))) else vp_in x1 2105 ∧ P (gi σ_1 106 (tn x1)) σ_1)))
theorem s_X12_many {B : Nat} {E : Nat → List (Nat × Value) → List Value → Sto → Prop} {P : Int32 → Sto → Prop} (C : Cy B E RX12 cX12_many 3 (some .int) 4 89 (Zm (QFi P))) (x1 : Int32) (σ : Sto) (h : w_X12_many x1 σ P) : E 0 [(0, .ref (B + 101)), (1, .int x1)] [] σ := by
  unfold w_X12_many at h
  refine f_aload_n C (j := 0) dX12_many_0 rfl rfl rfl ?_
  refine f_iconst C (v := 0) dX12_many_1 kc0 rfl ?_
  refine f_puti C tF_X12_74 fm_12_1 rfl o101 dX12_many_2 rfl ?_
  refine f_aload_n C (j := 0) dX12_many_5 rfl rfl rfl ?_
  refine f_iconst C (v := 0) dX12_many_6 kc0 rfl ?_
  refine f_puti C tF_X12_77 fm_12_0 rfl o101 dX12_many_7 rfl ?_
  refine f_iload_n C (j := 1) dX12_many_10 rfl rfl rfl ?_
  refine f_i2l C dX12_many_11 rfl ?_
  refine f_lconst C (v := 0) dX12_many_12 (by decide) rfl ?_
  refine f_ldc2_w C tL_X12_325 dX12_many_13 rfl ?_
  refine f_callSi C (As := fun B => [.long x1.toInt64, .long 0, .long 11]) (c_X12_isIn  _ _ _ _ _ h) tM_X12_109 tT_X12_isIn tN_X12 tC_X12_isIn 3 dd_X12_isIn rfl (by decide) (by decide) rfl (Nat.le_of_ble_eq_true rfl) dX12_many_16 rfl (fun r_2 σ_1 h => ?_)
  refine f_if_ne C (t := 28) dX12_many_19 (by decide) rfl (fun hq_3 => ?_) (fun hq_3 => ?_)
  · replace h := Eq.mp (if_neg hq_3) h
    refine f_iload_n C (j := 1) dX12_many_28 rfl rfl rfl ?_
    refine f_bipush C (v := 6) dX12_many_29 kb6 rfl ?_
    refine f_icmp_ge C (t := 41) dX12_many_31 (by decide) rfl (fun hq_4 => ?_) (fun hq_4 => ?_)
    · replace h := Eq.mp (if_pos hq_4) h
      refine f_aload_n C (j := 0) dX12_many_41 rfl rfl rfl ?_
      refine f_callVi C (a := 101) (ci := 12) (As := fun B => []) o101 rfl (c_X12_now   _ _ h) tM_X12_330 tI_X12_now tS_X12_now tN_X12 tC_X12_now 0 dd_X12_now rfl (by decide) (by decide) rfl (Nat.le_of_ble_eq_true rfl) dX12_many_42 rfl (fun r_6 σ_5 h => ?_)
      refine f_istore_n C (lv2 := [(2, .int r_6), (0, .ref (B + 101)), (1, .int x1)]) dX12_many_45 rfl (by decide) rfl rfl ?_
      refine f_iload_n C (j := 2) dX12_many_46 rfl rfl rfl ?_
      refine f_bipush C (v := 6) dX12_many_47 kb6 rfl ?_
      refine f_icmp_ne C (t := 54) dX12_many_49 (by decide) rfl (fun hq_7 => ?_) (fun hq_7 => ?_)
      · replace h := Eq.mp (if_neg hq_7) h
        refine f_iload_n C (j := 2) dX12_many_54 rfl rfl rfl ?_
        refine f_bipush C (v := 7) dX12_many_55 kb7 rfl ?_
        refine f_icmp_ne C (t := 68) dX12_many_57 (by decide) rfl (fun hq_8 => ?_) (fun hq_8 => ?_)
        · replace h := Eq.mp (if_neg hq_8) h
          refine f_iload_n C (j := 2) dX12_many_68 rfl rfl rfl ?_
          refine f_bipush C (v := 8) dX12_many_69 kb8 rfl ?_
          refine f_icmp_ne C (t := 93) dX12_many_71 (by decide) rfl (fun hq_9 => ?_) (fun hq_9 => ?_)
          · replace h := Eq.mp (if_neg hq_9) h
            refine f_iload_n C (j := 2) dX12_many_93 rfl rfl rfl ?_
            refine f_bipush C (v := 9) dX12_many_94 kb9 rfl ?_
            refine f_icmp_ne C (t := 109) dX12_many_96 (by decide) rfl (fun hq_10 => ?_) (fun hq_10 => ?_)
            · replace h := Eq.mp (if_neg hq_10) h
              refine f_iload_n C (j := 2) dX12_many_109 rfl rfl rfl ?_
              refine f_bipush C (v := 10) dX12_many_110 kb10 rfl ?_
              refine f_icmp_ne C (t := 123) dX12_many_112 (by decide) rfl (fun hq_11 => ?_) (fun hq_11 => ?_)
              · replace h := Eq.mp (if_neg hq_11) h
                refine f_aload_n C (j := 1) dX12_many_123 rfl rfl rfl ?_
                refine f_iload_n C (j := 0) dX12_many_124 rfl rfl rfl ?_
                refine f_callVi C (a := 101) (ci := 12) (As := fun B => [.int r_6]) o101 rfl (c_X12_worthOf  _ _ _ h) tM_X12_336 tI_X12_worthOf tS_X12_worthOf tN_X12 tC_X12_worthOf 1 dd_X12_worthOf rfl (by decide) (by decide) rfl (Nat.le_of_ble_eq_true rfl) dX12_many_125 rfl (fun r_13 σ_12 h => ?_)
                exact f_iret C dX12_many_128 h
              · replace h := Eq.mp (if_pos hq_11) h
                refine f_aload_n C (j := 1) dX12_many_115 rfl rfl rfl ?_
                refine f_iload_n C (j := 0) dX12_many_116 rfl rfl rfl ?_
                refine f_callVi C (a := 101) (ci := 12) (As := fun B => [.int r_6]) o101 rfl (c_X12_doneBy  _ _ _ h) tM_X12_333 tI_X12_doneBy tS_X12_doneBy tN_X12 tC_X12_doneBy 1 dd_X12_doneBy rfl (by decide) (by decide) rfl (Nat.le_of_ble_eq_true rfl) dX12_many_117 rfl (fun r_15 σ_14 h => ?_)
                refine f_goto C (t := 128) dX12_many_120 (by decide) ?_
                exact f_iret C dX12_many_128 h
            · replace h := Eq.mp (if_pos hq_10) h
              refine f_aload_n C (j := 1) dX12_many_99 rfl rfl rfl ?_
              refine f_getc C tF_X12_35 rfl o101 cs101_20 (by decide) dX12_many_100 rfl ?_
              refine f_bipush C (v := 7) dX12_many_103 kb7 rfl ?_
              refine f_iald C (j := 7) a106 (vp_lit (by decide)) rfl dX12_many_105 rfl ?_
              refine f_goto C (t := 128) dX12_many_106 (by decide) ?_
              exact f_iret C dX12_many_128 h
          · replace h := Eq.mp (if_pos hq_9) h
            refine f_aload_n C (j := 1) dX12_many_74 rfl rfl rfl ?_
            refine f_callVi C (a := 101) (ci := 12) (As := fun B => []) o101 rfl (c_X12_allThings   _ _ h) tM_X12_313 tI_X12_allThings tS_X12_allThings tN_X12 tC_X12_allThings 0 dd_X12_allThings rfl (by decide) (by decide) rfl (Nat.le_of_ble_eq_true rfl) dX12_many_75 rfl (fun r_17 σ_16 h => ?_)
            refine f_iload_n C (j := 0) dX12_many_78 rfl rfl rfl ?_
            refine f_iconst C (v := (-1)) dX12_many_79 kcm1 rfl ?_
            refine f_inot C dX12_many_80 rfl ?_
            refine f_iand C dX12_many_81 rfl ?_
            refine f_aload_n C (j := 1) dX12_many_82 rfl rfl rfl ?_
            refine f_getc C tF_X12_35 rfl o101 cs101_20 (by decide) dX12_many_83 rfl ?_
            refine f_bipush C (v := 6) dX12_many_86 kb6 rfl ?_
            refine f_iald C (j := 6) a106 (vp_lit (by decide)) rfl dX12_many_88 rfl ?_
            refine f_iconst C (v := (-1)) dX12_many_89 kcm1 rfl ?_
            refine f_inot C dX12_many_90 rfl ?_
            refine f_iand C dX12_many_91 rfl ?_
            exact f_iret C dX12_many_92 h
        · replace h := Eq.mp (if_pos hq_8) h
          refine f_aload_n C (j := 1) dX12_many_60 rfl rfl rfl ?_
          refine f_getc C tF_X12_35 rfl o101 cs101_20 (by decide) dX12_many_61 rfl ?_
          refine f_bipush C (v := 6) dX12_many_64 kb6 rfl ?_
          refine f_iald C (j := 6) a106 (vp_lit (by decide)) rfl dX12_many_66 rfl ?_
          exact f_iret C dX12_many_67 h
      · replace h := Eq.mp (if_pos hq_7) h
        refine f_iload_n C (j := 0) dX12_many_52 rfl rfl rfl ?_
        exact f_iret C dX12_many_53 h
    · replace h := Eq.mp (if_neg hq_4) h
      refine f_aload_n C (j := 0) dX12_many_34 rfl rfl rfl ?_
      refine f_getc C tF_X12_35 rfl o101 cs101_20 (by decide) dX12_many_35 rfl ?_
      refine f_iload_n C (j := 1) dX12_many_38 rfl rfl rfl ?_
      obtain ⟨hi_18, h⟩ := h
      refine f_iald C (j := tn x1) a106 hi_18 rfl dX12_many_39 rfl ?_
      exact f_iret C dX12_many_40 h
  · replace h := Eq.mp (if_pos hq_3) h
    refine f_aload_n C (j := 0) dX12_many_22 rfl rfl rfl ?_
    refine f_iconst C (v := 5) dX12_many_23 kc5 rfl ?_
    refine f_callVi C (a := 101) (ci := 12) (As := fun B => [.int 5]) o101 rfl (c_X12_refuse  _ _ _ h) tM_X12_327 tI_X12_refuse tS_X12_refuse tN_X12 tC_X12_refuse 1 dd_X12_refuse rfl (by decide) (by decide) rfl (Nat.le_of_ble_eq_true rfl) dX12_many_24 rfl (fun r_20 σ_19 h => ?_)
    exact f_iret C dX12_many_27 h
theorem c_X12_many (x1 : Int32) (σ : Sto) (P : Int32 → Sto → Prop) (h : w_X12_many x1 σ P) : Ct yX12_many cX12_many 3 (some .int) 4 89 (fun B => [.ref (B + 101), .int x1]) σ (QFi P) := Ct.of (by decide) (fun _ => Nat.le_of_ble_eq_true rfl) (fun B E C => s_X12_many C x1 σ h)
def w_X12_thing_99 (K99 : Int32 × Int32 × Sto → Prop) (x1 : Int32) (x3 : Int32) (x4 : Int32) (σ : Sto) (P : Int32 → Sto → Prop) : Prop :=
  (if (gi σ 106 1) ≤ x4 then P x3 σ else vp_in (20 + x4) 2105 ∧ (if (gi σ 106 (tn (20 + x4))) = x1 then ∀ x3_17 : Int32, x3_17 = x3 ||| (1 <<< (x4 &&& 31)) → ∀ x4_19 : Int32, x4_19 = x4 + 1 → K99 (x3_17, x4_19, σ) else ∀ x3_13 : Int32, x3_13 = x3 ||| 0 → ∀ x4_15 : Int32, x4_15 = x4 + 1 → K99 (x3_13, x4_15, σ)))
theorem s_X12_thing_99 {B : Nat} {E : Nat → List (Nat × Value) → List Value → Sto → Prop} {P : Int32 → Sto → Prop} (C : Cy B E RX12 cX12_thing 5 (some .int) 4 89 (Zm (QFi P))) (x1 : Int32) (x3 : Int32) (x4 : Int32) (K99 : Int32 × Int32 × Sto → Prop) (hK99 : ∀ (x3 : Int32) (x4 : Int32) (σ : Sto), K99 (x3, x4, σ) → E 99 [(0, .ref (B + 101)), (1, .int x1), (3, .int x3), (4, .int x4)] [] σ) (σ : Sto) (h : w_X12_thing_99 K99 x1 x3 x4 σ P) : E 99 [(0, .ref (B + 101)), (1, .int x1), (3, .int x3), (4, .int x4)] [] σ := by
  unfold w_X12_thing_99 at h
  refine f_iload C (j := 3) dX12_thing_99 rfl rfl ?_
  refine f_aload_n C (j := 0) dX12_thing_101 rfl rfl rfl ?_
  refine f_getc C tF_X12_35 rfl o101 cs101_20 (by decide) dX12_thing_102 rfl ?_
  refine f_iconst C (v := 1) dX12_thing_105 kc1 rfl ?_
  refine f_iald C (j := 1) a106 (vp_lit (by decide)) rfl dX12_thing_106 rfl ?_
  refine f_icmp_ge C (t := 141) dX12_thing_107 (by decide) rfl (fun hq_10 => ?_) (fun hq_10 => ?_)
  · replace h := Eq.mp (if_pos hq_10) h
    refine f_iload_n C (j := 2) dX12_thing_141 rfl rfl rfl ?_
    exact f_iret C dX12_thing_142 h
  · replace h := Eq.mp (if_neg hq_10) h
    refine f_iload_n C (j := 2) dX12_thing_110 rfl rfl rfl ?_
    refine f_aload_n C (j := 0) dX12_thing_111 rfl rfl rfl ?_
    refine f_getc C tF_X12_35 rfl o101 cs101_20 (by decide) dX12_thing_112 rfl ?_
    refine f_bipush C (v := 20) dX12_thing_115 kb20 rfl ?_
    refine f_iload C (j := 3) dX12_thing_117 rfl rfl ?_
    refine f_iadd C dX12_thing_119 rfl ?_
    obtain ⟨hi_11, h⟩ := h
    refine f_iald C (j := tn (20 + x4)) a106 hi_11 rfl dX12_thing_120 rfl ?_
    refine f_iload_n C (j := 1) dX12_thing_121 rfl rfl rfl ?_
    refine f_icmp_ne C (t := 132) dX12_thing_122 (by decide) rfl (fun hq_12 => ?_) (fun hq_12 => ?_)
    · replace h := Eq.mp (if_neg hq_12) h
      refine f_iconst C (v := 0) dX12_thing_132 kc0 rfl ?_
      refine f_ior C dX12_thing_133 rfl ?_
      refine f_name (fun x3_13 hx_14 => ?_)
      replace h := h x3_13 hx_14
      refine f_istore_n C (lv2 := [(3, .int x3_13), (0, .ref (B + 101)), (1, .int x1), (4, .int x4)]) dX12_thing_134 rfl (by decide) rfl rfl ?_
      obtain ⟨x4_15, hx_16⟩ : ∃ y : Int32, y = x4 + 1 := ⟨_, rfl⟩
      replace h := h x4_15 hx_16
      refine f_iinc C (j := 3) (v := x4_15) (lv2 := [(4, .int x4_15), (3, .int x3_13), (0, .ref (B + 101)), (1, .int x1)]) dX12_thing_135 rfl hx_16.symm (by decide) rfl rfl ?_
      refine f_goto C (t := 99) dX12_thing_138 (by decide) ?_
      refine f_lv C (lv2 := [(0, .ref (B + 101)), (1, .int x1), (3, .int x3_13), (4, .int x4_15)]) [2, 3, 1, 0] rfl ?_
      exact hK99 _ _ _ h
    · replace h := Eq.mp (if_pos hq_12) h
      refine f_iconst C (v := 1) dX12_thing_125 kc1 rfl ?_
      refine f_iload C (j := 3) dX12_thing_126 rfl rfl ?_
      refine f_ishl C dX12_thing_128 rfl ?_
      refine f_goto C (t := 133) dX12_thing_129 (by decide) ?_
      refine f_ior C dX12_thing_133 rfl ?_
      refine f_name (fun x3_17 hx_18 => ?_)
      replace h := h x3_17 hx_18
      refine f_istore_n C (lv2 := [(3, .int x3_17), (0, .ref (B + 101)), (1, .int x1), (4, .int x4)]) dX12_thing_134 rfl (by decide) rfl rfl ?_
      obtain ⟨x4_19, hx_20⟩ : ∃ y : Int32, y = x4 + 1 := ⟨_, rfl⟩
      replace h := h x4_19 hx_20
      refine f_iinc C (j := 3) (v := x4_19) (lv2 := [(4, .int x4_19), (3, .int x3_17), (0, .ref (B + 101)), (1, .int x1)]) dX12_thing_135 rfl hx_20.symm (by decide) rfl rfl ?_
      refine f_goto C (t := 99) dX12_thing_138 (by decide) ?_
      refine f_lv C (lv2 := [(0, .ref (B + 101)), (1, .int x1), (3, .int x3_17), (4, .int x4_19)]) [2, 3, 1, 0] rfl ?_
      exact hK99 _ _ _ h
def w_X12_thing (x1 : Int32) (x2 : Int32) (σ : Sto) (P : Int32 → Sto → Prop) : Prop :=
  w_X12_isThingAt x1 (si (si σ 101 1 0) 101 0 0) (fun r_2 σ_1 => (if r_2 = 0 then w_X12_refuse 2 σ_1 (fun r_31 σ_30 => P r_31 σ_30) else w_X12_isIn x2.toInt64 0 3 σ_1 (fun r_5 σ_4 => (if r_5 = 0 then w_X12_refuse 5 σ_4 (fun r_29 σ_28 => P r_29 σ_28) else (if x2 = 0 then vp_in (8 + x1) 2105 ∧ P (gi σ_4 106 (tn (8 + x1))) σ_4 else (if x2 = 1 then w_X12_now σ_4 (fun r_23 σ_22 => w_X12_has r_23 x1 σ_22 (fun r_25 σ_24 => (if r_25 = 0 then P 0 σ_24 else P 1 σ_24))) else (if x2 = 3 then vp_in (130 + x1) 2105 ∧ P (gi σ_4 106 (tn (130 + x1))) σ_4 else Lp (fun (K : Int32 × Int32 × Sto → Prop) s => w_X12_thing_99 K x1 s.1 s.2.1 s.2.2 P) (0, 0, σ_4))))))))
theorem s_X12_thing {B : Nat} {E : Nat → List (Nat × Value) → List Value → Sto → Prop} {P : Int32 → Sto → Prop} (C : Cy B E RX12 cX12_thing 5 (some .int) 4 89 (Zm (QFi P))) (x1 : Int32) (x2 : Int32) (σ : Sto) (h : w_X12_thing x1 x2 σ P) : E 0 [(0, .ref (B + 101)), (1, .int x1), (2, .int x2)] [] σ := by
  unfold w_X12_thing at h
  refine f_aload_n C (j := 0) dX12_thing_0 rfl rfl rfl ?_
  refine f_iconst C (v := 0) dX12_thing_1 kc0 rfl ?_
  refine f_puti C tF_X12_74 fm_12_1 rfl o101 dX12_thing_2 rfl ?_
  refine f_aload_n C (j := 0) dX12_thing_5 rfl rfl rfl ?_
  refine f_iconst C (v := 0) dX12_thing_6 kc0 rfl ?_
  refine f_puti C tF_X12_77 fm_12_0 rfl o101 dX12_thing_7 rfl ?_
  refine f_aload_n C (j := 0) dX12_thing_10 rfl rfl rfl ?_
  refine f_iload_n C (j := 1) dX12_thing_11 rfl rfl rfl ?_
  refine f_callVi C (a := 101) (ci := 12) (As := fun B => [.int x1]) o101 rfl (c_X12_isThingAt  _ _ _ h) tM_X12_339 tI_X12_isThingAt tS_X12_isThingAt tN_X12 tC_X12_isThingAt 1 dd_X12_isThingAt rfl (by decide) (by decide) rfl (Nat.le_of_ble_eq_true rfl) dX12_thing_12 rfl (fun r_2 σ_1 h => ?_)
  refine f_if_ne C (t := 24) dX12_thing_15 (by decide) rfl (fun hq_3 => ?_) (fun hq_3 => ?_)
  · replace h := Eq.mp (if_neg hq_3) h
    refine f_iload_n C (j := 2) dX12_thing_24 rfl rfl rfl ?_
    refine f_i2l C dX12_thing_25 rfl ?_
    refine f_lconst C (v := 0) dX12_thing_26 (by decide) rfl ?_
    refine f_ldc2_w C tL_X12_107 dX12_thing_27 rfl ?_
    refine f_callSi C (As := fun B => [.long x2.toInt64, .long 0, .long 3]) (c_X12_isIn  _ _ _ _ _ h) tM_X12_109 tT_X12_isIn tN_X12 tC_X12_isIn 3 dd_X12_isIn rfl (by decide) (by decide) rfl (Nat.le_of_ble_eq_true rfl) dX12_thing_30 rfl (fun r_5 σ_4 h => ?_)
    refine f_if_ne C (t := 42) dX12_thing_33 (by decide) rfl (fun hq_6 => ?_) (fun hq_6 => ?_)
    · replace h := Eq.mp (if_neg hq_6) h
      refine f_iload_n C (j := 2) dX12_thing_42 rfl rfl rfl ?_
      refine f_if_ne C (t := 56) dX12_thing_43 (by decide) rfl (fun hq_7 => ?_) (fun hq_7 => ?_)
      · replace h := Eq.mp (if_neg hq_7) h
        refine f_iload_n C (j := 2) dX12_thing_56 rfl rfl rfl ?_
        refine f_iconst C (v := 1) dX12_thing_57 kc1 rfl ?_
        refine f_icmp_ne C (t := 78) dX12_thing_58 (by decide) rfl (fun hq_8 => ?_) (fun hq_8 => ?_)
        · replace h := Eq.mp (if_neg hq_8) h
          refine f_iload_n C (j := 2) dX12_thing_78 rfl rfl rfl ?_
          refine f_iconst C (v := 3) dX12_thing_79 kc3 rfl ?_
          refine f_icmp_ne C (t := 94) dX12_thing_80 (by decide) rfl (fun hq_9 => ?_) (fun hq_9 => ?_)
          · replace h := Eq.mp (if_neg hq_9) h
            refine f_iconst C (v := 0) dX12_thing_94 kc0 rfl ?_
            refine f_istore_n C (lv2 := [(3, .int 0), (0, .ref (B + 101)), (1, .int x1), (2, .int x2)]) dX12_thing_95 rfl (by decide) rfl rfl ?_
            refine f_iconst C (v := 0) dX12_thing_96 kc0 rfl ?_
            refine f_istore C (lv2 := [(4, .int 0), (3, .int 0), (0, .ref (B + 101)), (1, .int x1), (2, .int x2)]) dX12_thing_97 (by decide) rfl rfl ?_
            refine f_lv C (lv2 := [(0, .ref (B + 101)), (1, .int x1), (3, .int 0), (4, .int 0)]) [2, 3, 1, 0] rfl ?_
            exact Lp_sound (fun s : Int32 × Int32 × Sto => E 99 [(0, .ref (B + 101)), (1, .int x1), (3, .int s.1), (4, .int s.2.1)] [] s.2.2) h (fun K s hK h => s_X12_thing_99 C x1 s.1 s.2.1 K (fun x3 x4 σ hk => hK (x3, x4, σ) hk) s.2.2 h)
          · replace h := Eq.mp (if_pos hq_9) h
            refine f_aload_n C (j := 0) dX12_thing_83 rfl rfl rfl ?_
            refine f_getc C tF_X12_35 rfl o101 cs101_20 (by decide) dX12_thing_84 rfl ?_
            refine f_sipush C (v := 130) dX12_thing_87 ks130 rfl ?_
            refine f_iload_n C (j := 1) dX12_thing_90 rfl rfl rfl ?_
            refine f_iadd C dX12_thing_91 rfl ?_
            obtain ⟨hi_21, h⟩ := h
            refine f_iald C (j := tn (130 + x1)) a106 hi_21 rfl dX12_thing_92 rfl ?_
            exact f_iret C dX12_thing_93 h
        · replace h := Eq.mp (if_pos hq_8) h
          refine f_aload_n C (j := 0) dX12_thing_61 rfl rfl rfl ?_
          refine f_callVi C (a := 101) (ci := 12) (As := fun B => []) o101 rfl (c_X12_now   _ _ h) tM_X12_330 tI_X12_now tS_X12_now tN_X12 tC_X12_now 0 dd_X12_now rfl (by decide) (by decide) rfl (Nat.le_of_ble_eq_true rfl) dX12_thing_62 rfl (fun r_23 σ_22 h => ?_)
          refine f_iload_n C (j := 1) dX12_thing_65 rfl rfl rfl ?_
          refine f_callSi C (As := fun B => [.int r_23, .int x1]) (c_X12_has  _ _ _ _ h) tM_X12_113 tT_X12_has tN_X12 tC_X12_has 2 dd_X12_has rfl (by decide) (by decide) rfl (Nat.le_of_ble_eq_true rfl) dX12_thing_66 rfl (fun r_25 σ_24 h => ?_)
          refine f_if_eq C (t := 76) dX12_thing_69 (by decide) rfl (fun hq_26 => ?_) (fun hq_26 => ?_)
          · replace h := Eq.mp (if_pos hq_26) h
            refine f_iconst C (v := 0) dX12_thing_76 kc0 rfl ?_
            exact f_iret C dX12_thing_77 h
          · replace h := Eq.mp (if_neg hq_26) h
            refine f_iconst C (v := 1) dX12_thing_72 kc1 rfl ?_
            refine f_goto C (t := 77) dX12_thing_73 (by decide) ?_
            exact f_iret C dX12_thing_77 h
      · replace h := Eq.mp (if_pos hq_7) h
        refine f_aload_n C (j := 0) dX12_thing_46 rfl rfl rfl ?_
        refine f_getc C tF_X12_35 rfl o101 cs101_20 (by decide) dX12_thing_47 rfl ?_
        refine f_bipush C (v := 8) dX12_thing_50 kb8 rfl ?_
        refine f_iload_n C (j := 1) dX12_thing_52 rfl rfl rfl ?_
        refine f_iadd C dX12_thing_53 rfl ?_
        obtain ⟨hi_27, h⟩ := h
        refine f_iald C (j := tn (8 + x1)) a106 hi_27 rfl dX12_thing_54 rfl ?_
        exact f_iret C dX12_thing_55 h
    · replace h := Eq.mp (if_pos hq_6) h
      refine f_aload_n C (j := 0) dX12_thing_36 rfl rfl rfl ?_
      refine f_iconst C (v := 5) dX12_thing_37 kc5 rfl ?_
      refine f_callVi C (a := 101) (ci := 12) (As := fun B => [.int 5]) o101 rfl (c_X12_refuse  _ _ _ h) tM_X12_327 tI_X12_refuse tS_X12_refuse tN_X12 tC_X12_refuse 1 dd_X12_refuse rfl (by decide) (by decide) rfl (Nat.le_of_ble_eq_true rfl) dX12_thing_38 rfl (fun r_29 σ_28 h => ?_)
      exact f_iret C dX12_thing_41 h
  · replace h := Eq.mp (if_pos hq_3) h
    refine f_aload_n C (j := 0) dX12_thing_18 rfl rfl rfl ?_
    refine f_iconst C (v := 2) dX12_thing_19 kc2 rfl ?_
    refine f_callVi C (a := 101) (ci := 12) (As := fun B => [.int 2]) o101 rfl (c_X12_refuse  _ _ _ h) tM_X12_327 tI_X12_refuse tS_X12_refuse tN_X12 tC_X12_refuse 1 dd_X12_refuse rfl (by decide) (by decide) rfl (Nat.le_of_ble_eq_true rfl) dX12_thing_20 rfl (fun r_31 σ_30 h => ?_)
    exact f_iret C dX12_thing_23 h
theorem c_X12_thing (x1 : Int32) (x2 : Int32) (σ : Sto) (P : Int32 → Sto → Prop) (h : w_X12_thing x1 x2 σ P) : Ct yX12_thing cX12_thing 5 (some .int) 4 89 (fun B => [.ref (B + 101), .int x1, .int x2]) σ (QFi P) := Ct.of (by decide) (fun _ => Nat.le_of_ble_eq_true rfl) (fun B E C => s_X12_thing C x1 x2 σ h)
def w_X12_making (x1 : Int32) (x2 : Int32) (σ : Sto) (P : Int32 → Sto → Prop) : Prop :=
  ∀ σ_1 : Sto, σ_1 = si (si σ 101 1 0) 101 0 0 → w_X12_isIn x1.toInt64 0 (((gi σ_1 106 1) - 1).toInt64) σ_1 (fun r_4 σ_3 => (if r_4 = 0 then w_X12_refuse 2 σ_3 (fun r_13 σ_12 => P r_13 σ_12) else (if x2 = 0 then vp_in (20 + x1) 2105 ∧ P (gi σ_3 106 (tn (20 + x1))) σ_3 else (if x2 = 1 then vp_in (36 + x1) 2105 ∧ P (gi σ_3 106 (tn (36 + x1))) σ_3 else w_X12_refuse 5 σ_3 (fun r_9 σ_8 => P r_9 σ_8)))))
theorem s_X12_making {B : Nat} {E : Nat → List (Nat × Value) → List Value → Sto → Prop} {P : Int32 → Sto → Prop} (C : Cy B E RX12 cX12_making 3 (some .int) 1 25 (Zm (QFi P))) (x1 : Int32) (x2 : Int32) (σ : Sto) (h : w_X12_making x1 x2 σ P) : E 0 [(0, .ref (B + 101)), (1, .int x1), (2, .int x2)] [] σ := by
  unfold w_X12_making at h
  refine f_aload_n C (j := 0) dX12_making_0 rfl rfl rfl ?_
  refine f_iconst C (v := 0) dX12_making_1 kc0 rfl ?_
  refine f_puti C tF_X12_74 fm_12_1 rfl o101 dX12_making_2 rfl ?_
  refine f_aload_n C (j := 0) dX12_making_5 rfl rfl rfl ?_
  refine f_iconst C (v := 0) dX12_making_6 kc0 rfl ?_
  refine f_puti C tF_X12_77 fm_12_0 rfl o101 dX12_making_7 rfl ?_
  refine f_iload_n C (j := 1) dX12_making_10 rfl rfl rfl ?_
  refine f_i2l C dX12_making_11 rfl ?_
  refine f_lconst C (v := 0) dX12_making_12 (by decide) rfl ?_
  refine f_aload_n C (j := 0) dX12_making_13 rfl rfl rfl ?_
  refine f_getc C tF_X12_35 rfl o101 cs101_20 (by decide) dX12_making_14 rfl ?_
  refine f_iconst C (v := 1) dX12_making_17 kc1 rfl ?_
  refine f_names (fun σ_1 hσ_2 => ?_)
  replace h := h σ_1 hσ_2
  refine f_iald C (j := 1) a106 (vp_lit (by decide)) rfl dX12_making_18 rfl ?_
  refine f_iconst C (v := 1) dX12_making_19 kc1 rfl ?_
  refine f_isub C dX12_making_20 rfl ?_
  refine f_i2l C dX12_making_21 rfl ?_
  refine f_callSi C (As := fun B => [.long x1.toInt64, .long 0, .long (((gi σ_1 106 1) - 1).toInt64)]) (c_X12_isIn  _ _ _ _ _ h) tM_X12_109 tT_X12_isIn tN_X12 tC_X12_isIn 3 dd_X12_isIn rfl (by decide) (by decide) rfl (Nat.le_of_ble_eq_true rfl) dX12_making_22 rfl (fun r_4 σ_3 h => ?_)
  refine f_if_ne C (t := 34) dX12_making_25 (by decide) rfl (fun hq_5 => ?_) (fun hq_5 => ?_)
  · replace h := Eq.mp (if_neg hq_5) h
    refine f_iload_n C (j := 2) dX12_making_34 rfl rfl rfl ?_
    refine f_if_ne C (t := 50) dX12_making_35 (by decide) rfl (fun hq_6 => ?_) (fun hq_6 => ?_)
    · replace h := Eq.mp (if_neg hq_6) h
      refine f_iload_n C (j := 2) dX12_making_50 rfl rfl rfl ?_
      refine f_iconst C (v := 1) dX12_making_51 kc1 rfl ?_
      refine f_icmp_ne C (t := 67) dX12_making_52 (by decide) rfl (fun hq_7 => ?_) (fun hq_7 => ?_)
      · replace h := Eq.mp (if_neg hq_7) h
        refine f_aload_n C (j := 0) dX12_making_67 rfl rfl rfl ?_
        refine f_iconst C (v := 5) dX12_making_68 kc5 rfl ?_
        refine f_callVi C (a := 101) (ci := 12) (As := fun B => [.int 5]) o101 rfl (c_X12_refuse  _ _ _ h) tM_X12_327 tI_X12_refuse tS_X12_refuse tN_X12 tC_X12_refuse 1 dd_X12_refuse rfl (by decide) (by decide) rfl (Nat.le_of_ble_eq_true rfl) dX12_making_69 rfl (fun r_9 σ_8 h => ?_)
        exact f_iret C dX12_making_72 h
      · replace h := Eq.mp (if_pos hq_7) h
        refine f_aload_n C (j := 0) dX12_making_55 rfl rfl rfl ?_
        refine f_getc C tF_X12_35 rfl o101 cs101_20 (by decide) dX12_making_56 rfl ?_
        refine f_bipush C (v := 36) dX12_making_59 kb36 rfl ?_
        refine f_iload_n C (j := 1) dX12_making_61 rfl rfl rfl ?_
        refine f_iadd C dX12_making_62 rfl ?_
        obtain ⟨hi_10, h⟩ := h
        refine f_iald C (j := tn (36 + x1)) a106 hi_10 rfl dX12_making_63 rfl ?_
        refine f_goto C (t := 72) dX12_making_64 (by decide) ?_
        exact f_iret C dX12_making_72 h
    · replace h := Eq.mp (if_pos hq_6) h
      refine f_aload_n C (j := 0) dX12_making_38 rfl rfl rfl ?_
      refine f_getc C tF_X12_35 rfl o101 cs101_20 (by decide) dX12_making_39 rfl ?_
      refine f_bipush C (v := 20) dX12_making_42 kb20 rfl ?_
      refine f_iload_n C (j := 1) dX12_making_44 rfl rfl rfl ?_
      refine f_iadd C dX12_making_45 rfl ?_
      obtain ⟨hi_11, h⟩ := h
      refine f_iald C (j := tn (20 + x1)) a106 hi_11 rfl dX12_making_46 rfl ?_
      refine f_goto C (t := 72) dX12_making_47 (by decide) ?_
      exact f_iret C dX12_making_72 h
  · replace h := Eq.mp (if_pos hq_5) h
    refine f_aload_n C (j := 0) dX12_making_28 rfl rfl rfl ?_
    refine f_iconst C (v := 2) dX12_making_29 kc2 rfl ?_
    refine f_callVi C (a := 101) (ci := 12) (As := fun B => [.int 2]) o101 rfl (c_X12_refuse  _ _ _ h) tM_X12_327 tI_X12_refuse tS_X12_refuse tN_X12 tC_X12_refuse 1 dd_X12_refuse rfl (by decide) (by decide) rfl (Nat.le_of_ble_eq_true rfl) dX12_making_30 rfl (fun r_13 σ_12 h => ?_)
    exact f_iret C dX12_making_33 h
theorem c_X12_making (x1 : Int32) (x2 : Int32) (σ : Sto) (P : Int32 → Sto → Prop) (h : w_X12_making x1 x2 σ P) : Ct yX12_making cX12_making 3 (some .int) 1 25 (fun B => [.ref (B + 101), .int x1, .int x2]) σ (QFi P) := Ct.of (by decide) (fun _ => Nat.le_of_ble_eq_true rfl) (fun B E C => s_X12_making C x1 x2 σ h)
def w_X12_needs (x1 : Int32) (σ : Sto) (P : Int32 → Sto → Prop) : Prop :=
  w_X12_isWorkAt x1 (si (si σ 101 1 0) 101 0 0) (fun r_2 σ_1 => (if r_2 = 0 then w_X12_refuse 2 σ_1 (fun r_5 σ_4 => P r_5 σ_4) else vp_in (52 + x1) 2105 ∧ P (gi σ_1 106 (tn (52 + x1))) σ_1))
theorem s_X12_needs {B : Nat} {E : Nat → List (Nat × Value) → List Value → Sto → Prop} {P : Int32 → Sto → Prop} (C : Cy B E RX12 cX12_needs 2 (some .int) 2 46 (Zm (QFi P))) (x1 : Int32) (σ : Sto) (h : w_X12_needs x1 σ P) : E 0 [(0, .ref (B + 101)), (1, .int x1)] [] σ := by
  unfold w_X12_needs at h
  refine f_aload_n C (j := 0) dX12_needs_0 rfl rfl rfl ?_
  refine f_iconst C (v := 0) dX12_needs_1 kc0 rfl ?_
  refine f_puti C tF_X12_74 fm_12_1 rfl o101 dX12_needs_2 rfl ?_
  refine f_aload_n C (j := 0) dX12_needs_5 rfl rfl rfl ?_
  refine f_iconst C (v := 0) dX12_needs_6 kc0 rfl ?_
  refine f_puti C tF_X12_77 fm_12_0 rfl o101 dX12_needs_7 rfl ?_
  refine f_aload_n C (j := 0) dX12_needs_10 rfl rfl rfl ?_
  refine f_iload_n C (j := 1) dX12_needs_11 rfl rfl rfl ?_
  refine f_callVi C (a := 101) (ci := 12) (As := fun B => [.int x1]) o101 rfl (c_X12_isWorkAt  _ _ _ h) tM_X12_342 tI_X12_isWorkAt tS_X12_isWorkAt tN_X12 tC_X12_isWorkAt 1 dd_X12_isWorkAt rfl (by decide) (by decide) rfl (Nat.le_of_ble_eq_true rfl) dX12_needs_12 rfl (fun r_2 σ_1 h => ?_)
  refine f_if_eq C (t := 30) dX12_needs_15 (by decide) rfl (fun hq_3 => ?_) (fun hq_3 => ?_)
  · replace h := Eq.mp (if_pos hq_3) h
    refine f_aload_n C (j := 0) dX12_needs_30 rfl rfl rfl ?_
    refine f_iconst C (v := 2) dX12_needs_31 kc2 rfl ?_
    refine f_callVi C (a := 101) (ci := 12) (As := fun B => [.int 2]) o101 rfl (c_X12_refuse  _ _ _ h) tM_X12_327 tI_X12_refuse tS_X12_refuse tN_X12 tC_X12_refuse 1 dd_X12_refuse rfl (by decide) (by decide) rfl (Nat.le_of_ble_eq_true rfl) dX12_needs_32 rfl (fun r_5 σ_4 h => ?_)
    exact f_iret C dX12_needs_35 h
  · replace h := Eq.mp (if_neg hq_3) h
    refine f_aload_n C (j := 0) dX12_needs_18 rfl rfl rfl ?_
    refine f_getc C tF_X12_35 rfl o101 cs101_20 (by decide) dX12_needs_19 rfl ?_
    refine f_bipush C (v := 52) dX12_needs_22 kb52 rfl ?_
    refine f_iload_n C (j := 1) dX12_needs_24 rfl rfl rfl ?_
    refine f_iadd C dX12_needs_25 rfl ?_
    obtain ⟨hi_6, h⟩ := h
    refine f_iald C (j := tn (52 + x1)) a106 hi_6 rfl dX12_needs_26 rfl ?_
    refine f_goto C (t := 35) dX12_needs_27 (by decide) ?_
    exact f_iret C dX12_needs_35 h
theorem c_X12_needs (x1 : Int32) (σ : Sto) (P : Int32 → Sto → Prop) (h : w_X12_needs x1 σ P) : Ct yX12_needs cX12_needs 2 (some .int) 2 46 (fun B => [.ref (B + 101), .int x1]) σ (QFi P) := Ct.of (by decide) (fun _ => Nat.le_of_ble_eq_true rfl) (fun B E C => s_X12_needs C x1 σ h)
def w_X12_hate_43 (σ : Sto) (P : Int32 → Sto → Prop) : Prop :=
  w_X12_refuse 2 σ (fun r_5 σ_4 => P r_5 σ_4)
theorem s_X12_hate_43 {B : Nat} {E : Nat → List (Nat × Value) → List Value → Sto → Prop} {P : Int32 → Sto → Prop} (C : Cy B E RX12 cX12_hate 3 (some .int) 2 46 (Zm (QFi P))) (σ : Sto) (h : w_X12_hate_43 σ P) : E 43 [(0, .ref (B + 101))] [] σ := by
  unfold w_X12_hate_43 at h
  refine f_aload_n C (j := 0) dX12_hate_43 rfl rfl rfl ?_
  refine f_iconst C (v := 2) dX12_hate_44 kc2 rfl ?_
  refine f_callVi C (a := 101) (ci := 12) (As := fun B => [.int 2]) o101 rfl (c_X12_refuse  _ _ _ h) tM_X12_327 tI_X12_refuse tS_X12_refuse tN_X12 tC_X12_refuse 1 dd_X12_refuse rfl (by decide) (by decide) rfl (Nat.le_of_ble_eq_true rfl) dX12_hate_45 rfl (fun r_5 σ_4 h => ?_)
  exact f_iret C dX12_hate_48 h
def w_X12_hate (x1 : Int32) (x2 : Int32) (σ : Sto) (P : Int32 → Sto → Prop) : Prop :=
  w_X12_isVoterAt x1 (si (si σ 101 1 0) 101 0 0) (fun r_2 σ_1 => (if r_2 = 0 then w_X12_hate_43 σ_1 P else w_X12_isThingAt x2 σ_1 (fun r_7 σ_6 => (if r_7 = 0 then w_X12_hate_43 σ_6 P else vp_in ((58 + (12 * x1)) + x2) 2105 ∧ P (gi σ_6 106 (tn ((58 + (12 * x1)) + x2))) σ_6))))
theorem s_X12_hate {B : Nat} {E : Nat → List (Nat × Value) → List Value → Sto → Prop} {P : Int32 → Sto → Prop} (C : Cy B E RX12 cX12_hate 3 (some .int) 2 46 (Zm (QFi P))) (x1 : Int32) (x2 : Int32) (σ : Sto) (h : w_X12_hate x1 x2 σ P) : E 0 [(0, .ref (B + 101)), (1, .int x1), (2, .int x2)] [] σ := by
  unfold w_X12_hate at h
  refine f_aload_n C (j := 0) dX12_hate_0 rfl rfl rfl ?_
  refine f_iconst C (v := 0) dX12_hate_1 kc0 rfl ?_
  refine f_puti C tF_X12_74 fm_12_1 rfl o101 dX12_hate_2 rfl ?_
  refine f_aload_n C (j := 0) dX12_hate_5 rfl rfl rfl ?_
  refine f_iconst C (v := 0) dX12_hate_6 kc0 rfl ?_
  refine f_puti C tF_X12_77 fm_12_0 rfl o101 dX12_hate_7 rfl ?_
  refine f_aload_n C (j := 0) dX12_hate_10 rfl rfl rfl ?_
  refine f_iload_n C (j := 1) dX12_hate_11 rfl rfl rfl ?_
  refine f_callVi C (a := 101) (ci := 12) (As := fun B => [.int x1]) o101 rfl (c_X12_isVoterAt  _ _ _ h) tM_X12_345 tI_X12_isVoterAt tS_X12_isVoterAt tN_X12 tC_X12_isVoterAt 1 dd_X12_isVoterAt rfl (by decide) (by decide) rfl (Nat.le_of_ble_eq_true rfl) dX12_hate_12 rfl (fun r_2 σ_1 h => ?_)
  refine f_if_eq C (t := 43) dX12_hate_15 (by decide) rfl (fun hq_3 => ?_) (fun hq_3 => ?_)
  · replace h := Eq.mp (if_pos hq_3) h
    refine f_lv C (lv2 := [(0, .ref (B + 101))]) [0] rfl ?_
    exact s_X12_hate_43 C  _ h
  · replace h := Eq.mp (if_neg hq_3) h
    refine f_aload_n C (j := 0) dX12_hate_18 rfl rfl rfl ?_
    refine f_iload_n C (j := 2) dX12_hate_19 rfl rfl rfl ?_
    refine f_callVi C (a := 101) (ci := 12) (As := fun B => [.int x2]) o101 rfl (c_X12_isThingAt  _ _ _ h) tM_X12_339 tI_X12_isThingAt tS_X12_isThingAt tN_X12 tC_X12_isThingAt 1 dd_X12_isThingAt rfl (by decide) (by decide) rfl (Nat.le_of_ble_eq_true rfl) dX12_hate_20 rfl (fun r_7 σ_6 h => ?_)
    refine f_if_eq C (t := 43) dX12_hate_23 (by decide) rfl (fun hq_8 => ?_) (fun hq_8 => ?_)
    · replace h := Eq.mp (if_pos hq_8) h
      refine f_lv C (lv2 := [(0, .ref (B + 101))]) [0] rfl ?_
      exact s_X12_hate_43 C  _ h
    · replace h := Eq.mp (if_neg hq_8) h
      refine f_aload_n C (j := 0) dX12_hate_26 rfl rfl rfl ?_
      refine f_getc C tF_X12_35 rfl o101 cs101_20 (by decide) dX12_hate_27 rfl ?_
      refine f_bipush C (v := 58) dX12_hate_30 kb58 rfl ?_
      refine f_bipush C (v := 12) dX12_hate_32 kb12 rfl ?_
      refine f_iload_n C (j := 1) dX12_hate_34 rfl rfl rfl ?_
      refine f_imul C dX12_hate_35 rfl ?_
      refine f_iadd C dX12_hate_36 rfl ?_
      refine f_iload_n C (j := 2) dX12_hate_37 rfl rfl rfl ?_
      refine f_iadd C dX12_hate_38 rfl ?_
      obtain ⟨hi_9, h⟩ := h
      refine f_iald C (j := tn ((58 + (12 * x1)) + x2)) a106 hi_9 rfl dX12_hate_39 rfl ?_
      refine f_goto C (t := 48) dX12_hate_40 (by decide) ?_
      exact f_iret C dX12_hate_48 h
theorem c_X12_hate (x1 : Int32) (x2 : Int32) (σ : Sto) (P : Int32 → Sto → Prop) (h : w_X12_hate x1 x2 σ P) : Ct yX12_hate cX12_hate 3 (some .int) 2 46 (fun B => [.ref (B + 101), .int x1, .int x2]) σ (QFi P) := Ct.of (by decide) (fun _ => Nat.le_of_ble_eq_true rfl) (fun B E C => s_X12_hate C x1 x2 σ h)
def w_X12_copyWorth_67 (K67 : Int32 × Sto → Prop) (x1 : Int32) (x2 : Int32) (x3 : Int32) (σ : Sto) (P : Int32 → Sto → Prop) : Prop :=
  (if (gi σ 106 0) ≤ x3 then P (gi σ 106 0) σ else w_X12_has x2 x3 σ (fun r_11 σ_10 => (if r_11 = 0 then vp_in ((60 * x1) + x3) 240 ∧ ∀ x3_14 : Int32, x3_14 = x3 + 1 → K67 (x3_14, sl σ_10 104 (tn ((60 * x1) + x3)) 0) else vp_in (8 + x3) 2105 ∧ vp_in ((60 * x1) + x3) 240 ∧ ∀ x3_18 : Int32, x3_18 = x3 + 1 → K67 (x3_18, sl σ_10 104 (tn ((60 * x1) + x3)) ((gi σ_10 106 (tn (8 + x3))).toInt64)))))
theorem s_X12_copyWorth_67 {B : Nat} {E : Nat → List (Nat × Value) → List Value → Sto → Prop} {P : Int32 → Sto → Prop} (C : Cy B E RX12 cX12_copyWorth 4 (some .int) 4 89 (Zm (QFi P))) (x1 : Int32) (x2 : Int32) (x3 : Int32) (K67 : Int32 × Sto → Prop) (hK67 : ∀ (x3 : Int32) (σ : Sto), K67 (x3, σ) → E 67 [(0, .ref (B + 101)), (1, .int x1), (2, .int x2), (3, .int x3)] [] σ) (σ : Sto) (h : w_X12_copyWorth_67 K67 x1 x2 x3 σ P) : E 67 [(0, .ref (B + 101)), (1, .int x1), (2, .int x2), (3, .int x3)] [] σ := by
  unfold w_X12_copyWorth_67 at h
  refine f_iload_n C (j := 3) dX12_copyWorth_67 rfl rfl rfl ?_
  refine f_aload_n C (j := 0) dX12_copyWorth_68 rfl rfl rfl ?_
  refine f_getc C tF_X12_35 rfl o101 cs101_20 (by decide) dX12_copyWorth_69 rfl ?_
  refine f_iconst C (v := 0) dX12_copyWorth_72 kc0 rfl ?_
  refine f_iald C (j := 0) a106 (vp_lit (by decide)) rfl dX12_copyWorth_73 rfl ?_
  refine f_icmp_ge C (t := 116) dX12_copyWorth_74 (by decide) rfl (fun hq_9 => ?_) (fun hq_9 => ?_)
  · replace h := Eq.mp (if_pos hq_9) h
    refine f_aload_n C (j := 0) dX12_copyWorth_116 rfl rfl rfl ?_
    refine f_getc C tF_X12_35 rfl o101 cs101_20 (by decide) dX12_copyWorth_117 rfl ?_
    refine f_iconst C (v := 0) dX12_copyWorth_120 kc0 rfl ?_
    refine f_iald C (j := 0) a106 (vp_lit (by decide)) rfl dX12_copyWorth_121 rfl ?_
    exact f_iret C dX12_copyWorth_122 h
  · replace h := Eq.mp (if_neg hq_9) h
    refine f_aload_n C (j := 0) dX12_copyWorth_77 rfl rfl rfl ?_
    refine f_getc C tF_X12_20 rfl o101 cs101_6 (by decide) dX12_copyWorth_78 rfl ?_
    refine f_bipush C (v := 60) dX12_copyWorth_81 kb60 rfl ?_
    refine f_iload_n C (j := 1) dX12_copyWorth_83 rfl rfl rfl ?_
    refine f_imul C dX12_copyWorth_84 rfl ?_
    refine f_iload_n C (j := 3) dX12_copyWorth_85 rfl rfl rfl ?_
    refine f_iadd C dX12_copyWorth_86 rfl ?_
    refine f_iload_n C (j := 2) dX12_copyWorth_87 rfl rfl rfl ?_
    refine f_iload_n C (j := 3) dX12_copyWorth_88 rfl rfl rfl ?_
    refine f_callSi C (As := fun B => [.int x2, .int x3]) (c_X12_has  _ _ _ _ h) tM_X12_113 tT_X12_has tN_X12 tC_X12_has 2 dd_X12_has rfl (by decide) (by decide) rfl (Nat.le_of_ble_eq_true rfl) dX12_copyWorth_89 rfl (fun r_11 σ_10 h => ?_)
    refine f_if_eq C (t := 108) dX12_copyWorth_92 (by decide) rfl (fun hq_12 => ?_) (fun hq_12 => ?_)
    · replace h := Eq.mp (if_pos hq_12) h
      refine f_lconst C (v := 0) dX12_copyWorth_108 (by decide) rfl ?_
      obtain ⟨hi_13, h⟩ := h
      refine f_last C (j := tn ((60 * x1) + x3)) a104 hi_13 rfl dX12_copyWorth_109 rfl ?_
      obtain ⟨x3_14, hx_15⟩ : ∃ y : Int32, y = x3 + 1 := ⟨_, rfl⟩
      replace h := h x3_14 hx_15
      refine f_iinc C (j := 3) (v := x3_14) (lv2 := [(3, .int x3_14), (0, .ref (B + 101)), (1, .int x1), (2, .int x2)]) dX12_copyWorth_110 rfl hx_15.symm (by decide) rfl rfl ?_
      refine f_goto C (t := 67) dX12_copyWorth_113 (by decide) ?_
      refine f_lv C (lv2 := [(0, .ref (B + 101)), (1, .int x1), (2, .int x2), (3, .int x3_14)]) [1, 2, 3, 0] rfl ?_
      exact hK67 _ _ h
    · replace h := Eq.mp (if_neg hq_12) h
      refine f_aload_n C (j := 0) dX12_copyWorth_95 rfl rfl rfl ?_
      refine f_getc C tF_X12_35 rfl o101 cs101_20 (by decide) dX12_copyWorth_96 rfl ?_
      refine f_bipush C (v := 8) dX12_copyWorth_99 kb8 rfl ?_
      refine f_iload_n C (j := 3) dX12_copyWorth_101 rfl rfl rfl ?_
      refine f_iadd C dX12_copyWorth_102 rfl ?_
      obtain ⟨hi_16, h⟩ := h
      refine f_iald C (j := tn (8 + x3)) a106 hi_16 rfl dX12_copyWorth_103 rfl ?_
      refine f_i2l C dX12_copyWorth_104 rfl ?_
      refine f_goto C (t := 109) dX12_copyWorth_105 (by decide) ?_
      obtain ⟨hi_17, h⟩ := h
      refine f_last C (j := tn ((60 * x1) + x3)) a104 hi_17 rfl dX12_copyWorth_109 rfl ?_
      obtain ⟨x3_18, hx_19⟩ : ∃ y : Int32, y = x3 + 1 := ⟨_, rfl⟩
      replace h := h x3_18 hx_19
      refine f_iinc C (j := 3) (v := x3_18) (lv2 := [(3, .int x3_18), (0, .ref (B + 101)), (1, .int x1), (2, .int x2)]) dX12_copyWorth_110 rfl hx_19.symm (by decide) rfl rfl ?_
      refine f_goto C (t := 67) dX12_copyWorth_113 (by decide) ?_
      refine f_lv C (lv2 := [(0, .ref (B + 101)), (1, .int x1), (2, .int x2), (3, .int x3_18)]) [1, 2, 3, 0] rfl ?_
      exact hK67 _ _ h
def w_X12_copyWorth (x1 : Int32) (σ : Sto) (P : Int32 → Sto → Prop) : Prop :=
  w_X12_isTray x1 (si (si σ 101 1 0) 101 0 0) (fun r_2 σ_1 => (if r_2 = 0 then w_X12_refuse 1 σ_1 (fun r_25 σ_24 => P r_25 σ_24) else vp_in x1 4 ∧ (if 0 ≤ (gi σ_1 103 (tn x1)) then (if (gi σ_1 106 0) ≤ (gi σ_1 103 (tn x1)) then w_X12_now σ_1 (fun r_8 σ_7 => Lp (fun (K : Int32 × Sto → Prop) s => w_X12_copyWorth_67 K x1 r_8 s.1 s.2 P) (0, σ_7)) else w_X12_refuse 4 σ_1 (fun r_21 σ_20 => P r_21 σ_20)) else w_X12_refuse 3 σ_1 (fun r_23 σ_22 => P r_23 σ_22))))
theorem s_X12_copyWorth {B : Nat} {E : Nat → List (Nat × Value) → List Value → Sto → Prop} {P : Int32 → Sto → Prop} (C : Cy B E RX12 cX12_copyWorth 4 (some .int) 4 89 (Zm (QFi P))) (x1 : Int32) (σ : Sto) (h : w_X12_copyWorth x1 σ P) : E 0 [(0, .ref (B + 101)), (1, .int x1)] [] σ := by
  unfold w_X12_copyWorth at h
  refine f_aload_n C (j := 0) dX12_copyWorth_0 rfl rfl rfl ?_
  refine f_iconst C (v := 0) dX12_copyWorth_1 kc0 rfl ?_
  refine f_puti C tF_X12_74 fm_12_1 rfl o101 dX12_copyWorth_2 rfl ?_
  refine f_aload_n C (j := 0) dX12_copyWorth_5 rfl rfl rfl ?_
  refine f_iconst C (v := 0) dX12_copyWorth_6 kc0 rfl ?_
  refine f_puti C tF_X12_77 fm_12_0 rfl o101 dX12_copyWorth_7 rfl ?_
  refine f_aload_n C (j := 0) dX12_copyWorth_10 rfl rfl rfl ?_
  refine f_iload_n C (j := 1) dX12_copyWorth_11 rfl rfl rfl ?_
  refine f_callVi C (a := 101) (ci := 12) (As := fun B => [.int x1]) o101 rfl (c_X12_isTray  _ _ _ h) tM_X12_348 tI_X12_isTray tS_X12_isTray tN_X12 tC_X12_isTray 1 dd_X12_isTray rfl (by decide) (by decide) rfl (Nat.le_of_ble_eq_true rfl) dX12_copyWorth_12 rfl (fun r_2 σ_1 h => ?_)
  refine f_if_ne C (t := 24) dX12_copyWorth_15 (by decide) rfl (fun hq_3 => ?_) (fun hq_3 => ?_)
  · replace h := Eq.mp (if_neg hq_3) h
    refine f_aload_n C (j := 0) dX12_copyWorth_24 rfl rfl rfl ?_
    refine f_getc C tF_X12_17 rfl o101 cs101_5 (by decide) dX12_copyWorth_25 rfl ?_
    refine f_iload_n C (j := 1) dX12_copyWorth_28 rfl rfl rfl ?_
    obtain ⟨hi_4, h⟩ := h
    refine f_iald C (j := tn x1) a103 hi_4 rfl dX12_copyWorth_29 rfl ?_
    refine f_if_ge C (t := 39) dX12_copyWorth_30 (by decide) rfl (fun hq_5 => ?_) (fun hq_5 => ?_)
    · replace h := Eq.mp (if_pos hq_5) h
      refine f_aload_n C (j := 0) dX12_copyWorth_39 rfl rfl rfl ?_
      refine f_getc C tF_X12_17 rfl o101 cs101_5 (by decide) dX12_copyWorth_40 rfl ?_
      refine f_iload_n C (j := 1) dX12_copyWorth_43 rfl rfl rfl ?_
      refine f_iald C (j := tn x1) a103 hi_4 rfl dX12_copyWorth_44 rfl ?_
      refine f_aload_n C (j := 0) dX12_copyWorth_45 rfl rfl rfl ?_
      refine f_getc C tF_X12_35 rfl o101 cs101_20 (by decide) dX12_copyWorth_46 rfl ?_
      refine f_iconst C (v := 0) dX12_copyWorth_49 kc0 rfl ?_
      refine f_iald C (j := 0) a106 (vp_lit (by decide)) rfl dX12_copyWorth_50 rfl ?_
      refine f_icmp_ge C (t := 60) dX12_copyWorth_51 (by decide) rfl (fun hq_6 => ?_) (fun hq_6 => ?_)
      · replace h := Eq.mp (if_pos hq_6) h
        refine f_aload_n C (j := 0) dX12_copyWorth_60 rfl rfl rfl ?_
        refine f_callVi C (a := 101) (ci := 12) (As := fun B => []) o101 rfl (c_X12_now   _ _ h) tM_X12_330 tI_X12_now tS_X12_now tN_X12 tC_X12_now 0 dd_X12_now rfl (by decide) (by decide) rfl (Nat.le_of_ble_eq_true rfl) dX12_copyWorth_61 rfl (fun r_8 σ_7 h => ?_)
        refine f_istore_n C (lv2 := [(2, .int r_8), (0, .ref (B + 101)), (1, .int x1)]) dX12_copyWorth_64 rfl (by decide) rfl rfl ?_
        refine f_iconst C (v := 0) dX12_copyWorth_65 kc0 rfl ?_
        refine f_istore_n C (lv2 := [(3, .int 0), (2, .int r_8), (0, .ref (B + 101)), (1, .int x1)]) dX12_copyWorth_66 rfl (by decide) rfl rfl ?_
        refine f_lv C (lv2 := [(0, .ref (B + 101)), (1, .int x1), (2, .int r_8), (3, .int 0)]) [2, 3, 1, 0] rfl ?_
        exact Lp_sound (fun s : Int32 × Sto => E 67 [(0, .ref (B + 101)), (1, .int x1), (2, .int r_8), (3, .int s.1)] [] s.2) h (fun K s hK h => s_X12_copyWorth_67 C x1 r_8 s.1 K (fun x3 σ hk => hK (x3, σ) hk) s.2 h)
      · replace h := Eq.mp (if_neg hq_6) h
        refine f_aload_n C (j := 0) dX12_copyWorth_54 rfl rfl rfl ?_
        refine f_iconst C (v := 4) dX12_copyWorth_55 kc4 rfl ?_
        refine f_callVi C (a := 101) (ci := 12) (As := fun B => [.int 4]) o101 rfl (c_X12_refuse  _ _ _ h) tM_X12_327 tI_X12_refuse tS_X12_refuse tN_X12 tC_X12_refuse 1 dd_X12_refuse rfl (by decide) (by decide) rfl (Nat.le_of_ble_eq_true rfl) dX12_copyWorth_56 rfl (fun r_21 σ_20 h => ?_)
        exact f_iret C dX12_copyWorth_59 h
    · replace h := Eq.mp (if_neg hq_5) h
      refine f_aload_n C (j := 0) dX12_copyWorth_33 rfl rfl rfl ?_
      refine f_iconst C (v := 3) dX12_copyWorth_34 kc3 rfl ?_
      refine f_callVi C (a := 101) (ci := 12) (As := fun B => [.int 3]) o101 rfl (c_X12_refuse  _ _ _ h) tM_X12_327 tI_X12_refuse tS_X12_refuse tN_X12 tC_X12_refuse 1 dd_X12_refuse rfl (by decide) (by decide) rfl (Nat.le_of_ble_eq_true rfl) dX12_copyWorth_35 rfl (fun r_23 σ_22 h => ?_)
      exact f_iret C dX12_copyWorth_38 h
  · replace h := Eq.mp (if_pos hq_3) h
    refine f_aload_n C (j := 0) dX12_copyWorth_18 rfl rfl rfl ?_
    refine f_iconst C (v := 1) dX12_copyWorth_19 kc1 rfl ?_
    refine f_callVi C (a := 101) (ci := 12) (As := fun B => [.int 1]) o101 rfl (c_X12_refuse  _ _ _ h) tM_X12_327 tI_X12_refuse tS_X12_refuse tN_X12 tC_X12_refuse 1 dd_X12_refuse rfl (by decide) (by decide) rfl (Nat.le_of_ble_eq_true rfl) dX12_copyWorth_20 rfl (fun r_25 σ_24 h => ?_)
    exact f_iret C dX12_copyWorth_23 h
theorem c_X12_copyWorth (x1 : Int32) (σ : Sto) (P : Int32 → Sto → Prop) (h : w_X12_copyWorth x1 σ P) : Ct yX12_copyWorth cX12_copyWorth 4 (some .int) 4 89 (fun B => [.ref (B + 101), .int x1]) σ (QFi P) := Ct.of (by decide) (fun _ => Nat.le_of_ble_eq_true rfl) (fun B E C => s_X12_copyWorth C x1 σ h)
def w_X12_counts_39 (K20 : Int32 × Sto → Prop) (K39 : Int32 × Int32 × Int32 × Sto → Prop) (x1 : Int32) (a2 : Nat) (n2 : Nat) (x3 : Int32) (x4 : Int32) (x5 : Int32) (x6 : Int32) (σ : Sto) (P : Sto → Prop) : Prop :=
  (if (gi σ 106 0) ≤ x6 then (if x4 < 0 then ∀ x3_5 : Int32, x3_5 = x3 + 1 → K20 (x3_5, σ) else isA a2 1 n2 ∧ vp_in x4 n2 ∧ ∀ x3_9 : Int32, x3_9 = x3 + 1 → K20 (x3_9, si σ a2 (tn x4) ((gi σ a2 (tn x4)) + 1))) else w_X12_has x1 x6 σ (fun r_12 σ_11 => (if r_12 = 0 then ∀ x6_14 : Int32, x6_14 = x6 + 1 → K39 (x4, x5, x6_14, σ_11) else vp_in ((58 + (12 * x3)) + x6) 2105 ∧ (if x5 < (gi σ_11 106 (tn ((58 + (12 * x3)) + x6))) then ∀ x5_18 : Int32, x5_18 = gi σ_11 106 (tn ((58 + (12 * x3)) + x6)) → ∀ x6_20 : Int32, x6_20 = x6 + 1 → K39 (x6, x5_18, x6_20, σ_11) else ∀ x6_22 : Int32, x6_22 = x6 + 1 → K39 (x4, x5, x6_22, σ_11)))))
theorem s_X12_counts_39 {B : Nat} {E : Nat → List (Nat × Value) → List Value → Sto → Prop} {P : Sto → Prop} (C : Cy B E RX12 cX12_counts 7 none 1 21 (Zm (QFv P))) (x1 : Int32) (a2 : Nat) (n2 : Nat) (x3 : Int32) (x4 : Int32) (x5 : Int32) (x6 : Int32) (K20 : Int32 × Sto → Prop) (K39 : Int32 × Int32 × Int32 × Sto → Prop) (hK20 : ∀ (x3 : Int32) (σ : Sto), K20 (x3, σ) → E 20 [(0, .ref (B + 101)), (1, .int x1), (2, .ref (B + a2)), (3, .int x3)] [] σ) (hK39 : ∀ (x4 : Int32) (x5 : Int32) (x6 : Int32) (σ : Sto), K39 (x4, x5, x6, σ) → E 39 [(0, .ref (B + 101)), (1, .int x1), (2, .ref (B + a2)), (3, .int x3), (4, .int x4), (5, .int x5), (6, .int x6)] [] σ) (σ : Sto) (h : w_X12_counts_39 K20 K39 x1 a2 n2 x3 x4 x5 x6 σ P) : E 39 [(0, .ref (B + 101)), (1, .int x1), (2, .ref (B + a2)), (3, .int x3), (4, .int x4), (5, .int x5), (6, .int x6)] [] σ := by
  unfold w_X12_counts_39 at h
  refine f_iload C (j := 6) dX12_counts_39 rfl rfl ?_
  refine f_aload_n C (j := 0) dX12_counts_41 rfl rfl rfl ?_
  refine f_getc C tF_X12_35 rfl o101 cs101_20 (by decide) dX12_counts_42 rfl ?_
  refine f_iconst C (v := 0) dX12_counts_45 kc0 rfl ?_
  refine f_iald C (j := 0) a106 (vp_lit (by decide)) rfl dX12_counts_46 rfl ?_
  refine f_icmp_ge C (t := 109) dX12_counts_47 (by decide) rfl (fun hq_3 => ?_) (fun hq_3 => ?_)
  · replace h := Eq.mp (if_pos hq_3) h
    refine f_iload C (j := 4) dX12_counts_109 rfl rfl ?_
    refine f_if_lt C (t := 122) dX12_counts_111 (by decide) rfl (fun hq_4 => ?_) (fun hq_4 => ?_)
    · replace h := Eq.mp (if_pos hq_4) h
      obtain ⟨x3_5, hx_6⟩ : ∃ y : Int32, y = x3 + 1 := ⟨_, rfl⟩
      replace h := h x3_5 hx_6
      refine f_iinc C (j := 3) (v := x3_5) (lv2 := [(3, .int x3_5), (0, .ref (B + 101)), (1, .int x1), (2, .ref (B + a2)), (4, .int x4), (5, .int x5), (6, .int x6)]) dX12_counts_122 rfl hx_6.symm (by decide) rfl rfl ?_
      refine f_goto C (t := 20) dX12_counts_125 (by decide) ?_
      refine f_lv C (lv2 := [(0, .ref (B + 101)), (1, .int x1), (2, .ref (B + a2)), (3, .int x3_5)]) [1, 2, 3, 0] rfl ?_
      exact hK20 _ _ h
    · replace h := Eq.mp (if_neg hq_4) h
      refine f_aload_n C (j := 2) dX12_counts_114 rfl rfl rfl ?_
      refine f_iload C (j := 4) dX12_counts_115 rfl rfl ?_
      refine f_dup2 C dX12_counts_117 rfl rfl rfl ?_
      obtain ⟨ha_7, h⟩ := h
      obtain ⟨hi_8, h⟩ := h
      refine f_iald C (j := tn x4) ha_7 hi_8 rfl dX12_counts_118 rfl ?_
      refine f_iconst C (v := 1) dX12_counts_119 kc1 rfl ?_
      refine f_iadd C dX12_counts_120 rfl ?_
      refine f_iast C (j := tn x4) ha_7 hi_8 rfl dX12_counts_121 rfl ?_
      obtain ⟨x3_9, hx_10⟩ : ∃ y : Int32, y = x3 + 1 := ⟨_, rfl⟩
      replace h := h x3_9 hx_10
      refine f_iinc C (j := 3) (v := x3_9) (lv2 := [(3, .int x3_9), (0, .ref (B + 101)), (1, .int x1), (2, .ref (B + a2)), (4, .int x4), (5, .int x5), (6, .int x6)]) dX12_counts_122 rfl hx_10.symm (by decide) rfl rfl ?_
      refine f_goto C (t := 20) dX12_counts_125 (by decide) ?_
      refine f_lv C (lv2 := [(0, .ref (B + 101)), (1, .int x1), (2, .ref (B + a2)), (3, .int x3_9)]) [1, 2, 3, 0] rfl ?_
      exact hK20 _ _ h
  · replace h := Eq.mp (if_neg hq_3) h
    refine f_iload_n C (j := 1) dX12_counts_50 rfl rfl rfl ?_
    refine f_iload C (j := 6) dX12_counts_51 rfl rfl ?_
    refine f_callSi C (As := fun B => [.int x1, .int x6]) (c_X12_has  _ _ _ _ h) tM_X12_113 tT_X12_has tN_X12 tC_X12_has 2 dd_X12_has rfl (by decide) (by decide) rfl (Nat.le_of_ble_eq_true rfl) dX12_counts_53 rfl (fun r_12 σ_11 h => ?_)
    refine f_if_eq C (t := 103) dX12_counts_56 (by decide) rfl (fun hq_13 => ?_) (fun hq_13 => ?_)
    · replace h := Eq.mp (if_pos hq_13) h
      obtain ⟨x6_14, hx_15⟩ : ∃ y : Int32, y = x6 + 1 := ⟨_, rfl⟩
      replace h := h x6_14 hx_15
      refine f_iinc C (j := 6) (v := x6_14) (lv2 := [(6, .int x6_14), (0, .ref (B + 101)), (1, .int x1), (2, .ref (B + a2)), (3, .int x3), (4, .int x4), (5, .int x5)]) dX12_counts_103 rfl hx_15.symm (by decide) rfl rfl ?_
      refine f_goto C (t := 39) dX12_counts_106 (by decide) ?_
      refine f_lv C (lv2 := [(0, .ref (B + 101)), (1, .int x1), (2, .ref (B + a2)), (3, .int x3), (4, .int x4), (5, .int x5), (6, .int x6_14)]) [1, 2, 3, 4, 5, 6, 0] rfl ?_
      exact hK39 _ _ _ _ h
    · replace h := Eq.mp (if_neg hq_13) h
      refine f_aload_n C (j := 0) dX12_counts_59 rfl rfl rfl ?_
      refine f_getc C tF_X12_35 rfl o101 cs101_20 (by decide) dX12_counts_60 rfl ?_
      refine f_bipush C (v := 58) dX12_counts_63 kb58 rfl ?_
      refine f_bipush C (v := 12) dX12_counts_65 kb12 rfl ?_
      refine f_iload_n C (j := 3) dX12_counts_67 rfl rfl rfl ?_
      refine f_imul C dX12_counts_68 rfl ?_
      refine f_iadd C dX12_counts_69 rfl ?_
      refine f_iload C (j := 6) dX12_counts_70 rfl rfl ?_
      refine f_iadd C dX12_counts_72 rfl ?_
      obtain ⟨hi_16, h⟩ := h
      refine f_iald C (j := tn ((58 + (12 * x3)) + x6)) a106 hi_16 rfl dX12_counts_73 rfl ?_
      refine f_iload C (j := 5) dX12_counts_74 rfl rfl ?_
      refine f_icmp_gt C (t := 82) dX12_counts_76 (by decide) rfl (fun hq_17 => ?_) (fun hq_17 => ?_)
      · replace h := Eq.mp (if_pos hq_17) h
        refine f_aload_n C (j := 0) dX12_counts_82 rfl rfl rfl ?_
        refine f_getc C tF_X12_35 rfl o101 cs101_20 (by decide) dX12_counts_83 rfl ?_
        refine f_bipush C (v := 58) dX12_counts_86 kb58 rfl ?_
        refine f_bipush C (v := 12) dX12_counts_88 kb12 rfl ?_
        refine f_iload_n C (j := 3) dX12_counts_90 rfl rfl rfl ?_
        refine f_imul C dX12_counts_91 rfl ?_
        refine f_iadd C dX12_counts_92 rfl ?_
        refine f_iload C (j := 6) dX12_counts_93 rfl rfl ?_
        refine f_iadd C dX12_counts_95 rfl ?_
        refine f_iald C (j := tn ((58 + (12 * x3)) + x6)) a106 hi_16 rfl dX12_counts_96 rfl ?_
        refine f_name (fun x5_18 hx_19 => ?_)
        replace h := h x5_18 hx_19
        refine f_istore C (lv2 := [(5, .int x5_18), (0, .ref (B + 101)), (1, .int x1), (2, .ref (B + a2)), (3, .int x3), (4, .int x4), (6, .int x6)]) dX12_counts_97 (by decide) rfl rfl ?_
        refine f_iload C (j := 6) dX12_counts_99 rfl rfl ?_
        refine f_istore C (lv2 := [(4, .int x6), (5, .int x5_18), (0, .ref (B + 101)), (1, .int x1), (2, .ref (B + a2)), (3, .int x3), (6, .int x6)]) dX12_counts_101 (by decide) rfl rfl ?_
        obtain ⟨x6_20, hx_21⟩ : ∃ y : Int32, y = x6 + 1 := ⟨_, rfl⟩
        replace h := h x6_20 hx_21
        refine f_iinc C (j := 6) (v := x6_20) (lv2 := [(6, .int x6_20), (4, .int x6), (5, .int x5_18), (0, .ref (B + 101)), (1, .int x1), (2, .ref (B + a2)), (3, .int x3)]) dX12_counts_103 rfl hx_21.symm (by decide) rfl rfl ?_
        refine f_goto C (t := 39) dX12_counts_106 (by decide) ?_
        refine f_lv C (lv2 := [(0, .ref (B + 101)), (1, .int x1), (2, .ref (B + a2)), (3, .int x3), (4, .int x6), (5, .int x5_18), (6, .int x6_20)]) [3, 4, 5, 6, 1, 2, 0] rfl ?_
        exact hK39 _ _ _ _ h
      · replace h := Eq.mp (if_neg hq_17) h
        refine f_goto C (t := 103) dX12_counts_79 (by decide) ?_
        obtain ⟨x6_22, hx_23⟩ : ∃ y : Int32, y = x6 + 1 := ⟨_, rfl⟩
        replace h := h x6_22 hx_23
        refine f_iinc C (j := 6) (v := x6_22) (lv2 := [(6, .int x6_22), (0, .ref (B + 101)), (1, .int x1), (2, .ref (B + a2)), (3, .int x3), (4, .int x4), (5, .int x5)]) dX12_counts_103 rfl hx_23.symm (by decide) rfl rfl ?_
        refine f_goto C (t := 39) dX12_counts_106 (by decide) ?_
        refine f_lv C (lv2 := [(0, .ref (B + 101)), (1, .int x1), (2, .ref (B + a2)), (3, .int x3), (4, .int x4), (5, .int x5), (6, .int x6_22)]) [1, 2, 3, 4, 5, 6, 0] rfl ?_
        exact hK39 _ _ _ _ h
def w_X12_counts_20 (K20 : Int32 × Sto → Prop) (x1 : Int32) (a2 : Nat) (n2 : Nat) (x3 : Int32) (σ : Sto) (P : Sto → Prop) : Prop :=
  (if (gi σ 106 3) ≤ x3 then P σ else Lp (fun (K : Int32 × Int32 × Int32 × Sto → Prop) s => w_X12_counts_39 K20 K x1 a2 n2 x3 s.1 s.2.1 s.2.2.1 s.2.2.2 P) ((-1), 0, 0, σ))
theorem s_X12_counts_20 {B : Nat} {E : Nat → List (Nat × Value) → List Value → Sto → Prop} {P : Sto → Prop} (C : Cy B E RX12 cX12_counts 7 none 1 21 (Zm (QFv P))) (x1 : Int32) (a2 : Nat) (n2 : Nat) (x3 : Int32) (K20 : Int32 × Sto → Prop) (hK20 : ∀ (x3 : Int32) (σ : Sto), K20 (x3, σ) → E 20 [(0, .ref (B + 101)), (1, .int x1), (2, .ref (B + a2)), (3, .int x3)] [] σ) (σ : Sto) (h : w_X12_counts_20 K20 x1 a2 n2 x3 σ P) : E 20 [(0, .ref (B + 101)), (1, .int x1), (2, .ref (B + a2)), (3, .int x3)] [] σ := by
  unfold w_X12_counts_20 at h
  refine f_iload_n C (j := 3) dX12_counts_20 rfl rfl rfl ?_
  refine f_aload_n C (j := 0) dX12_counts_21 rfl rfl rfl ?_
  refine f_getc C tF_X12_35 rfl o101 cs101_20 (by decide) dX12_counts_22 rfl ?_
  refine f_iconst C (v := 3) dX12_counts_25 kc3 rfl ?_
  refine f_iald C (j := 3) a106 (vp_lit (by decide)) rfl dX12_counts_26 rfl ?_
  refine f_icmp_ge C (t := 128) dX12_counts_27 (by decide) rfl (fun hq_2 => ?_) (fun hq_2 => ?_)
  · replace h := Eq.mp (if_pos hq_2) h
    exact f_vret C dX12_counts_128 h
  · replace h := Eq.mp (if_neg hq_2) h
    refine f_iconst C (v := (-1)) dX12_counts_30 kcm1 rfl ?_
    refine f_istore C (lv2 := [(4, .int (-1)), (0, .ref (B + 101)), (1, .int x1), (2, .ref (B + a2)), (3, .int x3)]) dX12_counts_31 (by decide) rfl rfl ?_
    refine f_iconst C (v := 0) dX12_counts_33 kc0 rfl ?_
    refine f_istore C (lv2 := [(5, .int 0), (4, .int (-1)), (0, .ref (B + 101)), (1, .int x1), (2, .ref (B + a2)), (3, .int x3)]) dX12_counts_34 (by decide) rfl rfl ?_
    refine f_iconst C (v := 0) dX12_counts_36 kc0 rfl ?_
    refine f_istore C (lv2 := [(6, .int 0), (5, .int 0), (4, .int (-1)), (0, .ref (B + 101)), (1, .int x1), (2, .ref (B + a2)), (3, .int x3)]) dX12_counts_37 (by decide) rfl rfl ?_
    refine f_lv C (lv2 := [(0, .ref (B + 101)), (1, .int x1), (2, .ref (B + a2)), (3, .int x3), (4, .int (-1)), (5, .int 0), (6, .int 0)]) [3, 4, 5, 6, 2, 1, 0] rfl ?_
    exact Lp_sound (fun s : Int32 × Int32 × Int32 × Sto => E 39 [(0, .ref (B + 101)), (1, .int x1), (2, .ref (B + a2)), (3, .int x3), (4, .int s.1), (5, .int s.2.1), (6, .int s.2.2.1)] [] s.2.2.2) h (fun K s hK h => s_X12_counts_39 C x1 a2 n2 x3 s.1 s.2.1 s.2.2.1 K20 K hK20 (fun x4 x5 x6 σ hk => hK (x4, x5, x6, σ) hk) s.2.2.2 h)
def w_X12_counts_2 (K2 : Int32 × Sto → Prop) (x1 : Int32) (a2 : Nat) (n2 : Nat) (x3 : Int32) (σ : Sto) (P : Sto → Prop) : Prop :=
  (if 12 ≤ x3 then Lp (fun (K : Int32 × Sto → Prop) s => w_X12_counts_20 K x1 a2 n2 s.1 s.2 P) (0, σ) else isA a2 1 n2 ∧ vp_in x3 n2 ∧ ∀ x3_26 : Int32, x3_26 = x3 + 1 → K2 (x3_26, si σ a2 (tn x3) 0))
theorem s_X12_counts_2 {B : Nat} {E : Nat → List (Nat × Value) → List Value → Sto → Prop} {P : Sto → Prop} (C : Cy B E RX12 cX12_counts 7 none 1 21 (Zm (QFv P))) (x1 : Int32) (a2 : Nat) (n2 : Nat) (x3 : Int32) (K2 : Int32 × Sto → Prop) (hK2 : ∀ (x3 : Int32) (σ : Sto), K2 (x3, σ) → E 2 [(0, .ref (B + 101)), (1, .int x1), (2, .ref (B + a2)), (3, .int x3)] [] σ) (σ : Sto) (h : w_X12_counts_2 K2 x1 a2 n2 x3 σ P) : E 2 [(0, .ref (B + 101)), (1, .int x1), (2, .ref (B + a2)), (3, .int x3)] [] σ := by
  unfold w_X12_counts_2 at h
  refine f_iload_n C (j := 3) dX12_counts_2 rfl rfl rfl ?_
  refine f_bipush C (v := 12) dX12_counts_3 kb12 rfl ?_
  refine f_icmp_ge C (t := 18) dX12_counts_5 (by decide) rfl (fun hq_1 => ?_) (fun hq_1 => ?_)
  · replace h := Eq.mp (if_pos hq_1) h
    refine f_iconst C (v := 0) dX12_counts_18 kc0 rfl ?_
    refine f_istore_n C (lv2 := [(3, .int 0), (0, .ref (B + 101)), (1, .int x1), (2, .ref (B + a2))]) dX12_counts_19 rfl (by decide) rfl rfl ?_
    refine f_lv C (lv2 := [(0, .ref (B + 101)), (1, .int x1), (2, .ref (B + a2)), (3, .int 0)]) [1, 2, 3, 0] rfl ?_
    exact Lp_sound (fun s : Int32 × Sto => E 20 [(0, .ref (B + 101)), (1, .int x1), (2, .ref (B + a2)), (3, .int s.1)] [] s.2) h (fun K s hK h => s_X12_counts_20 C x1 a2 n2 s.1 K (fun x3 σ hk => hK (x3, σ) hk) s.2 h)
  · replace h := Eq.mp (if_neg hq_1) h
    refine f_aload_n C (j := 2) dX12_counts_8 rfl rfl rfl ?_
    refine f_iload_n C (j := 3) dX12_counts_9 rfl rfl rfl ?_
    refine f_iconst C (v := 0) dX12_counts_10 kc0 rfl ?_
    obtain ⟨ha_24, h⟩ := h
    obtain ⟨hi_25, h⟩ := h
    refine f_iast C (j := tn x3) ha_24 hi_25 rfl dX12_counts_11 rfl ?_
    obtain ⟨x3_26, hx_27⟩ : ∃ y : Int32, y = x3 + 1 := ⟨_, rfl⟩
    replace h := h x3_26 hx_27
    refine f_iinc C (j := 3) (v := x3_26) (lv2 := [(3, .int x3_26), (0, .ref (B + 101)), (1, .int x1), (2, .ref (B + a2))]) dX12_counts_12 rfl hx_27.symm (by decide) rfl rfl ?_
    refine f_goto C (t := 2) dX12_counts_15 (by decide) ?_
    refine f_lv C (lv2 := [(0, .ref (B + 101)), (1, .int x1), (2, .ref (B + a2)), (3, .int x3_26)]) [1, 2, 3, 0] rfl ?_
    exact hK2 _ _ h
def w_X12_counts (x1 : Int32) (a2 : Nat) (n2 : Nat) (σ : Sto) (P : Sto → Prop) : Prop :=
  Lp (fun (K : Int32 × Sto → Prop) s => w_X12_counts_2 K x1 a2 n2 s.1 s.2 P) (0, σ)
theorem s_X12_counts {B : Nat} {E : Nat → List (Nat × Value) → List Value → Sto → Prop} {P : Sto → Prop} (C : Cy B E RX12 cX12_counts 7 none 1 21 (Zm (QFv P))) (x1 : Int32) (a2 : Nat) (n2 : Nat) (σ : Sto) (h : w_X12_counts x1 a2 n2 σ P) : E 0 [(0, .ref (B + 101)), (1, .int x1), (2, .ref (B + a2))] [] σ := by
  unfold w_X12_counts at h
  refine f_iconst C (v := 0) dX12_counts_0 kc0 rfl ?_
  refine f_istore_n C (lv2 := [(3, .int 0), (0, .ref (B + 101)), (1, .int x1), (2, .ref (B + a2))]) dX12_counts_1 rfl (by decide) rfl rfl ?_
  refine f_lv C (lv2 := [(0, .ref (B + 101)), (1, .int x1), (2, .ref (B + a2)), (3, .int 0)]) [1, 2, 3, 0] rfl ?_
  exact Lp_sound (fun s : Int32 × Sto => E 2 [(0, .ref (B + 101)), (1, .int x1), (2, .ref (B + a2)), (3, .int s.1)] [] s.2) h (fun K s hK h => s_X12_counts_2 C x1 a2 n2 s.1 K (fun x3 σ hk => hK (x3, σ) hk) s.2 h)
theorem c_X12_counts (x1 : Int32) (a2 : Nat) (n2 : Nat) (σ : Sto) (P : Sto → Prop) (h : w_X12_counts x1 a2 n2 σ P) : Ct yX12_counts cX12_counts 7 none 1 21 (fun B => [.ref (B + 101), .int x1, .ref (B + a2)]) σ (QFv P) := Ct.of (by decide) (fun _ => Nat.le_of_ble_eq_true rfl) (fun B E C => s_X12_counts C x1 a2 n2 σ h)
def w_X12_sums_35 (K23 : Int32 × Sto → Prop) (K35 : Int32 × Sto → Prop) (x1 : Int32) (x2 : Int32) (x3 : Int32) (σ : Sto) (P : Sto → Prop) : Prop :=
  (if (gi σ 106 0) ≤ x3 then ∀ x2_4 : Int32, x2_4 = x2 + 1 → K23 (x2_4, σ) else vp_in x3 12 ∧ w_X12_has x1 x3 σ (fun r_8 σ_7 => (if r_8 = 0 then ∀ x3_10 : Int32, x3_10 = x3 + 1 → K35 (x3_10, si σ_7 109 (tn x3) ((gi σ 109 (tn x3)) + 0)) else vp_in ((58 + (12 * x2)) + x3) 2105 ∧ ∀ x3_13 : Int32, x3_13 = x3 + 1 → K35 (x3_13, si σ_7 109 (tn x3) ((gi σ 109 (tn x3)) + (gi σ_7 106 (tn ((58 + (12 * x2)) + x3))))))))
theorem s_X12_sums_35 {B : Nat} {E : Nat → List (Nat × Value) → List Value → Sto → Prop} {P : Sto → Prop} (C : Cy B E RX12 cX12_sums 4 none 1 21 (Zm (QFv P))) (x1 : Int32) (x2 : Int32) (x3 : Int32) (K23 : Int32 × Sto → Prop) (K35 : Int32 × Sto → Prop) (hK23 : ∀ (x2 : Int32) (σ : Sto), K23 (x2, σ) → E 23 [(0, .ref (B + 101)), (1, .int x1), (2, .int x2)] [] σ) (hK35 : ∀ (x3 : Int32) (σ : Sto), K35 (x3, σ) → E 35 [(0, .ref (B + 101)), (1, .int x1), (2, .int x2), (3, .int x3)] [] σ) (σ : Sto) (h : w_X12_sums_35 K23 K35 x1 x2 x3 σ P) : E 35 [(0, .ref (B + 101)), (1, .int x1), (2, .int x2), (3, .int x3)] [] σ := by
  unfold w_X12_sums_35 at h
  refine f_iload_n C (j := 3) dX12_sums_35 rfl rfl rfl ?_
  refine f_aload_n C (j := 0) dX12_sums_36 rfl rfl rfl ?_
  refine f_getc C tF_X12_35 rfl o101 cs101_20 (by decide) dX12_sums_37 rfl ?_
  refine f_iconst C (v := 0) dX12_sums_40 kc0 rfl ?_
  refine f_iald C (j := 0) a106 (vp_lit (by decide)) rfl dX12_sums_41 rfl ?_
  refine f_icmp_ge C (t := 86) dX12_sums_42 (by decide) rfl (fun hq_3 => ?_) (fun hq_3 => ?_)
  · replace h := Eq.mp (if_pos hq_3) h
    obtain ⟨x2_4, hx_5⟩ : ∃ y : Int32, y = x2 + 1 := ⟨_, rfl⟩
    replace h := h x2_4 hx_5
    refine f_iinc C (j := 2) (v := x2_4) (lv2 := [(2, .int x2_4), (0, .ref (B + 101)), (1, .int x1), (3, .int x3)]) dX12_sums_86 rfl hx_5.symm (by decide) rfl rfl ?_
    refine f_goto C (t := 23) dX12_sums_89 (by decide) ?_
    refine f_lv C (lv2 := [(0, .ref (B + 101)), (1, .int x1), (2, .int x2_4)]) [1, 2, 0] rfl ?_
    exact hK23 _ _ h
  · replace h := Eq.mp (if_neg hq_3) h
    refine f_aload_n C (j := 0) dX12_sums_45 rfl rfl rfl ?_
    refine f_getc C tF_X12_44 rfl o101 cs101_26 (by decide) dX12_sums_46 rfl ?_
    refine f_iload_n C (j := 3) dX12_sums_49 rfl rfl rfl ?_
    refine f_dup2 C dX12_sums_50 rfl rfl rfl ?_
    obtain ⟨hi_6, h⟩ := h
    refine f_iald C (j := tn x3) a109 hi_6 rfl dX12_sums_51 rfl ?_
    refine f_iload_n C (j := 1) dX12_sums_52 rfl rfl rfl ?_
    refine f_iload_n C (j := 3) dX12_sums_53 rfl rfl rfl ?_
    refine f_callSi C (As := fun B => [.int x1, .int x3]) (c_X12_has  _ _ _ _ h) tM_X12_113 tT_X12_has tN_X12 tC_X12_has 2 dd_X12_has rfl (by decide) (by decide) rfl (Nat.le_of_ble_eq_true rfl) dX12_sums_54 rfl (fun r_8 σ_7 h => ?_)
    refine f_if_eq C (t := 77) dX12_sums_57 (by decide) rfl (fun hq_9 => ?_) (fun hq_9 => ?_)
    · replace h := Eq.mp (if_pos hq_9) h
      refine f_iconst C (v := 0) dX12_sums_77 kc0 rfl ?_
      refine f_iadd C dX12_sums_78 rfl ?_
      refine f_iast C (j := tn x3) a109 hi_6 rfl dX12_sums_79 rfl ?_
      obtain ⟨x3_10, hx_11⟩ : ∃ y : Int32, y = x3 + 1 := ⟨_, rfl⟩
      replace h := h x3_10 hx_11
      refine f_iinc C (j := 3) (v := x3_10) (lv2 := [(3, .int x3_10), (0, .ref (B + 101)), (1, .int x1), (2, .int x2)]) dX12_sums_80 rfl hx_11.symm (by decide) rfl rfl ?_
      refine f_goto C (t := 35) dX12_sums_83 (by decide) ?_
      refine f_lv C (lv2 := [(0, .ref (B + 101)), (1, .int x1), (2, .int x2), (3, .int x3_10)]) [1, 2, 3, 0] rfl ?_
      exact hK35 _ _ h
    · replace h := Eq.mp (if_neg hq_9) h
      refine f_aload_n C (j := 0) dX12_sums_60 rfl rfl rfl ?_
      refine f_getc C tF_X12_35 rfl o101 cs101_20 (by decide) dX12_sums_61 rfl ?_
      refine f_bipush C (v := 58) dX12_sums_64 kb58 rfl ?_
      refine f_bipush C (v := 12) dX12_sums_66 kb12 rfl ?_
      refine f_iload_n C (j := 2) dX12_sums_68 rfl rfl rfl ?_
      refine f_imul C dX12_sums_69 rfl ?_
      refine f_iadd C dX12_sums_70 rfl ?_
      refine f_iload_n C (j := 3) dX12_sums_71 rfl rfl rfl ?_
      refine f_iadd C dX12_sums_72 rfl ?_
      obtain ⟨hi_12, h⟩ := h
      refine f_iald C (j := tn ((58 + (12 * x2)) + x3)) a106 hi_12 rfl dX12_sums_73 rfl ?_
      refine f_goto C (t := 78) dX12_sums_74 (by decide) ?_
      refine f_iadd C dX12_sums_78 rfl ?_
      refine f_iast C (j := tn x3) a109 hi_6 rfl dX12_sums_79 rfl ?_
      obtain ⟨x3_13, hx_14⟩ : ∃ y : Int32, y = x3 + 1 := ⟨_, rfl⟩
      replace h := h x3_13 hx_14
      refine f_iinc C (j := 3) (v := x3_13) (lv2 := [(3, .int x3_13), (0, .ref (B + 101)), (1, .int x1), (2, .int x2)]) dX12_sums_80 rfl hx_14.symm (by decide) rfl rfl ?_
      refine f_goto C (t := 35) dX12_sums_83 (by decide) ?_
      refine f_lv C (lv2 := [(0, .ref (B + 101)), (1, .int x1), (2, .int x2), (3, .int x3_13)]) [1, 2, 3, 0] rfl ?_
      exact hK35 _ _ h
def w_X12_sums_23 (K23 : Int32 × Sto → Prop) (x1 : Int32) (x2 : Int32) (σ : Sto) (P : Sto → Prop) : Prop :=
  (if (gi σ 106 3) ≤ x2 then P σ else Lp (fun (K : Int32 × Sto → Prop) s => w_X12_sums_35 K23 K x1 x2 s.1 s.2 P) (0, σ))
theorem s_X12_sums_23 {B : Nat} {E : Nat → List (Nat × Value) → List Value → Sto → Prop} {P : Sto → Prop} (C : Cy B E RX12 cX12_sums 4 none 1 21 (Zm (QFv P))) (x1 : Int32) (x2 : Int32) (K23 : Int32 × Sto → Prop) (hK23 : ∀ (x2 : Int32) (σ : Sto), K23 (x2, σ) → E 23 [(0, .ref (B + 101)), (1, .int x1), (2, .int x2)] [] σ) (σ : Sto) (h : w_X12_sums_23 K23 x1 x2 σ P) : E 23 [(0, .ref (B + 101)), (1, .int x1), (2, .int x2)] [] σ := by
  unfold w_X12_sums_23 at h
  refine f_iload_n C (j := 2) dX12_sums_23 rfl rfl rfl ?_
  refine f_aload_n C (j := 0) dX12_sums_24 rfl rfl rfl ?_
  refine f_getc C tF_X12_35 rfl o101 cs101_20 (by decide) dX12_sums_25 rfl ?_
  refine f_iconst C (v := 3) dX12_sums_28 kc3 rfl ?_
  refine f_iald C (j := 3) a106 (vp_lit (by decide)) rfl dX12_sums_29 rfl ?_
  refine f_icmp_ge C (t := 92) dX12_sums_30 (by decide) rfl (fun hq_2 => ?_) (fun hq_2 => ?_)
  · replace h := Eq.mp (if_pos hq_2) h
    exact f_vret C dX12_sums_92 h
  · replace h := Eq.mp (if_neg hq_2) h
    refine f_iconst C (v := 0) dX12_sums_33 kc0 rfl ?_
    refine f_istore_n C (lv2 := [(3, .int 0), (0, .ref (B + 101)), (1, .int x1), (2, .int x2)]) dX12_sums_34 rfl (by decide) rfl rfl ?_
    refine f_lv C (lv2 := [(0, .ref (B + 101)), (1, .int x1), (2, .int x2), (3, .int 0)]) [1, 2, 3, 0] rfl ?_
    exact Lp_sound (fun s : Int32 × Sto => E 35 [(0, .ref (B + 101)), (1, .int x1), (2, .int x2), (3, .int s.1)] [] s.2) h (fun K s hK h => s_X12_sums_35 C x1 x2 s.1 K23 K hK23 (fun x3 σ hk => hK (x3, σ) hk) s.2 h)
def w_X12_sums_2 (K2 : Int32 × Sto → Prop) (x1 : Int32) (x2 : Int32) (σ : Sto) (P : Sto → Prop) : Prop :=
  (if 12 ≤ x2 then Lp (fun (K : Int32 × Sto → Prop) s => w_X12_sums_23 K x1 s.1 s.2 P) (0, σ) else vp_in x2 12 ∧ ∀ x2_16 : Int32, x2_16 = x2 + 1 → K2 (x2_16, si σ 109 (tn x2) 0))
theorem s_X12_sums_2 {B : Nat} {E : Nat → List (Nat × Value) → List Value → Sto → Prop} {P : Sto → Prop} (C : Cy B E RX12 cX12_sums 4 none 1 21 (Zm (QFv P))) (x1 : Int32) (x2 : Int32) (K2 : Int32 × Sto → Prop) (hK2 : ∀ (x2 : Int32) (σ : Sto), K2 (x2, σ) → E 2 [(0, .ref (B + 101)), (1, .int x1), (2, .int x2)] [] σ) (σ : Sto) (h : w_X12_sums_2 K2 x1 x2 σ P) : E 2 [(0, .ref (B + 101)), (1, .int x1), (2, .int x2)] [] σ := by
  unfold w_X12_sums_2 at h
  refine f_iload_n C (j := 2) dX12_sums_2 rfl rfl rfl ?_
  refine f_bipush C (v := 12) dX12_sums_3 kb12 rfl ?_
  refine f_icmp_ge C (t := 21) dX12_sums_5 (by decide) rfl (fun hq_1 => ?_) (fun hq_1 => ?_)
  · replace h := Eq.mp (if_pos hq_1) h
    refine f_iconst C (v := 0) dX12_sums_21 kc0 rfl ?_
    refine f_istore_n C (lv2 := [(2, .int 0), (0, .ref (B + 101)), (1, .int x1)]) dX12_sums_22 rfl (by decide) rfl rfl ?_
    refine f_lv C (lv2 := [(0, .ref (B + 101)), (1, .int x1), (2, .int 0)]) [1, 2, 0] rfl ?_
    exact Lp_sound (fun s : Int32 × Sto => E 23 [(0, .ref (B + 101)), (1, .int x1), (2, .int s.1)] [] s.2) h (fun K s hK h => s_X12_sums_23 C x1 s.1 K (fun x2 σ hk => hK (x2, σ) hk) s.2 h)
  · replace h := Eq.mp (if_neg hq_1) h
    refine f_aload_n C (j := 0) dX12_sums_8 rfl rfl rfl ?_
    refine f_getc C tF_X12_44 rfl o101 cs101_26 (by decide) dX12_sums_9 rfl ?_
    refine f_iload_n C (j := 2) dX12_sums_12 rfl rfl rfl ?_
    refine f_iconst C (v := 0) dX12_sums_13 kc0 rfl ?_
    obtain ⟨hi_15, h⟩ := h
    refine f_iast C (j := tn x2) a109 hi_15 rfl dX12_sums_14 rfl ?_
    obtain ⟨x2_16, hx_17⟩ : ∃ y : Int32, y = x2 + 1 := ⟨_, rfl⟩
    replace h := h x2_16 hx_17
    refine f_iinc C (j := 2) (v := x2_16) (lv2 := [(2, .int x2_16), (0, .ref (B + 101)), (1, .int x1)]) dX12_sums_15 rfl hx_17.symm (by decide) rfl rfl ?_
    refine f_goto C (t := 2) dX12_sums_18 (by decide) ?_
    refine f_lv C (lv2 := [(0, .ref (B + 101)), (1, .int x1), (2, .int x2_16)]) [1, 2, 0] rfl ?_
    exact hK2 _ _ h
def w_X12_sums (x1 : Int32) (σ : Sto) (P : Sto → Prop) : Prop :=
  Lp (fun (K : Int32 × Sto → Prop) s => w_X12_sums_2 K x1 s.1 s.2 P) (0, σ)
theorem s_X12_sums {B : Nat} {E : Nat → List (Nat × Value) → List Value → Sto → Prop} {P : Sto → Prop} (C : Cy B E RX12 cX12_sums 4 none 1 21 (Zm (QFv P))) (x1 : Int32) (σ : Sto) (h : w_X12_sums x1 σ P) : E 0 [(0, .ref (B + 101)), (1, .int x1)] [] σ := by
  unfold w_X12_sums at h
  refine f_iconst C (v := 0) dX12_sums_0 kc0 rfl ?_
  refine f_istore_n C (lv2 := [(2, .int 0), (0, .ref (B + 101)), (1, .int x1)]) dX12_sums_1 rfl (by decide) rfl rfl ?_
  refine f_lv C (lv2 := [(0, .ref (B + 101)), (1, .int x1), (2, .int 0)]) [1, 2, 0] rfl ?_
  exact Lp_sound (fun s : Int32 × Sto => E 2 [(0, .ref (B + 101)), (1, .int x1), (2, .int s.1)] [] s.2) h (fun K s hK h => s_X12_sums_2 C x1 s.1 K (fun x2 σ hk => hK (x2, σ) hk) s.2 h)
theorem c_X12_sums (x1 : Int32) (σ : Sto) (P : Sto → Prop) (h : w_X12_sums x1 σ P) : Ct yX12_sums cX12_sums 4 none 1 21 (fun B => [.ref (B + 101), .int x1]) σ (QFv P) := Ct.of (by decide) (fun _ => Nat.le_of_ble_eq_true rfl) (fun B E C => s_X12_sums C x1 σ h)
def w_X12_mostVotes_4 (K4 : Int32 × Int32 × Sto → Prop) (x1 : Int32) (x2 : Int32) (σ : Sto) (P : Int32 → Sto → Prop) : Prop :=
  (if (gi σ 106 0) ≤ x2 then P x1 σ else vp_in x2 12 ∧ (if (gi σ 109 (tn x2)) ≤ 0 then ∀ x2_4 : Int32, x2_4 = x2 + 1 → K4 (x1, x2_4, σ) else (if x1 < 0 then ∀ x2_7 : Int32, x2_7 = x2 + 1 → K4 (x2, x2_7, σ) else vp_in x1 12 ∧ (if (gi σ 109 (tn x2)) ≤ (gi σ 109 (tn x1)) then ∀ x2_11 : Int32, x2_11 = x2 + 1 → K4 (x1, x2_11, σ) else ∀ x2_13 : Int32, x2_13 = x2 + 1 → K4 (x2, x2_13, σ)))))
theorem s_X12_mostVotes_4 {B : Nat} {E : Nat → List (Nat × Value) → List Value → Sto → Prop} {P : Int32 → Sto → Prop} (C : Cy B E RX12 cX12_mostVotes 3 (some .int) 0 0 (Zm (QFi P))) (x1 : Int32) (x2 : Int32) (K4 : Int32 × Int32 × Sto → Prop) (hK4 : ∀ (x1 : Int32) (x2 : Int32) (σ : Sto), K4 (x1, x2, σ) → E 4 [(0, .ref (B + 101)), (1, .int x1), (2, .int x2)] [] σ) (σ : Sto) (h : w_X12_mostVotes_4 K4 x1 x2 σ P) : E 4 [(0, .ref (B + 101)), (1, .int x1), (2, .int x2)] [] σ := by
  unfold w_X12_mostVotes_4 at h
  refine f_iload_n C (j := 2) dX12_mostVotes_4 rfl rfl rfl ?_
  refine f_aload_n C (j := 0) dX12_mostVotes_5 rfl rfl rfl ?_
  refine f_getc C tF_X12_35 rfl o101 cs101_20 (by decide) dX12_mostVotes_6 rfl ?_
  refine f_iconst C (v := 0) dX12_mostVotes_9 kc0 rfl ?_
  refine f_iald C (j := 0) a106 (vp_lit (by decide)) rfl dX12_mostVotes_10 rfl ?_
  refine f_icmp_ge C (t := 50) dX12_mostVotes_11 (by decide) rfl (fun hq_1 => ?_) (fun hq_1 => ?_)
  · replace h := Eq.mp (if_pos hq_1) h
    refine f_iload_n C (j := 1) dX12_mostVotes_50 rfl rfl rfl ?_
    exact f_iret C dX12_mostVotes_51 h
  · replace h := Eq.mp (if_neg hq_1) h
    refine f_aload_n C (j := 0) dX12_mostVotes_14 rfl rfl rfl ?_
    refine f_getc C tF_X12_44 rfl o101 cs101_26 (by decide) dX12_mostVotes_15 rfl ?_
    refine f_iload_n C (j := 2) dX12_mostVotes_18 rfl rfl rfl ?_
    obtain ⟨hi_2, h⟩ := h
    refine f_iald C (j := tn x2) a109 hi_2 rfl dX12_mostVotes_19 rfl ?_
    refine f_if_le C (t := 44) dX12_mostVotes_20 (by decide) rfl (fun hq_3 => ?_) (fun hq_3 => ?_)
    · replace h := Eq.mp (if_pos hq_3) h
      obtain ⟨x2_4, hx_5⟩ : ∃ y : Int32, y = x2 + 1 := ⟨_, rfl⟩
      replace h := h x2_4 hx_5
      refine f_iinc C (j := 2) (v := x2_4) (lv2 := [(2, .int x2_4), (0, .ref (B + 101)), (1, .int x1)]) dX12_mostVotes_44 rfl hx_5.symm (by decide) rfl rfl ?_
      refine f_goto C (t := 4) dX12_mostVotes_47 (by decide) ?_
      refine f_lv C (lv2 := [(0, .ref (B + 101)), (1, .int x1), (2, .int x2_4)]) [1, 2, 0] rfl ?_
      exact hK4 _ _ _ h
    · replace h := Eq.mp (if_neg hq_3) h
      refine f_iload_n C (j := 1) dX12_mostVotes_23 rfl rfl rfl ?_
      refine f_if_lt C (t := 42) dX12_mostVotes_24 (by decide) rfl (fun hq_6 => ?_) (fun hq_6 => ?_)
      · replace h := Eq.mp (if_pos hq_6) h
        refine f_iload_n C (j := 2) dX12_mostVotes_42 rfl rfl rfl ?_
        refine f_istore_n C (lv2 := [(1, .int x2), (0, .ref (B + 101)), (2, .int x2)]) dX12_mostVotes_43 rfl (by decide) rfl rfl ?_
        obtain ⟨x2_7, hx_8⟩ : ∃ y : Int32, y = x2 + 1 := ⟨_, rfl⟩
        replace h := h x2_7 hx_8
        refine f_iinc C (j := 2) (v := x2_7) (lv2 := [(2, .int x2_7), (1, .int x2), (0, .ref (B + 101))]) dX12_mostVotes_44 rfl hx_8.symm (by decide) rfl rfl ?_
        refine f_goto C (t := 4) dX12_mostVotes_47 (by decide) ?_
        refine f_lv C (lv2 := [(0, .ref (B + 101)), (1, .int x2), (2, .int x2_7)]) [2, 1, 0] rfl ?_
        exact hK4 _ _ _ h
      · replace h := Eq.mp (if_neg hq_6) h
        refine f_aload_n C (j := 0) dX12_mostVotes_27 rfl rfl rfl ?_
        refine f_getc C tF_X12_44 rfl o101 cs101_26 (by decide) dX12_mostVotes_28 rfl ?_
        refine f_iload_n C (j := 2) dX12_mostVotes_31 rfl rfl rfl ?_
        refine f_iald C (j := tn x2) a109 hi_2 rfl dX12_mostVotes_32 rfl ?_
        refine f_aload_n C (j := 0) dX12_mostVotes_33 rfl rfl rfl ?_
        refine f_getc C tF_X12_44 rfl o101 cs101_26 (by decide) dX12_mostVotes_34 rfl ?_
        refine f_iload_n C (j := 1) dX12_mostVotes_37 rfl rfl rfl ?_
        obtain ⟨hi_9, h⟩ := h
        refine f_iald C (j := tn x1) a109 hi_9 rfl dX12_mostVotes_38 rfl ?_
        refine f_icmp_le C (t := 44) dX12_mostVotes_39 (by decide) rfl (fun hq_10 => ?_) (fun hq_10 => ?_)
        · replace h := Eq.mp (if_pos hq_10) h
          obtain ⟨x2_11, hx_12⟩ : ∃ y : Int32, y = x2 + 1 := ⟨_, rfl⟩
          replace h := h x2_11 hx_12
          refine f_iinc C (j := 2) (v := x2_11) (lv2 := [(2, .int x2_11), (0, .ref (B + 101)), (1, .int x1)]) dX12_mostVotes_44 rfl hx_12.symm (by decide) rfl rfl ?_
          refine f_goto C (t := 4) dX12_mostVotes_47 (by decide) ?_
          refine f_lv C (lv2 := [(0, .ref (B + 101)), (1, .int x1), (2, .int x2_11)]) [1, 2, 0] rfl ?_
          exact hK4 _ _ _ h
        · replace h := Eq.mp (if_neg hq_10) h
          refine f_iload_n C (j := 2) dX12_mostVotes_42 rfl rfl rfl ?_
          refine f_istore_n C (lv2 := [(1, .int x2), (0, .ref (B + 101)), (2, .int x2)]) dX12_mostVotes_43 rfl (by decide) rfl rfl ?_
          obtain ⟨x2_13, hx_14⟩ : ∃ y : Int32, y = x2 + 1 := ⟨_, rfl⟩
          replace h := h x2_13 hx_14
          refine f_iinc C (j := 2) (v := x2_13) (lv2 := [(2, .int x2_13), (1, .int x2), (0, .ref (B + 101))]) dX12_mostVotes_44 rfl hx_14.symm (by decide) rfl rfl ?_
          refine f_goto C (t := 4) dX12_mostVotes_47 (by decide) ?_
          refine f_lv C (lv2 := [(0, .ref (B + 101)), (1, .int x2), (2, .int x2_13)]) [2, 1, 0] rfl ?_
          exact hK4 _ _ _ h
def w_X12_mostVotes (σ : Sto) (P : Int32 → Sto → Prop) : Prop :=
  Lp (fun (K : Int32 × Int32 × Sto → Prop) s => w_X12_mostVotes_4 K s.1 s.2.1 s.2.2 P) ((-1), 0, σ)
theorem s_X12_mostVotes {B : Nat} {E : Nat → List (Nat × Value) → List Value → Sto → Prop} {P : Int32 → Sto → Prop} (C : Cy B E RX12 cX12_mostVotes 3 (some .int) 0 0 (Zm (QFi P))) (σ : Sto) (h : w_X12_mostVotes σ P) : E 0 [(0, .ref (B + 101))] [] σ := by
  unfold w_X12_mostVotes at h
  refine f_iconst C (v := (-1)) dX12_mostVotes_0 kcm1 rfl ?_
  refine f_istore_n C (lv2 := [(1, .int (-1)), (0, .ref (B + 101))]) dX12_mostVotes_1 rfl (by decide) rfl rfl ?_
  refine f_iconst C (v := 0) dX12_mostVotes_2 kc0 rfl ?_
  refine f_istore_n C (lv2 := [(2, .int 0), (1, .int (-1)), (0, .ref (B + 101))]) dX12_mostVotes_3 rfl (by decide) rfl rfl ?_
  refine f_lv C (lv2 := [(0, .ref (B + 101)), (1, .int (-1)), (2, .int 0)]) [2, 1, 0] rfl ?_
  exact Lp_sound (fun s : Int32 × Int32 × Sto => E 4 [(0, .ref (B + 101)), (1, .int s.1), (2, .int s.2.1)] [] s.2.2) h (fun K s hK h => s_X12_mostVotes_4 C s.1 s.2.1 K (fun x1 x2 σ hk => hK (x1, x2, σ) hk) s.2.2 h)
theorem c_X12_mostVotes (σ : Sto) (P : Int32 → Sto → Prop) (h : w_X12_mostVotes σ P) : Ct yX12_mostVotes cX12_mostVotes 3 (some .int) 0 0 (fun B => [.ref (B + 101)]) σ (QFi P) := Ct.of (by decide) (fun _ => Nat.le_of_ble_eq_true rfl) (fun B E C => s_X12_mostVotes C σ h)
def w_X12_lastOne_28 (K4 : Int32 × Int32 × Sto → Prop) (K28 : Int32 × Int32 × Int32 × Sto → Prop) (x2 : Int32) (x3 : Int32) (x4 : Int32) (x5 : Int32) (x6 : Int32) (σ : Sto) (P : Int32 → Sto → Prop) : Prop :=
  (if (gi σ 106 0) ≤ x6 then (if 2 ≤ x4 then ∀ x2_6 : Int32, x2_6 = x2 &&& (~~~(1 <<< (x5 &&& 31))) → ∀ x3_8 : Int32, x3_8 = x3 + 1 → K4 (x2_6, x3_8, σ) else P x5 σ) else w_X12_has x2 x6 σ (fun r_11 σ_10 => (if r_11 = 0 then ∀ x6_30 : Int32, x6_30 = x6 + 1 → K28 (x4, x5, x6_30, σ_10) else vp_in x6 12 ∧ ∀ σ_14 : Sto, σ_14 = si σ_10 109 (tn x6) (gi σ_10 110 (tn x6)) → (if (gi σ_14 110 (tn x6)) = 0 then ∀ x6_28 : Int32, x6_28 = x6 + 1 → K28 (x4, x5, x6_28, σ_14) else ∀ x4_17 : Int32, x4_17 = x4 + 1 → (if x5 < 0 then ∀ x6_20 : Int32, x6_20 = x6 + 1 → K28 (x4_17, x6, x6_20, σ_14) else vp_in x5 12 ∧ (if (gi σ_14 110 (tn x5)) < (gi σ_14 110 (tn x6)) then ∀ x6_24 : Int32, x6_24 = x6 + 1 → K28 (x4_17, x5, x6_24, σ_14) else ∀ x6_26 : Int32, x6_26 = x6 + 1 → K28 (x4_17, x6, x6_26, σ_14)))))))
theorem s_X12_lastOne_28 {B : Nat} {E : Nat → List (Nat × Value) → List Value → Sto → Prop} {P : Int32 → Sto → Prop} (C : Cy B E RX12 cX12_lastOne 7 (some .int) 2 47 (Zm (QFi P))) (x2 : Int32) (x3 : Int32) (x4 : Int32) (x5 : Int32) (x6 : Int32) (K4 : Int32 × Int32 × Sto → Prop) (K28 : Int32 × Int32 × Int32 × Sto → Prop) (hK4 : ∀ (x2 : Int32) (x3 : Int32) (σ : Sto), K4 (x2, x3, σ) → E 4 [(0, .ref (B + 101)), (2, .int x2), (3, .int x3)] [] σ) (hK28 : ∀ (x4 : Int32) (x5 : Int32) (x6 : Int32) (σ : Sto), K28 (x4, x5, x6, σ) → E 28 [(0, .ref (B + 101)), (2, .int x2), (3, .int x3), (4, .int x4), (5, .int x5), (6, .int x6)] [] σ) (σ : Sto) (h : w_X12_lastOne_28 K4 K28 x2 x3 x4 x5 x6 σ P) : E 28 [(0, .ref (B + 101)), (2, .int x2), (3, .int x3), (4, .int x4), (5, .int x5), (6, .int x6)] [] σ := by
  unfold w_X12_lastOne_28 at h
  refine f_iload C (j := 5) dX12_lastOne_28 rfl rfl ?_
  refine f_aload_n C (j := 0) dX12_lastOne_30 rfl rfl rfl ?_
  refine f_getc C tF_X12_35 rfl o101 cs101_20 (by decide) dX12_lastOne_31 rfl ?_
  refine f_iconst C (v := 0) dX12_lastOne_34 kc0 rfl ?_
  refine f_iald C (j := 0) a106 (vp_lit (by decide)) rfl dX12_lastOne_35 rfl ?_
  refine f_icmp_ge C (t := 113) dX12_lastOne_36 (by decide) rfl (fun hq_4 => ?_) (fun hq_4 => ?_)
  · replace h := Eq.mp (if_pos hq_4) h
    refine f_iload C (j := 3) dX12_lastOne_113 rfl rfl ?_
    refine f_iconst C (v := 2) dX12_lastOne_115 kc2 rfl ?_
    refine f_icmp_ge C (t := 122) dX12_lastOne_116 (by decide) rfl (fun hq_5 => ?_) (fun hq_5 => ?_)
    · replace h := Eq.mp (if_pos hq_5) h
      refine f_iload_n C (j := 1) dX12_lastOne_122 rfl rfl rfl ?_
      refine f_iconst C (v := 1) dX12_lastOne_123 kc1 rfl ?_
      refine f_iload C (j := 4) dX12_lastOne_124 rfl rfl ?_
      refine f_ishl C dX12_lastOne_126 rfl ?_
      refine f_iconst C (v := (-1)) dX12_lastOne_127 kcm1 rfl ?_
      refine f_inot C dX12_lastOne_128 rfl ?_
      refine f_iand C dX12_lastOne_129 rfl ?_
      refine f_name (fun x2_6 hx_7 => ?_)
      replace h := h x2_6 hx_7
      refine f_istore_n C (lv2 := [(2, .int x2_6), (0, .ref (B + 101)), (3, .int x3), (4, .int x4), (5, .int x5), (6, .int x6)]) dX12_lastOne_130 rfl (by decide) rfl rfl ?_
      obtain ⟨x3_8, hx_9⟩ : ∃ y : Int32, y = x3 + 1 := ⟨_, rfl⟩
      replace h := h x3_8 hx_9
      refine f_iinc C (j := 2) (v := x3_8) (lv2 := [(3, .int x3_8), (2, .int x2_6), (0, .ref (B + 101)), (4, .int x4), (5, .int x5), (6, .int x6)]) dX12_lastOne_131 rfl hx_9.symm (by decide) rfl rfl ?_
      refine f_goto C (t := 4) dX12_lastOne_134 (by decide) ?_
      refine f_lv C (lv2 := [(0, .ref (B + 101)), (2, .int x2_6), (3, .int x3_8)]) [2, 1, 0] rfl ?_
      exact hK4 _ _ _ h
    · replace h := Eq.mp (if_neg hq_5) h
      refine f_iload C (j := 4) dX12_lastOne_119 rfl rfl ?_
      exact f_iret C dX12_lastOne_121 h
  · replace h := Eq.mp (if_neg hq_4) h
    refine f_iload_n C (j := 1) dX12_lastOne_39 rfl rfl rfl ?_
    refine f_iload C (j := 5) dX12_lastOne_40 rfl rfl ?_
    refine f_callSi C (As := fun B => [.int x2, .int x6]) (c_X12_has  _ _ _ _ h) tM_X12_113 tT_X12_has tN_X12 tC_X12_has 2 dd_X12_has rfl (by decide) (by decide) rfl (Nat.le_of_ble_eq_true rfl) dX12_lastOne_42 rfl (fun r_11 σ_10 h => ?_)
    refine f_if_ne C (t := 51) dX12_lastOne_45 (by decide) rfl (fun hq_12 => ?_) (fun hq_12 => ?_)
    · replace h := Eq.mp (if_neg hq_12) h
      refine f_aload_n C (j := 0) dX12_lastOne_51 rfl rfl rfl ?_
      refine f_getc C tF_X12_44 rfl o101 cs101_26 (by decide) dX12_lastOne_52 rfl ?_
      refine f_iload C (j := 5) dX12_lastOne_55 rfl rfl ?_
      refine f_aload_n C (j := 0) dX12_lastOne_57 rfl rfl rfl ?_
      refine f_getc C tF_X12_47 rfl o101 cs101_27 (by decide) dX12_lastOne_58 rfl ?_
      refine f_iload C (j := 5) dX12_lastOne_61 rfl rfl ?_
      obtain ⟨hi_13, h⟩ := h
      refine f_iald C (j := tn x6) a110 hi_13 rfl dX12_lastOne_63 rfl ?_
      refine f_iast C (j := tn x6) a109 hi_13 rfl dX12_lastOne_64 rfl ?_
      refine f_aload_n C (j := 0) dX12_lastOne_65 rfl rfl rfl ?_
      refine f_getc C tF_X12_47 rfl o101 cs101_27 (by decide) dX12_lastOne_66 rfl ?_
      refine f_iload C (j := 5) dX12_lastOne_69 rfl rfl ?_
      refine f_names (fun σ_14 hσ_15 => ?_)
      replace h := h σ_14 hσ_15
      refine f_iald C (j := tn x6) a110 hi_13 rfl dX12_lastOne_71 rfl ?_
      refine f_if_ne C (t := 78) dX12_lastOne_72 (by decide) rfl (fun hq_16 => ?_) (fun hq_16 => ?_)
      · replace h := Eq.mp (if_neg hq_16) h
        obtain ⟨x4_17, hx_18⟩ : ∃ y : Int32, y = x4 + 1 := ⟨_, rfl⟩
        replace h := h x4_17 hx_18
        refine f_iinc C (j := 3) (v := x4_17) (lv2 := [(4, .int x4_17), (0, .ref (B + 101)), (2, .int x2), (3, .int x3), (5, .int x5), (6, .int x6)]) dX12_lastOne_78 rfl hx_18.symm (by decide) rfl rfl ?_
        refine f_iload C (j := 4) dX12_lastOne_81 rfl rfl ?_
        refine f_if_lt C (t := 103) dX12_lastOne_83 (by decide) rfl (fun hq_19 => ?_) (fun hq_19 => ?_)
        · replace h := Eq.mp (if_pos hq_19) h
          refine f_iload C (j := 5) dX12_lastOne_103 rfl rfl ?_
          refine f_istore C (lv2 := [(5, .int x6), (4, .int x4_17), (0, .ref (B + 101)), (2, .int x2), (3, .int x3), (6, .int x6)]) dX12_lastOne_105 (by decide) rfl rfl ?_
          obtain ⟨x6_20, hx_21⟩ : ∃ y : Int32, y = x6 + 1 := ⟨_, rfl⟩
          replace h := h x6_20 hx_21
          refine f_iinc C (j := 5) (v := x6_20) (lv2 := [(6, .int x6_20), (5, .int x6), (4, .int x4_17), (0, .ref (B + 101)), (2, .int x2), (3, .int x3)]) dX12_lastOne_107 rfl hx_21.symm (by decide) rfl rfl ?_
          refine f_goto C (t := 28) dX12_lastOne_110 (by decide) ?_
          refine f_lv C (lv2 := [(0, .ref (B + 101)), (2, .int x2), (3, .int x3), (4, .int x4_17), (5, .int x6), (6, .int x6_20)]) [3, 4, 5, 2, 1, 0] rfl ?_
          exact hK28 _ _ _ _ h
        · replace h := Eq.mp (if_neg hq_19) h
          refine f_aload_n C (j := 1) dX12_lastOne_86 rfl rfl rfl ?_
          refine f_getc C tF_X12_47 rfl o101 cs101_27 (by decide) dX12_lastOne_87 rfl ?_
          refine f_iload C (j := 5) dX12_lastOne_90 rfl rfl ?_
          refine f_iald C (j := tn x6) a110 hi_13 rfl dX12_lastOne_92 rfl ?_
          refine f_aload_n C (j := 1) dX12_lastOne_93 rfl rfl rfl ?_
          refine f_getc C tF_X12_47 rfl o101 cs101_27 (by decide) dX12_lastOne_94 rfl ?_
          refine f_iload C (j := 4) dX12_lastOne_97 rfl rfl ?_
          obtain ⟨hi_22, h⟩ := h
          refine f_iald C (j := tn x5) a110 hi_22 rfl dX12_lastOne_99 rfl ?_
          refine f_icmp_gt C (t := 107) dX12_lastOne_100 (by decide) rfl (fun hq_23 => ?_) (fun hq_23 => ?_)
          · replace h := Eq.mp (if_pos hq_23) h
            obtain ⟨x6_24, hx_25⟩ : ∃ y : Int32, y = x6 + 1 := ⟨_, rfl⟩
            replace h := h x6_24 hx_25
            refine f_iinc C (j := 5) (v := x6_24) (lv2 := [(6, .int x6_24), (4, .int x4_17), (0, .ref (B + 101)), (2, .int x2), (3, .int x3), (5, .int x5)]) dX12_lastOne_107 rfl hx_25.symm (by decide) rfl rfl ?_
            refine f_goto C (t := 28) dX12_lastOne_110 (by decide) ?_
            refine f_lv C (lv2 := [(0, .ref (B + 101)), (2, .int x2), (3, .int x3), (4, .int x4_17), (5, .int x5), (6, .int x6_24)]) [2, 3, 4, 1, 5, 0] rfl ?_
            exact hK28 _ _ _ _ h
          · replace h := Eq.mp (if_neg hq_23) h
            refine f_iload C (j := 5) dX12_lastOne_103 rfl rfl ?_
            refine f_istore C (lv2 := [(5, .int x6), (4, .int x4_17), (0, .ref (B + 101)), (2, .int x2), (3, .int x3), (6, .int x6)]) dX12_lastOne_105 (by decide) rfl rfl ?_
            obtain ⟨x6_26, hx_27⟩ : ∃ y : Int32, y = x6 + 1 := ⟨_, rfl⟩
            replace h := h x6_26 hx_27
            refine f_iinc C (j := 5) (v := x6_26) (lv2 := [(6, .int x6_26), (5, .int x6), (4, .int x4_17), (0, .ref (B + 101)), (2, .int x2), (3, .int x3)]) dX12_lastOne_107 rfl hx_27.symm (by decide) rfl rfl ?_
            refine f_goto C (t := 28) dX12_lastOne_110 (by decide) ?_
            refine f_lv C (lv2 := [(0, .ref (B + 101)), (2, .int x2), (3, .int x3), (4, .int x4_17), (5, .int x6), (6, .int x6_26)]) [3, 4, 5, 2, 1, 0] rfl ?_
            exact hK28 _ _ _ _ h
      · replace h := Eq.mp (if_pos hq_16) h
        refine f_goto C (t := 107) dX12_lastOne_75 (by decide) ?_
        obtain ⟨x6_28, hx_29⟩ : ∃ y : Int32, y = x6 + 1 := ⟨_, rfl⟩
        replace h := h x6_28 hx_29
        refine f_iinc C (j := 5) (v := x6_28) (lv2 := [(6, .int x6_28), (0, .ref (B + 101)), (2, .int x2), (3, .int x3), (4, .int x4), (5, .int x5)]) dX12_lastOne_107 rfl hx_29.symm (by decide) rfl rfl ?_
        refine f_goto C (t := 28) dX12_lastOne_110 (by decide) ?_
        refine f_lv C (lv2 := [(0, .ref (B + 101)), (2, .int x2), (3, .int x3), (4, .int x4), (5, .int x5), (6, .int x6_28)]) [1, 2, 3, 4, 5, 0] rfl ?_
        exact hK28 _ _ _ _ h
    · replace h := Eq.mp (if_pos hq_12) h
      refine f_goto C (t := 107) dX12_lastOne_48 (by decide) ?_
      obtain ⟨x6_30, hx_31⟩ : ∃ y : Int32, y = x6 + 1 := ⟨_, rfl⟩
      replace h := h x6_30 hx_31
      refine f_iinc C (j := 5) (v := x6_30) (lv2 := [(6, .int x6_30), (0, .ref (B + 101)), (2, .int x2), (3, .int x3), (4, .int x4), (5, .int x5)]) dX12_lastOne_107 rfl hx_31.symm (by decide) rfl rfl ?_
      refine f_goto C (t := 28) dX12_lastOne_110 (by decide) ?_
      refine f_lv C (lv2 := [(0, .ref (B + 101)), (2, .int x2), (3, .int x3), (4, .int x4), (5, .int x5), (6, .int x6_30)]) [1, 2, 3, 4, 5, 0] rfl ?_
      exact hK28 _ _ _ _ h
def w_X12_lastOne_4 (K4 : Int32 × Int32 × Sto → Prop) (x2 : Int32) (x3 : Int32) (σ : Sto) (P : Int32 → Sto → Prop) : Prop :=
  (if 12 < x3 then P (-1) σ else w_X12_counts x2 110 12 σ (fun σ_2 => Lp (fun (K : Int32 × Int32 × Int32 × Sto → Prop) s => w_X12_lastOne_28 K4 K x2 x3 s.1 s.2.1 s.2.2.1 s.2.2.2 P) (0, (-1), 0, σ_2)))
theorem s_X12_lastOne_4 {B : Nat} {E : Nat → List (Nat × Value) → List Value → Sto → Prop} {P : Int32 → Sto → Prop} (C : Cy B E RX12 cX12_lastOne 7 (some .int) 2 47 (Zm (QFi P))) (x2 : Int32) (x3 : Int32) (K4 : Int32 × Int32 × Sto → Prop) (hK4 : ∀ (x2 : Int32) (x3 : Int32) (σ : Sto), K4 (x2, x3, σ) → E 4 [(0, .ref (B + 101)), (2, .int x2), (3, .int x3)] [] σ) (σ : Sto) (h : w_X12_lastOne_4 K4 x2 x3 σ P) : E 4 [(0, .ref (B + 101)), (2, .int x2), (3, .int x3)] [] σ := by
  unfold w_X12_lastOne_4 at h
  refine f_iload_n C (j := 2) dX12_lastOne_4 rfl rfl rfl ?_
  refine f_bipush C (v := 12) dX12_lastOne_5 kb12 rfl ?_
  refine f_icmp_gt C (t := 137) dX12_lastOne_7 (by decide) rfl (fun hq_1 => ?_) (fun hq_1 => ?_)
  · replace h := Eq.mp (if_pos hq_1) h
    refine f_iconst C (v := (-1)) dX12_lastOne_137 kcm1 rfl ?_
    exact f_iret C dX12_lastOne_138 h
  · replace h := Eq.mp (if_neg hq_1) h
    refine f_aload_n C (j := 0) dX12_lastOne_10 rfl rfl rfl ?_
    refine f_iload_n C (j := 1) dX12_lastOne_11 rfl rfl rfl ?_
    refine f_aload_n C (j := 0) dX12_lastOne_12 rfl rfl rfl ?_
    refine f_getc C tF_X12_47 rfl o101 cs101_27 (by decide) dX12_lastOne_13 rfl ?_
    refine f_callVv C (a := 101) (ci := 12) (As := fun B => [.int x2, .ref (B + 110)]) o101 rfl (c_X12_counts  _ _ _ _ _ h) tM_X12_351 tI_X12_counts tS_X12_counts tN_X12 tC_X12_counts 2 dd_X12_counts rfl (by decide) (by decide) rfl (Nat.le_of_ble_eq_true rfl) dX12_lastOne_16 rfl (fun σ_2 h => ?_)
    refine f_iconst C (v := 0) dX12_lastOne_19 kc0 rfl ?_
    refine f_istore C (lv2 := [(4, .int 0), (0, .ref (B + 101)), (2, .int x2), (3, .int x3)]) dX12_lastOne_20 (by decide) rfl rfl ?_
    refine f_iconst C (v := (-1)) dX12_lastOne_22 kcm1 rfl ?_
    refine f_istore C (lv2 := [(5, .int (-1)), (4, .int 0), (0, .ref (B + 101)), (2, .int x2), (3, .int x3)]) dX12_lastOne_23 (by decide) rfl rfl ?_
    refine f_iconst C (v := 0) dX12_lastOne_25 kc0 rfl ?_
    refine f_istore C (lv2 := [(6, .int 0), (5, .int (-1)), (4, .int 0), (0, .ref (B + 101)), (2, .int x2), (3, .int x3)]) dX12_lastOne_26 (by decide) rfl rfl ?_
    refine f_lv C (lv2 := [(0, .ref (B + 101)), (2, .int x2), (3, .int x3), (4, .int 0), (5, .int (-1)), (6, .int 0)]) [3, 4, 5, 2, 1, 0] rfl ?_
    exact Lp_sound (fun s : Int32 × Int32 × Int32 × Sto => E 28 [(0, .ref (B + 101)), (2, .int x2), (3, .int x3), (4, .int s.1), (5, .int s.2.1), (6, .int s.2.2.1)] [] s.2.2.2) h (fun K s hK h => s_X12_lastOne_28 C x2 x3 s.1 s.2.1 s.2.2.1 K4 K hK4 (fun x4 x5 x6 σ hk => hK (x4, x5, x6, σ) hk) s.2.2.2 h)
def w_X12_lastOne (x1 : Int32) (σ : Sto) (P : Int32 → Sto → Prop) : Prop :=
  Lp (fun (K : Int32 × Int32 × Sto → Prop) s => w_X12_lastOne_4 K s.1 s.2.1 s.2.2 P) (x1, 0, σ)
theorem s_X12_lastOne {B : Nat} {E : Nat → List (Nat × Value) → List Value → Sto → Prop} {P : Int32 → Sto → Prop} (C : Cy B E RX12 cX12_lastOne 7 (some .int) 2 47 (Zm (QFi P))) (x1 : Int32) (σ : Sto) (h : w_X12_lastOne x1 σ P) : E 0 [(0, .ref (B + 101)), (1, .int x1)] [] σ := by
  unfold w_X12_lastOne at h
  refine f_iload_n C (j := 1) dX12_lastOne_0 rfl rfl rfl ?_
  refine f_istore_n C (lv2 := [(2, .int x1), (0, .ref (B + 101)), (1, .int x1)]) dX12_lastOne_1 rfl (by decide) rfl rfl ?_
  refine f_iconst C (v := 0) dX12_lastOne_2 kc0 rfl ?_
  refine f_istore_n C (lv2 := [(3, .int 0), (2, .int x1), (0, .ref (B + 101)), (1, .int x1)]) dX12_lastOne_3 rfl (by decide) rfl rfl ?_
  refine f_lv C (lv2 := [(0, .ref (B + 101)), (2, .int x1), (3, .int 0)]) [2, 1, 0] rfl ?_
  exact Lp_sound (fun s : Int32 × Int32 × Sto => E 4 [(0, .ref (B + 101)), (2, .int s.1), (3, .int s.2.1)] [] s.2.2) h (fun K s hK h => s_X12_lastOne_4 C s.1 s.2.1 K (fun x2 x3 σ hk => hK (x2, x3, σ) hk) s.2.2 h)
theorem c_X12_lastOne (x1 : Int32) (σ : Sto) (P : Int32 → Sto → Prop) (h : w_X12_lastOne x1 σ P) : Ct yX12_lastOne cX12_lastOne 7 (some .int) 2 47 (fun B => [.ref (B + 101), .int x1]) σ (QFi P) := Ct.of (by decide) (fun _ => Nat.le_of_ble_eq_true rfl) (fun B E C => s_X12_lastOne C x1 σ h)
def w_X12_namedBy_54 (σ : Sto) (P : Int32 → Sto → Prop) : Prop :=
  w_X12_mostVotes σ (fun r_7 σ_6 => P r_7 σ_6)
theorem s_X12_namedBy_54 {B : Nat} {E : Nat → List (Nat × Value) → List Value → Sto → Prop} {P : Int32 → Sto → Prop} (C : Cy B E RX12 cX12_namedBy 4 (some .int) 3 73 (Zm (QFi P))) (σ : Sto) (h : w_X12_namedBy_54 σ P) : E 54 [(0, .ref (B + 101))] [] σ := by
  unfold w_X12_namedBy_54 at h
  refine f_aload_n C (j := 0) dX12_namedBy_54 rfl rfl rfl ?_
  refine f_callVi C (a := 101) (ci := 12) (As := fun B => []) o101 rfl (c_X12_mostVotes   _ _ h) tM_X12_361 tI_X12_mostVotes tS_X12_mostVotes tN_X12 tC_X12_mostVotes 0 dd_X12_mostVotes rfl (by decide) (by decide) rfl (Nat.le_of_ble_eq_true rfl) dX12_namedBy_55 rfl (fun r_7 σ_6 h => ?_)
  exact f_iret C dX12_namedBy_58 h
def w_X12_namedBy_2 (K2 : Int32 × Sto → Prop) (x1 : Int32) (x2 : Int32) (x3 : Int32) (σ : Sto) (P : Int32 → Sto → Prop) : Prop :=
  (if 12 ≤ x3 then (if x1 = 2 then w_X12_lastOne x2 σ (fun r_11 σ_10 => P r_11 σ_10) else (if x1 = 1 then w_X12_sums x2 σ (fun σ_8 => w_X12_namedBy_54 σ_8 P) else w_X12_counts x2 109 12 σ (fun σ_4 => w_X12_namedBy_54 σ_4 P))) else vp_in x3 12 ∧ ∀ x3_13 : Int32, x3_13 = x3 + 1 → K2 (x3_13, si σ 109 (tn x3) 0))
theorem s_X12_namedBy_2 {B : Nat} {E : Nat → List (Nat × Value) → List Value → Sto → Prop} {P : Int32 → Sto → Prop} (C : Cy B E RX12 cX12_namedBy 4 (some .int) 3 73 (Zm (QFi P))) (x1 : Int32) (x2 : Int32) (x3 : Int32) (K2 : Int32 × Sto → Prop) (hK2 : ∀ (x3 : Int32) (σ : Sto), K2 (x3, σ) → E 2 [(0, .ref (B + 101)), (1, .int x1), (2, .int x2), (3, .int x3)] [] σ) (σ : Sto) (h : w_X12_namedBy_2 K2 x1 x2 x3 σ P) : E 2 [(0, .ref (B + 101)), (1, .int x1), (2, .int x2), (3, .int x3)] [] σ := by
  unfold w_X12_namedBy_2 at h
  refine f_iload_n C (j := 3) dX12_namedBy_2 rfl rfl rfl ?_
  refine f_bipush C (v := 12) dX12_namedBy_3 kb12 rfl ?_
  refine f_icmp_ge C (t := 21) dX12_namedBy_5 (by decide) rfl (fun hq_1 => ?_) (fun hq_1 => ?_)
  · replace h := Eq.mp (if_pos hq_1) h
    refine f_iload_n C (j := 1) dX12_namedBy_21 rfl rfl rfl ?_
    refine f_iconst C (v := 2) dX12_namedBy_22 kc2 rfl ?_
    refine f_icmp_ne C (t := 32) dX12_namedBy_23 (by decide) rfl (fun hq_2 => ?_) (fun hq_2 => ?_)
    · replace h := Eq.mp (if_neg hq_2) h
      refine f_iload_n C (j := 1) dX12_namedBy_32 rfl rfl rfl ?_
      refine f_iconst C (v := 1) dX12_namedBy_33 kc1 rfl ?_
      refine f_icmp_ne C (t := 45) dX12_namedBy_34 (by decide) rfl (fun hq_3 => ?_) (fun hq_3 => ?_)
      · replace h := Eq.mp (if_neg hq_3) h
        refine f_aload_n C (j := 0) dX12_namedBy_45 rfl rfl rfl ?_
        refine f_iload_n C (j := 2) dX12_namedBy_46 rfl rfl rfl ?_
        refine f_aload_n C (j := 0) dX12_namedBy_47 rfl rfl rfl ?_
        refine f_getc C tF_X12_44 rfl o101 cs101_26 (by decide) dX12_namedBy_48 rfl ?_
        refine f_callVv C (a := 101) (ci := 12) (As := fun B => [.int x2, .ref (B + 109)]) o101 rfl (c_X12_counts  _ _ _ _ _ h) tM_X12_351 tI_X12_counts tS_X12_counts tN_X12 tC_X12_counts 2 dd_X12_counts rfl (by decide) (by decide) rfl (Nat.le_of_ble_eq_true rfl) dX12_namedBy_51 rfl (fun σ_4 h => ?_)
        refine f_lv C (lv2 := [(0, .ref (B + 101))]) [0] rfl ?_
        exact s_X12_namedBy_54 C  _ h
      · replace h := Eq.mp (if_pos hq_3) h
        refine f_aload_n C (j := 0) dX12_namedBy_37 rfl rfl rfl ?_
        refine f_iload_n C (j := 2) dX12_namedBy_38 rfl rfl rfl ?_
        refine f_callVv C (a := 101) (ci := 12) (As := fun B => [.int x2]) o101 rfl (c_X12_sums  _ _ _ h) tM_X12_358 tI_X12_sums tS_X12_sums tN_X12 tC_X12_sums 1 dd_X12_sums rfl (by decide) (by decide) rfl (Nat.le_of_ble_eq_true rfl) dX12_namedBy_39 rfl (fun σ_8 h => ?_)
        refine f_goto C (t := 54) dX12_namedBy_42 (by decide) ?_
        refine f_lv C (lv2 := [(0, .ref (B + 101))]) [0] rfl ?_
        exact s_X12_namedBy_54 C  _ h
    · replace h := Eq.mp (if_pos hq_2) h
      refine f_aload_n C (j := 0) dX12_namedBy_26 rfl rfl rfl ?_
      refine f_iload_n C (j := 2) dX12_namedBy_27 rfl rfl rfl ?_
      refine f_callVi C (a := 101) (ci := 12) (As := fun B => [.int x2]) o101 rfl (c_X12_lastOne  _ _ _ h) tM_X12_355 tI_X12_lastOne tS_X12_lastOne tN_X12 tC_X12_lastOne 1 dd_X12_lastOne rfl (by decide) (by decide) rfl (Nat.le_of_ble_eq_true rfl) dX12_namedBy_28 rfl (fun r_11 σ_10 h => ?_)
      exact f_iret C dX12_namedBy_31 h
  · replace h := Eq.mp (if_neg hq_1) h
    refine f_aload_n C (j := 0) dX12_namedBy_8 rfl rfl rfl ?_
    refine f_getc C tF_X12_44 rfl o101 cs101_26 (by decide) dX12_namedBy_9 rfl ?_
    refine f_iload_n C (j := 3) dX12_namedBy_12 rfl rfl rfl ?_
    refine f_iconst C (v := 0) dX12_namedBy_13 kc0 rfl ?_
    obtain ⟨hi_12, h⟩ := h
    refine f_iast C (j := tn x3) a109 hi_12 rfl dX12_namedBy_14 rfl ?_
    obtain ⟨x3_13, hx_14⟩ : ∃ y : Int32, y = x3 + 1 := ⟨_, rfl⟩
    replace h := h x3_13 hx_14
    refine f_iinc C (j := 3) (v := x3_13) (lv2 := [(3, .int x3_13), (0, .ref (B + 101)), (1, .int x1), (2, .int x2)]) dX12_namedBy_15 rfl hx_14.symm (by decide) rfl rfl ?_
    refine f_goto C (t := 2) dX12_namedBy_18 (by decide) ?_
    refine f_lv C (lv2 := [(0, .ref (B + 101)), (1, .int x1), (2, .int x2), (3, .int x3_13)]) [1, 2, 3, 0] rfl ?_
    exact hK2 _ _ h
def w_X12_namedBy (x1 : Int32) (x2 : Int32) (σ : Sto) (P : Int32 → Sto → Prop) : Prop :=
  Lp (fun (K : Int32 × Sto → Prop) s => w_X12_namedBy_2 K x1 x2 s.1 s.2 P) (0, σ)
theorem s_X12_namedBy {B : Nat} {E : Nat → List (Nat × Value) → List Value → Sto → Prop} {P : Int32 → Sto → Prop} (C : Cy B E RX12 cX12_namedBy 4 (some .int) 3 73 (Zm (QFi P))) (x1 : Int32) (x2 : Int32) (σ : Sto) (h : w_X12_namedBy x1 x2 σ P) : E 0 [(0, .ref (B + 101)), (1, .int x1), (2, .int x2)] [] σ := by
  unfold w_X12_namedBy at h
  refine f_iconst C (v := 0) dX12_namedBy_0 kc0 rfl ?_
  refine f_istore_n C (lv2 := [(3, .int 0), (0, .ref (B + 101)), (1, .int x1), (2, .int x2)]) dX12_namedBy_1 rfl (by decide) rfl rfl ?_
  refine f_lv C (lv2 := [(0, .ref (B + 101)), (1, .int x1), (2, .int x2), (3, .int 0)]) [1, 2, 3, 0] rfl ?_
  exact Lp_sound (fun s : Int32 × Sto => E 2 [(0, .ref (B + 101)), (1, .int x1), (2, .int x2), (3, .int s.1)] [] s.2) h (fun K s hK h => s_X12_namedBy_2 C x1 x2 s.1 K (fun x3 σ hk => hK (x3, σ) hk) s.2 h)
theorem c_X12_namedBy (x1 : Int32) (x2 : Int32) (σ : Sto) (P : Int32 → Sto → Prop) (h : w_X12_namedBy x1 x2 σ P) : Ct yX12_namedBy cX12_namedBy 4 (some .int) 3 73 (fun B => [.ref (B + 101), .int x1, .int x2]) σ (QFi P) := Ct.of (by decide) (fun _ => Nat.le_of_ble_eq_true rfl) (fun B E C => s_X12_namedBy C x1 x2 σ h)
def w_X12_voted (x1 : Int32) (x2 : Int32) (σ : Sto) (P : Int32 → Sto → Prop) : Prop :=
  w_X12_standing x1 σ (fun r_2 σ_1 => w_X12_namedBy (gi σ 106 4) (r_2 &&& (~~~x2)) σ_1 (fun r_4 σ_3 => P r_4 σ_3))
theorem s_X12_voted {B : Nat} {E : Nat → List (Nat × Value) → List Value → Sto → Prop} {P : Int32 → Sto → Prop} (C : Cy B E RX12 cX12_voted 3 (some .int) 4 96 (Zm (QFi P))) (x1 : Int32) (x2 : Int32) (σ : Sto) (h : w_X12_voted x1 x2 σ P) : E 0 [(0, .ref (B + 101)), (1, .int x1), (2, .int x2)] [] σ := by
  unfold w_X12_voted at h
  refine f_aload_n C (j := 0) dX12_voted_0 rfl rfl rfl ?_
  refine f_aload_n C (j := 0) dX12_voted_1 rfl rfl rfl ?_
  refine f_getc C tF_X12_35 rfl o101 cs101_20 (by decide) dX12_voted_2 rfl ?_
  refine f_iconst C (v := 4) dX12_voted_5 kc4 rfl ?_
  refine f_iald C (j := 4) a106 (vp_lit (by decide)) rfl dX12_voted_6 rfl ?_
  refine f_aload_n C (j := 0) dX12_voted_7 rfl rfl rfl ?_
  refine f_iload_n C (j := 1) dX12_voted_8 rfl rfl rfl ?_
  refine f_callVi C (a := 101) (ci := 12) (As := fun B => [.int x1]) o101 rfl (c_X12_standing  _ _ _ h) tM_X12_322 tI_X12_standing tS_X12_standing tN_X12 tC_X12_standing 1 dd_X12_standing rfl (by decide) (by decide) rfl (Nat.le_of_ble_eq_true rfl) dX12_voted_9 rfl (fun r_2 σ_1 h => ?_)
  refine f_iload_n C (j := 2) dX12_voted_12 rfl rfl rfl ?_
  refine f_iconst C (v := (-1)) dX12_voted_13 kcm1 rfl ?_
  refine f_inot C dX12_voted_14 rfl ?_
  refine f_iand C dX12_voted_15 rfl ?_
  refine f_callVi C (a := 101) (ci := 12) (As := fun B => [.int (gi σ 106 4), .int (r_2 &&& (~~~x2))]) o101 rfl (c_X12_namedBy  _ _ _ _ h) tM_X12_364 tI_X12_namedBy tS_X12_namedBy tN_X12 tC_X12_namedBy 2 dd_X12_namedBy rfl (by decide) (by decide) rfl (Nat.le_of_ble_eq_true rfl) dX12_voted_16 rfl (fun r_4 σ_3 h => ?_)
  exact f_iret C dX12_voted_19 h
theorem c_X12_voted (x1 : Int32) (x2 : Int32) (σ : Sto) (P : Int32 → Sto → Prop) (h : w_X12_voted x1 x2 σ P) : Ct yX12_voted cX12_voted 3 (some .int) 4 96 (fun B => [.ref (B + 101), .int x1, .int x2]) σ (QFi P) := Ct.of (by decide) (fun _ => Nat.le_of_ble_eq_true rfl) (fun B E C => s_X12_voted C x1 x2 σ h)
def w_X12_inVote (σ : Sto) (P : Int32 → Sto → Prop) : Prop :=
  w_X12_now σ (fun r_2 σ_1 => P (r_2 &&& (~~~(gi σ_1 106 7))) σ_1)
theorem s_X12_inVote {B : Nat} {E : Nat → List (Nat × Value) → List Value → Sto → Prop} {P : Int32 → Sto → Prop} (C : Cy B E RX12 cX12_inVote 1 (some .int) 4 89 (Zm (QFi P))) (σ : Sto) (h : w_X12_inVote σ P) : E 0 [(0, .ref (B + 101))] [] σ := by
  unfold w_X12_inVote at h
  refine f_aload_n C (j := 0) dX12_inVote_0 rfl rfl rfl ?_
  refine f_callVi C (a := 101) (ci := 12) (As := fun B => []) o101 rfl (c_X12_now   _ _ h) tM_X12_330 tI_X12_now tS_X12_now tN_X12 tC_X12_now 0 dd_X12_now rfl (by decide) (by decide) rfl (Nat.le_of_ble_eq_true rfl) dX12_inVote_1 rfl (fun r_2 σ_1 h => ?_)
  refine f_aload_n C (j := 0) dX12_inVote_4 rfl rfl rfl ?_
  refine f_getc C tF_X12_35 rfl o101 cs101_20 (by decide) dX12_inVote_5 rfl ?_
  refine f_bipush C (v := 7) dX12_inVote_8 kb7 rfl ?_
  refine f_iald C (j := 7) a106 (vp_lit (by decide)) rfl dX12_inVote_10 rfl ?_
  refine f_iconst C (v := (-1)) dX12_inVote_11 kcm1 rfl ?_
  refine f_inot C dX12_inVote_12 rfl ?_
  refine f_iand C dX12_inVote_13 rfl ?_
  exact f_iret C dX12_inVote_14 h
theorem c_X12_inVote (σ : Sto) (P : Int32 → Sto → Prop) (h : w_X12_inVote σ P) : Ct yX12_inVote cX12_inVote 1 (some .int) 4 89 (fun B => [.ref (B + 101)]) σ (QFi P) := Ct.of (by decide) (fun _ => Nat.le_of_ble_eq_true rfl) (fun B E C => s_X12_inVote C σ h)
def w_X12_vote (σ : Sto) (P : Int32 → Sto → Prop) : Prop :=
  ∀ σ_1 : Sto, σ_1 = si (si σ 101 1 0) 101 0 0 → w_X12_voted (gi σ_1 106 6) (gi σ_1 106 7) σ_1 (fun r_4 σ_3 => (if 0 ≤ r_4 then P r_4 σ_3 else w_X12_refuse 8 σ_3 (fun r_7 σ_6 => P r_7 σ_6)))
theorem s_X12_vote {B : Nat} {E : Nat → List (Nat × Value) → List Value → Sto → Prop} {P : Int32 → Sto → Prop} (C : Cy B E RX12 cX12_vote 2 (some .int) 5 118 (Zm (QFi P))) (σ : Sto) (h : w_X12_vote σ P) : E 0 [(0, .ref (B + 101))] [] σ := by
  unfold w_X12_vote at h
  refine f_aload_n C (j := 0) dX12_vote_0 rfl rfl rfl ?_
  refine f_iconst C (v := 0) dX12_vote_1 kc0 rfl ?_
  refine f_puti C tF_X12_74 fm_12_1 rfl o101 dX12_vote_2 rfl ?_
  refine f_aload_n C (j := 0) dX12_vote_5 rfl rfl rfl ?_
  refine f_iconst C (v := 0) dX12_vote_6 kc0 rfl ?_
  refine f_puti C tF_X12_77 fm_12_0 rfl o101 dX12_vote_7 rfl ?_
  refine f_aload_n C (j := 0) dX12_vote_10 rfl rfl rfl ?_
  refine f_aload_n C (j := 0) dX12_vote_11 rfl rfl rfl ?_
  refine f_getc C tF_X12_35 rfl o101 cs101_20 (by decide) dX12_vote_12 rfl ?_
  refine f_bipush C (v := 6) dX12_vote_15 kb6 rfl ?_
  refine f_names (fun σ_1 hσ_2 => ?_)
  replace h := h σ_1 hσ_2
  refine f_iald C (j := 6) a106 (vp_lit (by decide)) rfl dX12_vote_17 rfl ?_
  refine f_aload_n C (j := 0) dX12_vote_18 rfl rfl rfl ?_
  refine f_getc C tF_X12_35 rfl o101 cs101_20 (by decide) dX12_vote_19 rfl ?_
  refine f_bipush C (v := 7) dX12_vote_22 kb7 rfl ?_
  refine f_iald C (j := 7) a106 (vp_lit (by decide)) rfl dX12_vote_24 rfl ?_
  refine f_callVi C (a := 101) (ci := 12) (As := fun B => [.int (gi σ_1 106 6), .int (gi σ_1 106 7)]) o101 rfl (c_X12_voted  _ _ _ _ h) tM_X12_367 tI_X12_voted tS_X12_voted tN_X12 tC_X12_voted 2 dd_X12_voted rfl (by decide) (by decide) rfl (Nat.le_of_ble_eq_true rfl) dX12_vote_25 rfl (fun r_4 σ_3 h => ?_)
  refine f_istore_n C (lv2 := [(1, .int r_4), (0, .ref (B + 101))]) dX12_vote_28 rfl (by decide) rfl rfl ?_
  refine f_iload_n C (j := 0) dX12_vote_29 rfl rfl rfl ?_
  refine f_if_ge C (t := 42) dX12_vote_30 (by decide) rfl (fun hq_5 => ?_) (fun hq_5 => ?_)
  · replace h := Eq.mp (if_pos hq_5) h
    refine f_iload_n C (j := 0) dX12_vote_42 rfl rfl rfl ?_
    exact f_iret C dX12_vote_43 h
  · replace h := Eq.mp (if_neg hq_5) h
    refine f_aload_n C (j := 1) dX12_vote_33 rfl rfl rfl ?_
    refine f_bipush C (v := 8) dX12_vote_34 kb8 rfl ?_
    refine f_callVi C (a := 101) (ci := 12) (As := fun B => [.int 8]) o101 rfl (c_X12_refuse  _ _ _ h) tM_X12_327 tI_X12_refuse tS_X12_refuse tN_X12 tC_X12_refuse 1 dd_X12_refuse rfl (by decide) (by decide) rfl (Nat.le_of_ble_eq_true rfl) dX12_vote_36 rfl (fun r_7 σ_6 h => ?_)
    refine f_goto C (t := 43) dX12_vote_39 (by decide) ?_
    exact f_iret C dX12_vote_43 h
theorem c_X12_vote (σ : Sto) (P : Int32 → Sto → Prop) (h : w_X12_vote σ P) : Ct yX12_vote cX12_vote 2 (some .int) 5 118 (fun B => [.ref (B + 101)]) σ (QFi P) := Ct.of (by decide) (fun _ => Nat.le_of_ble_eq_true rfl) (fun B E C => s_X12_vote C σ h)
def w_X12_votes (x1 : Int32) (σ : Sto) (P : Int32 → Sto → Prop) : Prop :=
  w_X12_isThingAt x1 (si (si σ 101 1 0) 101 0 0) (fun r_2 σ_1 => (if r_2 = 0 then w_X12_refuse 2 σ_1 (fun r_10 σ_9 => P r_10 σ_9) else w_X12_inVote σ_1 (fun r_5 σ_4 => w_X12_namedBy (gi σ_1 106 4) r_5 σ_4 (fun r_7 σ_6 => vp_in x1 12 ∧ P (gi σ_6 109 (tn x1)) σ_6))))
theorem s_X12_votes {B : Nat} {E : Nat → List (Nat × Value) → List Value → Sto → Prop} {P : Int32 → Sto → Prop} (C : Cy B E RX12 cX12_votes 2 (some .int) 5 109 (Zm (QFi P))) (x1 : Int32) (σ : Sto) (h : w_X12_votes x1 σ P) : E 0 [(0, .ref (B + 101)), (1, .int x1)] [] σ := by
  unfold w_X12_votes at h
  refine f_aload_n C (j := 0) dX12_votes_0 rfl rfl rfl ?_
  refine f_iconst C (v := 0) dX12_votes_1 kc0 rfl ?_
  refine f_puti C tF_X12_74 fm_12_1 rfl o101 dX12_votes_2 rfl ?_
  refine f_aload_n C (j := 0) dX12_votes_5 rfl rfl rfl ?_
  refine f_iconst C (v := 0) dX12_votes_6 kc0 rfl ?_
  refine f_puti C tF_X12_77 fm_12_0 rfl o101 dX12_votes_7 rfl ?_
  refine f_aload_n C (j := 0) dX12_votes_10 rfl rfl rfl ?_
  refine f_iload_n C (j := 1) dX12_votes_11 rfl rfl rfl ?_
  refine f_callVi C (a := 101) (ci := 12) (As := fun B => [.int x1]) o101 rfl (c_X12_isThingAt  _ _ _ h) tM_X12_339 tI_X12_isThingAt tS_X12_isThingAt tN_X12 tC_X12_isThingAt 1 dd_X12_isThingAt rfl (by decide) (by decide) rfl (Nat.le_of_ble_eq_true rfl) dX12_votes_12 rfl (fun r_2 σ_1 h => ?_)
  refine f_if_ne C (t := 24) dX12_votes_15 (by decide) rfl (fun hq_3 => ?_) (fun hq_3 => ?_)
  · replace h := Eq.mp (if_neg hq_3) h
    refine f_aload_n C (j := 0) dX12_votes_24 rfl rfl rfl ?_
    refine f_aload_n C (j := 0) dX12_votes_25 rfl rfl rfl ?_
    refine f_getc C tF_X12_35 rfl o101 cs101_20 (by decide) dX12_votes_26 rfl ?_
    refine f_iconst C (v := 4) dX12_votes_29 kc4 rfl ?_
    refine f_iald C (j := 4) a106 (vp_lit (by decide)) rfl dX12_votes_30 rfl ?_
    refine f_aload_n C (j := 0) dX12_votes_31 rfl rfl rfl ?_
    refine f_callVi C (a := 101) (ci := 12) (As := fun B => []) o101 rfl (c_X12_inVote   _ _ h) tM_X12_370 tI_X12_inVote tS_X12_inVote tN_X12 tC_X12_inVote 0 dd_X12_inVote rfl (by decide) (by decide) rfl (Nat.le_of_ble_eq_true rfl) dX12_votes_32 rfl (fun r_5 σ_4 h => ?_)
    refine f_callVi C (a := 101) (ci := 12) (As := fun B => [.int (gi σ_1 106 4), .int r_5]) o101 rfl (c_X12_namedBy  _ _ _ _ h) tM_X12_364 tI_X12_namedBy tS_X12_namedBy tN_X12 tC_X12_namedBy 2 dd_X12_namedBy rfl (by decide) (by decide) rfl (Nat.le_of_ble_eq_true rfl) dX12_votes_35 rfl (fun r_7 σ_6 h => ?_)
    refine f_pop C dX12_votes_38 rfl rfl ?_
    refine f_aload_n C (j := 0) dX12_votes_39 rfl rfl rfl ?_
    refine f_getc C tF_X12_44 rfl o101 cs101_26 (by decide) dX12_votes_40 rfl ?_
    refine f_iload_n C (j := 1) dX12_votes_43 rfl rfl rfl ?_
    obtain ⟨hi_8, h⟩ := h
    refine f_iald C (j := tn x1) a109 hi_8 rfl dX12_votes_44 rfl ?_
    exact f_iret C dX12_votes_45 h
  · replace h := Eq.mp (if_pos hq_3) h
    refine f_aload_n C (j := 0) dX12_votes_18 rfl rfl rfl ?_
    refine f_iconst C (v := 2) dX12_votes_19 kc2 rfl ?_
    refine f_callVi C (a := 101) (ci := 12) (As := fun B => [.int 2]) o101 rfl (c_X12_refuse  _ _ _ h) tM_X12_327 tI_X12_refuse tS_X12_refuse tN_X12 tC_X12_refuse 1 dd_X12_refuse rfl (by decide) (by decide) rfl (Nat.le_of_ble_eq_true rfl) dX12_votes_20 rfl (fun r_10 σ_9 h => ?_)
    exact f_iret C dX12_votes_23 h
theorem c_X12_votes (x1 : Int32) (σ : Sto) (P : Int32 → Sto → Prop) (h : w_X12_votes x1 σ P) : Ct yX12_votes cX12_votes 2 (some .int) 5 109 (fun B => [.ref (B + 101), .int x1]) σ (QFi P) := Ct.of (by decide) (fun _ => Nat.le_of_ble_eq_true rfl) (fun B E C => s_X12_votes C x1 σ h)
def w_X12_voteBy (x1 : Int32) (σ : Sto) (P : Int32 → Sto → Prop) : Prop :=
  w_X12_isIn x1.toInt64 0 2 (si (si σ 101 1 0) 101 0 0) (fun r_2 σ_1 => (if r_2 = 0 then w_X12_refuse 5 σ_1 (fun r_12 σ_11 => P r_12 σ_11) else w_X12_inVote σ_1 (fun r_5 σ_4 => w_X12_namedBy x1 r_5 σ_4 (fun r_7 σ_6 => (if 0 ≤ r_7 then P r_7 σ_6 else w_X12_refuse 8 σ_6 (fun r_10 σ_9 => P r_10 σ_9))))))
theorem s_X12_voteBy {B : Nat} {E : Nat → List (Nat × Value) → List Value → Sto → Prop} {P : Int32 → Sto → Prop} (C : Cy B E RX12 cX12_voteBy 3 (some .int) 5 109 (Zm (QFi P))) (x1 : Int32) (σ : Sto) (h : w_X12_voteBy x1 σ P) : E 0 [(0, .ref (B + 101)), (1, .int x1)] [] σ := by
  unfold w_X12_voteBy at h
  refine f_aload_n C (j := 0) dX12_voteBy_0 rfl rfl rfl ?_
  refine f_iconst C (v := 0) dX12_voteBy_1 kc0 rfl ?_
  refine f_puti C tF_X12_74 fm_12_1 rfl o101 dX12_voteBy_2 rfl ?_
  refine f_aload_n C (j := 0) dX12_voteBy_5 rfl rfl rfl ?_
  refine f_iconst C (v := 0) dX12_voteBy_6 kc0 rfl ?_
  refine f_puti C tF_X12_77 fm_12_0 rfl o101 dX12_voteBy_7 rfl ?_
  refine f_iload_n C (j := 1) dX12_voteBy_10 rfl rfl rfl ?_
  refine f_i2l C dX12_voteBy_11 rfl ?_
  refine f_lconst C (v := 0) dX12_voteBy_12 (by decide) rfl ?_
  refine f_ldc2_w C tL_X12_373 dX12_voteBy_13 rfl ?_
  refine f_callSi C (As := fun B => [.long x1.toInt64, .long 0, .long 2]) (c_X12_isIn  _ _ _ _ _ h) tM_X12_109 tT_X12_isIn tN_X12 tC_X12_isIn 3 dd_X12_isIn rfl (by decide) (by decide) rfl (Nat.le_of_ble_eq_true rfl) dX12_voteBy_16 rfl (fun r_2 σ_1 h => ?_)
  refine f_if_ne C (t := 28) dX12_voteBy_19 (by decide) rfl (fun hq_3 => ?_) (fun hq_3 => ?_)
  · replace h := Eq.mp (if_neg hq_3) h
    refine f_aload_n C (j := 0) dX12_voteBy_28 rfl rfl rfl ?_
    refine f_iload_n C (j := 1) dX12_voteBy_29 rfl rfl rfl ?_
    refine f_aload_n C (j := 0) dX12_voteBy_30 rfl rfl rfl ?_
    refine f_callVi C (a := 101) (ci := 12) (As := fun B => []) o101 rfl (c_X12_inVote   _ _ h) tM_X12_370 tI_X12_inVote tS_X12_inVote tN_X12 tC_X12_inVote 0 dd_X12_inVote rfl (by decide) (by decide) rfl (Nat.le_of_ble_eq_true rfl) dX12_voteBy_31 rfl (fun r_5 σ_4 h => ?_)
    refine f_callVi C (a := 101) (ci := 12) (As := fun B => [.int x1, .int r_5]) o101 rfl (c_X12_namedBy  _ _ _ _ h) tM_X12_364 tI_X12_namedBy tS_X12_namedBy tN_X12 tC_X12_namedBy 2 dd_X12_namedBy rfl (by decide) (by decide) rfl (Nat.le_of_ble_eq_true rfl) dX12_voteBy_34 rfl (fun r_7 σ_6 h => ?_)
    refine f_istore_n C (lv2 := [(2, .int r_7), (0, .ref (B + 101)), (1, .int x1)]) dX12_voteBy_37 rfl (by decide) rfl rfl ?_
    refine f_iload_n C (j := 0) dX12_voteBy_38 rfl rfl rfl ?_
    refine f_if_ge C (t := 51) dX12_voteBy_39 (by decide) rfl (fun hq_8 => ?_) (fun hq_8 => ?_)
    · replace h := Eq.mp (if_pos hq_8) h
      refine f_iload_n C (j := 0) dX12_voteBy_51 rfl rfl rfl ?_
      exact f_iret C dX12_voteBy_52 h
    · replace h := Eq.mp (if_neg hq_8) h
      refine f_aload_n C (j := 1) dX12_voteBy_42 rfl rfl rfl ?_
      refine f_bipush C (v := 8) dX12_voteBy_43 kb8 rfl ?_
      refine f_callVi C (a := 101) (ci := 12) (As := fun B => [.int 8]) o101 rfl (c_X12_refuse  _ _ _ h) tM_X12_327 tI_X12_refuse tS_X12_refuse tN_X12 tC_X12_refuse 1 dd_X12_refuse rfl (by decide) (by decide) rfl (Nat.le_of_ble_eq_true rfl) dX12_voteBy_45 rfl (fun r_10 σ_9 h => ?_)
      refine f_goto C (t := 52) dX12_voteBy_48 (by decide) ?_
      exact f_iret C dX12_voteBy_52 h
  · replace h := Eq.mp (if_pos hq_3) h
    refine f_aload_n C (j := 0) dX12_voteBy_22 rfl rfl rfl ?_
    refine f_iconst C (v := 5) dX12_voteBy_23 kc5 rfl ?_
    refine f_callVi C (a := 101) (ci := 12) (As := fun B => [.int 5]) o101 rfl (c_X12_refuse  _ _ _ h) tM_X12_327 tI_X12_refuse tS_X12_refuse tN_X12 tC_X12_refuse 1 dd_X12_refuse rfl (by decide) (by decide) rfl (Nat.le_of_ble_eq_true rfl) dX12_voteBy_24 rfl (fun r_12 σ_11 h => ?_)
    exact f_iret C dX12_voteBy_27 h
theorem c_X12_voteBy (x1 : Int32) (σ : Sto) (P : Int32 → Sto → Prop) (h : w_X12_voteBy x1 σ P) : Ct yX12_voteBy cX12_voteBy 3 (some .int) 5 109 (fun B => [.ref (B + 101), .int x1]) σ (QFi P) := Ct.of (by decide) (fun _ => Nat.le_of_ble_eq_true rfl) (fun B E C => s_X12_voteBy C x1 σ h)
def w_X12_sway_176 (K176 : Int32 × Sto → Prop) (x1 : Int32) (x3 : Int32) (x4 : Int32) (σ : Sto) (P : Int32 → Sto → Prop) : Prop :=
  (if 12 ≤ x4 then P x3 σ else vp_in x4 12 ∧ vp_in ((58 + (12 * x1)) + x4) 2105 ∧ ∀ x4_12 : Int32, x4_12 = x4 + 1 → K176 (x4_12, si σ 106 (tn ((58 + (12 * x1)) + x4)) (gi σ 111 (tn x4))))
theorem s_X12_sway_176 {B : Nat} {E : Nat → List (Nat × Value) → List Value → Sto → Prop} {P : Int32 → Sto → Prop} (C : Cy B E RX12 cX12_sway 6 (some .int) 5 109 (Zm (QFi P))) (x1 : Int32) (x3 : Int32) (x4 : Int32) (K176 : Int32 × Sto → Prop) (hK176 : ∀ (x4 : Int32) (σ : Sto), K176 (x4, σ) → E 176 [(0, .ref (B + 101)), (1, .int x1), (3, .int x3), (4, .int x4)] [] σ) (σ : Sto) (h : w_X12_sway_176 K176 x1 x3 x4 σ P) : E 176 [(0, .ref (B + 101)), (1, .int x1), (3, .int x3), (4, .int x4)] [] σ := by
  unfold w_X12_sway_176 at h
  refine f_iload C (j := 3) dX12_sway_176 rfl rfl ?_
  refine f_bipush C (v := 12) dX12_sway_178 kb12 rfl ?_
  refine f_icmp_ge C (t := 211) dX12_sway_180 (by decide) rfl (fun hq_9 => ?_) (fun hq_9 => ?_)
  · replace h := Eq.mp (if_pos hq_9) h
    refine f_iload_n C (j := 2) dX12_sway_211 rfl rfl rfl ?_
    exact f_iret C dX12_sway_212 h
  · replace h := Eq.mp (if_neg hq_9) h
    refine f_aload_n C (j := 0) dX12_sway_183 rfl rfl rfl ?_
    refine f_getc C tF_X12_35 rfl o101 cs101_20 (by decide) dX12_sway_184 rfl ?_
    refine f_bipush C (v := 58) dX12_sway_187 kb58 rfl ?_
    refine f_bipush C (v := 12) dX12_sway_189 kb12 rfl ?_
    refine f_iload_n C (j := 1) dX12_sway_191 rfl rfl rfl ?_
    refine f_imul C dX12_sway_192 rfl ?_
    refine f_iadd C dX12_sway_193 rfl ?_
    refine f_iload C (j := 3) dX12_sway_194 rfl rfl ?_
    refine f_iadd C dX12_sway_196 rfl ?_
    refine f_aload_n C (j := 0) dX12_sway_197 rfl rfl rfl ?_
    refine f_getc C tF_X12_50 rfl o101 cs101_28 (by decide) dX12_sway_198 rfl ?_
    refine f_iload C (j := 3) dX12_sway_201 rfl rfl ?_
    obtain ⟨hi_10, h⟩ := h
    refine f_iald C (j := tn x4) a111 hi_10 rfl dX12_sway_203 rfl ?_
    obtain ⟨hi_11, h⟩ := h
    refine f_iast C (j := tn ((58 + (12 * x1)) + x4)) a106 hi_11 rfl dX12_sway_204 rfl ?_
    obtain ⟨x4_12, hx_13⟩ : ∃ y : Int32, y = x4 + 1 := ⟨_, rfl⟩
    replace h := h x4_12 hx_13
    refine f_iinc C (j := 3) (v := x4_12) (lv2 := [(4, .int x4_12), (0, .ref (B + 101)), (1, .int x1), (3, .int x3)]) dX12_sway_205 rfl hx_13.symm (by decide) rfl rfl ?_
    refine f_goto C (t := 176) dX12_sway_208 (by decide) ?_
    refine f_lv C (lv2 := [(0, .ref (B + 101)), (1, .int x1), (3, .int x3), (4, .int x4_12)]) [1, 2, 3, 0] rfl ?_
    exact hK176 _ _ h
def w_X12_sway_99 (K85 : Int32 × Int32 × Sto → Prop) (K99 : Int32 × Sto → Prop) (x1 : Int32) (x2 : Int32) (x3 : Int32) (x4 : Int32) (x5 : Int32) (σ : Sto) (P : Int32 → Sto → Prop) : Prop :=
  (if 12 ≤ x5 then w_X12_namedBy (gi σ 106 4) x2 σ (fun r_16 σ_15 => (if r_16 = x4 then ∀ x3_22 : Int32, x3_22 = x3 ||| (1 <<< (x4 &&& 31)) → ∀ x4_24 : Int32, x4_24 = x4 + 1 → K85 (x3_22, x4_24, σ_15) else ∀ x3_18 : Int32, x3_18 = x3 ||| 0 → ∀ x4_20 : Int32, x4_20 = x4 + 1 → K85 (x3_18, x4_20, σ_15))) else (if x5 = x4 then vp_in ((58 + (12 * x1)) + x5) 2105 ∧ ∀ x5_31 : Int32, x5_31 = x5 + 1 → K99 (x5_31, si σ 106 (tn ((58 + (12 * x1)) + x5)) 9) else vp_in ((58 + (12 * x1)) + x5) 2105 ∧ ∀ x5_28 : Int32, x5_28 = x5 + 1 → K99 (x5_28, si σ 106 (tn ((58 + (12 * x1)) + x5)) 0)))
theorem s_X12_sway_99 {B : Nat} {E : Nat → List (Nat × Value) → List Value → Sto → Prop} {P : Int32 → Sto → Prop} (C : Cy B E RX12 cX12_sway 6 (some .int) 5 109 (Zm (QFi P))) (x1 : Int32) (x2 : Int32) (x3 : Int32) (x4 : Int32) (x5 : Int32) (K85 : Int32 × Int32 × Sto → Prop) (K99 : Int32 × Sto → Prop) (hK85 : ∀ (x3 : Int32) (x4 : Int32) (σ : Sto), K85 (x3, x4, σ) → E 85 [(0, .ref (B + 101)), (1, .int x1), (2, .int x2), (3, .int x3), (4, .int x4)] [] σ) (hK99 : ∀ (x5 : Int32) (σ : Sto), K99 (x5, σ) → E 99 [(0, .ref (B + 101)), (1, .int x1), (2, .int x2), (3, .int x3), (4, .int x4), (5, .int x5)] [] σ) (σ : Sto) (h : w_X12_sway_99 K85 K99 x1 x2 x3 x4 x5 σ P) : E 99 [(0, .ref (B + 101)), (1, .int x1), (2, .int x2), (3, .int x3), (4, .int x4), (5, .int x5)] [] σ := by
  unfold w_X12_sway_99 at h
  refine f_iload C (j := 5) dX12_sway_99 rfl rfl ?_
  refine f_bipush C (v := 12) dX12_sway_101 kb12 rfl ?_
  refine f_icmp_ge C (t := 140) dX12_sway_103 (by decide) rfl (fun hq_14 => ?_) (fun hq_14 => ?_)
  · replace h := Eq.mp (if_pos hq_14) h
    refine f_iload_n C (j := 3) dX12_sway_140 rfl rfl rfl ?_
    refine f_aload_n C (j := 0) dX12_sway_141 rfl rfl rfl ?_
    refine f_aload_n C (j := 0) dX12_sway_142 rfl rfl rfl ?_
    refine f_getc C tF_X12_35 rfl o101 cs101_20 (by decide) dX12_sway_143 rfl ?_
    refine f_iconst C (v := 4) dX12_sway_146 kc4 rfl ?_
    refine f_iald C (j := 4) a106 (vp_lit (by decide)) rfl dX12_sway_147 rfl ?_
    refine f_iload_n C (j := 2) dX12_sway_148 rfl rfl rfl ?_
    refine f_callVi C (a := 101) (ci := 12) (As := fun B => [.int (gi σ 106 4), .int x2]) o101 rfl (c_X12_namedBy  _ _ _ _ h) tM_X12_364 tI_X12_namedBy tS_X12_namedBy tN_X12 tC_X12_namedBy 2 dd_X12_namedBy rfl (by decide) (by decide) rfl (Nat.le_of_ble_eq_true rfl) dX12_sway_149 rfl (fun r_16 σ_15 h => ?_)
    refine f_iload C (j := 4) dX12_sway_152 rfl rfl ?_
    refine f_icmp_ne C (t := 164) dX12_sway_154 (by decide) rfl (fun hq_17 => ?_) (fun hq_17 => ?_)
    · replace h := Eq.mp (if_neg hq_17) h
      refine f_iconst C (v := 0) dX12_sway_164 kc0 rfl ?_
      refine f_ior C dX12_sway_165 rfl ?_
      refine f_name (fun x3_18 hx_19 => ?_)
      replace h := h x3_18 hx_19
      refine f_istore_n C (lv2 := [(3, .int x3_18), (0, .ref (B + 101)), (1, .int x1), (2, .int x2), (4, .int x4), (5, .int x5)]) dX12_sway_166 rfl (by decide) rfl rfl ?_
      obtain ⟨x4_20, hx_21⟩ : ∃ y : Int32, y = x4 + 1 := ⟨_, rfl⟩
      replace h := h x4_20 hx_21
      refine f_iinc C (j := 4) (v := x4_20) (lv2 := [(4, .int x4_20), (3, .int x3_18), (0, .ref (B + 101)), (1, .int x1), (2, .int x2), (5, .int x5)]) dX12_sway_167 rfl hx_21.symm (by decide) rfl rfl ?_
      refine f_goto C (t := 85) dX12_sway_170 (by decide) ?_
      refine f_lv C (lv2 := [(0, .ref (B + 101)), (1, .int x1), (2, .int x2), (3, .int x3_18), (4, .int x4_20)]) [2, 3, 4, 1, 0] rfl ?_
      exact hK85 _ _ _ h
    · replace h := Eq.mp (if_pos hq_17) h
      refine f_iconst C (v := 1) dX12_sway_157 kc1 rfl ?_
      refine f_iload C (j := 4) dX12_sway_158 rfl rfl ?_
      refine f_ishl C dX12_sway_160 rfl ?_
      refine f_goto C (t := 165) dX12_sway_161 (by decide) ?_
      refine f_ior C dX12_sway_165 rfl ?_
      refine f_name (fun x3_22 hx_23 => ?_)
      replace h := h x3_22 hx_23
      refine f_istore_n C (lv2 := [(3, .int x3_22), (0, .ref (B + 101)), (1, .int x1), (2, .int x2), (4, .int x4), (5, .int x5)]) dX12_sway_166 rfl (by decide) rfl rfl ?_
      obtain ⟨x4_24, hx_25⟩ : ∃ y : Int32, y = x4 + 1 := ⟨_, rfl⟩
      replace h := h x4_24 hx_25
      refine f_iinc C (j := 4) (v := x4_24) (lv2 := [(4, .int x4_24), (3, .int x3_22), (0, .ref (B + 101)), (1, .int x1), (2, .int x2), (5, .int x5)]) dX12_sway_167 rfl hx_25.symm (by decide) rfl rfl ?_
      refine f_goto C (t := 85) dX12_sway_170 (by decide) ?_
      refine f_lv C (lv2 := [(0, .ref (B + 101)), (1, .int x1), (2, .int x2), (3, .int x3_22), (4, .int x4_24)]) [2, 3, 4, 1, 0] rfl ?_
      exact hK85 _ _ _ h
  · replace h := Eq.mp (if_neg hq_14) h
    refine f_aload_n C (j := 0) dX12_sway_106 rfl rfl rfl ?_
    refine f_getc C tF_X12_35 rfl o101 cs101_20 (by decide) dX12_sway_107 rfl ?_
    refine f_bipush C (v := 58) dX12_sway_110 kb58 rfl ?_
    refine f_bipush C (v := 12) dX12_sway_112 kb12 rfl ?_
    refine f_iload_n C (j := 1) dX12_sway_114 rfl rfl rfl ?_
    refine f_imul C dX12_sway_115 rfl ?_
    refine f_iadd C dX12_sway_116 rfl ?_
    refine f_iload C (j := 5) dX12_sway_117 rfl rfl ?_
    refine f_iadd C dX12_sway_119 rfl ?_
    refine f_iload C (j := 5) dX12_sway_120 rfl rfl ?_
    refine f_iload C (j := 4) dX12_sway_122 rfl rfl ?_
    refine f_icmp_ne C (t := 132) dX12_sway_124 (by decide) rfl (fun hq_26 => ?_) (fun hq_26 => ?_)
    · replace h := Eq.mp (if_neg hq_26) h
      refine f_iconst C (v := 0) dX12_sway_132 kc0 rfl ?_
      obtain ⟨hi_27, h⟩ := h
      refine f_iast C (j := tn ((58 + (12 * x1)) + x5)) a106 hi_27 rfl dX12_sway_133 rfl ?_
      obtain ⟨x5_28, hx_29⟩ : ∃ y : Int32, y = x5 + 1 := ⟨_, rfl⟩
      replace h := h x5_28 hx_29
      refine f_iinc C (j := 5) (v := x5_28) (lv2 := [(5, .int x5_28), (0, .ref (B + 101)), (1, .int x1), (2, .int x2), (3, .int x3), (4, .int x4)]) dX12_sway_134 rfl hx_29.symm (by decide) rfl rfl ?_
      refine f_goto C (t := 99) dX12_sway_137 (by decide) ?_
      refine f_lv C (lv2 := [(0, .ref (B + 101)), (1, .int x1), (2, .int x2), (3, .int x3), (4, .int x4), (5, .int x5_28)]) [1, 2, 3, 4, 5, 0] rfl ?_
      exact hK99 _ _ h
    · replace h := Eq.mp (if_pos hq_26) h
      refine f_bipush C (v := 9) dX12_sway_127 kb9 rfl ?_
      refine f_goto C (t := 133) dX12_sway_129 (by decide) ?_
      obtain ⟨hi_30, h⟩ := h
      refine f_iast C (j := tn ((58 + (12 * x1)) + x5)) a106 hi_30 rfl dX12_sway_133 rfl ?_
      obtain ⟨x5_31, hx_32⟩ : ∃ y : Int32, y = x5 + 1 := ⟨_, rfl⟩
      replace h := h x5_31 hx_32
      refine f_iinc C (j := 5) (v := x5_31) (lv2 := [(5, .int x5_31), (0, .ref (B + 101)), (1, .int x1), (2, .int x2), (3, .int x3), (4, .int x4)]) dX12_sway_134 rfl hx_32.symm (by decide) rfl rfl ?_
      refine f_goto C (t := 99) dX12_sway_137 (by decide) ?_
      refine f_lv C (lv2 := [(0, .ref (B + 101)), (1, .int x1), (2, .int x2), (3, .int x3), (4, .int x4), (5, .int x5_31)]) [1, 2, 3, 4, 5, 0] rfl ?_
      exact hK99 _ _ h
def w_X12_sway_85 (K85 : Int32 × Int32 × Sto → Prop) (x1 : Int32) (x2 : Int32) (x3 : Int32) (x4 : Int32) (σ : Sto) (P : Int32 → Sto → Prop) : Prop :=
  (if (gi σ 106 0) ≤ x4 then Lp (fun (K : Int32 × Sto → Prop) s => w_X12_sway_176 K x1 x3 s.1 s.2 P) (0, σ) else Lp (fun (K : Int32 × Sto → Prop) s => w_X12_sway_99 K85 K x1 x2 x3 x4 s.1 s.2 P) (0, σ))
theorem s_X12_sway_85 {B : Nat} {E : Nat → List (Nat × Value) → List Value → Sto → Prop} {P : Int32 → Sto → Prop} (C : Cy B E RX12 cX12_sway 6 (some .int) 5 109 (Zm (QFi P))) (x1 : Int32) (x2 : Int32) (x3 : Int32) (x4 : Int32) (K85 : Int32 × Int32 × Sto → Prop) (hK85 : ∀ (x3 : Int32) (x4 : Int32) (σ : Sto), K85 (x3, x4, σ) → E 85 [(0, .ref (B + 101)), (1, .int x1), (2, .int x2), (3, .int x3), (4, .int x4)] [] σ) (σ : Sto) (h : w_X12_sway_85 K85 x1 x2 x3 x4 σ P) : E 85 [(0, .ref (B + 101)), (1, .int x1), (2, .int x2), (3, .int x3), (4, .int x4)] [] σ := by
  unfold w_X12_sway_85 at h
  refine f_iload C (j := 4) dX12_sway_85 rfl rfl ?_
  refine f_aload_n C (j := 0) dX12_sway_87 rfl rfl rfl ?_
  refine f_getc C tF_X12_35 rfl o101 cs101_20 (by decide) dX12_sway_88 rfl ?_
  refine f_iconst C (v := 0) dX12_sway_91 kc0 rfl ?_
  refine f_iald C (j := 0) a106 (vp_lit (by decide)) rfl dX12_sway_92 rfl ?_
  refine f_icmp_ge C (t := 173) dX12_sway_93 (by decide) rfl (fun hq_8 => ?_) (fun hq_8 => ?_)
  · replace h := Eq.mp (if_pos hq_8) h
    refine f_iconst C (v := 0) dX12_sway_173 kc0 rfl ?_
    refine f_istore C (lv2 := [(4, .int 0), (0, .ref (B + 101)), (1, .int x1), (2, .int x2), (3, .int x3)]) dX12_sway_174 (by decide) rfl rfl ?_
    refine f_lv C (lv2 := [(0, .ref (B + 101)), (1, .int x1), (3, .int x3), (4, .int 0)]) [1, 2, 4, 0] rfl ?_
    exact Lp_sound (fun s : Int32 × Sto => E 176 [(0, .ref (B + 101)), (1, .int x1), (3, .int x3), (4, .int s.1)] [] s.2) h (fun K s hK h => s_X12_sway_176 C x1 x3 s.1 K (fun x4 σ hk => hK (x4, σ) hk) s.2 h)
  · replace h := Eq.mp (if_neg hq_8) h
    refine f_iconst C (v := 0) dX12_sway_96 kc0 rfl ?_
    refine f_istore C (lv2 := [(5, .int 0), (0, .ref (B + 101)), (1, .int x1), (2, .int x2), (3, .int x3), (4, .int x4)]) dX12_sway_97 (by decide) rfl rfl ?_
    refine f_lv C (lv2 := [(0, .ref (B + 101)), (1, .int x1), (2, .int x2), (3, .int x3), (4, .int x4), (5, .int 0)]) [1, 2, 3, 4, 5, 0] rfl ?_
    exact Lp_sound (fun s : Int32 × Sto => E 99 [(0, .ref (B + 101)), (1, .int x1), (2, .int x2), (3, .int x3), (4, .int x4), (5, .int s.1)] [] s.2) h (fun K s hK h => s_X12_sway_99 C x1 x2 x3 x4 s.1 K85 K hK85 (fun x5 σ hk => hK (x5, σ) hk) s.2 h)
def w_X12_sway_48 (K48 : Int32 × Sto → Prop) (x1 : Int32) (x2 : Int32) (x3 : Int32) (σ : Sto) (P : Int32 → Sto → Prop) : Prop :=
  (if 12 ≤ x3 then Lp (fun (K : Int32 × Int32 × Sto → Prop) s => w_X12_sway_85 K x1 x2 s.1 s.2.1 s.2.2 P) (0, 0, σ) else vp_in ((58 + (12 * x1)) + x3) 2105 ∧ vp_in x3 12 ∧ ∀ x3_35 : Int32, x3_35 = x3 + 1 → K48 (x3_35, si σ 111 (tn x3) (gi σ 106 (tn ((58 + (12 * x1)) + x3)))))
theorem s_X12_sway_48 {B : Nat} {E : Nat → List (Nat × Value) → List Value → Sto → Prop} {P : Int32 → Sto → Prop} (C : Cy B E RX12 cX12_sway 6 (some .int) 5 109 (Zm (QFi P))) (x1 : Int32) (x2 : Int32) (x3 : Int32) (K48 : Int32 × Sto → Prop) (hK48 : ∀ (x3 : Int32) (σ : Sto), K48 (x3, σ) → E 48 [(0, .ref (B + 101)), (1, .int x1), (2, .int x2), (3, .int x3)] [] σ) (σ : Sto) (h : w_X12_sway_48 K48 x1 x2 x3 σ P) : E 48 [(0, .ref (B + 101)), (1, .int x1), (2, .int x2), (3, .int x3)] [] σ := by
  unfold w_X12_sway_48 at h
  refine f_iload_n C (j := 3) dX12_sway_48 rfl rfl rfl ?_
  refine f_bipush C (v := 12) dX12_sway_49 kb12 rfl ?_
  refine f_icmp_ge C (t := 80) dX12_sway_51 (by decide) rfl (fun hq_7 => ?_) (fun hq_7 => ?_)
  · replace h := Eq.mp (if_pos hq_7) h
    refine f_iconst C (v := 0) dX12_sway_80 kc0 rfl ?_
    refine f_istore_n C (lv2 := [(3, .int 0), (0, .ref (B + 101)), (1, .int x1), (2, .int x2)]) dX12_sway_81 rfl (by decide) rfl rfl ?_
    refine f_iconst C (v := 0) dX12_sway_82 kc0 rfl ?_
    refine f_istore C (lv2 := [(4, .int 0), (3, .int 0), (0, .ref (B + 101)), (1, .int x1), (2, .int x2)]) dX12_sway_83 (by decide) rfl rfl ?_
    refine f_lv C (lv2 := [(0, .ref (B + 101)), (1, .int x1), (2, .int x2), (3, .int 0), (4, .int 0)]) [2, 3, 4, 1, 0] rfl ?_
    exact Lp_sound (fun s : Int32 × Int32 × Sto => E 85 [(0, .ref (B + 101)), (1, .int x1), (2, .int x2), (3, .int s.1), (4, .int s.2.1)] [] s.2.2) h (fun K s hK h => s_X12_sway_85 C x1 x2 s.1 s.2.1 K (fun x3 x4 σ hk => hK (x3, x4, σ) hk) s.2.2 h)
  · replace h := Eq.mp (if_neg hq_7) h
    refine f_aload_n C (j := 0) dX12_sway_54 rfl rfl rfl ?_
    refine f_getc C tF_X12_50 rfl o101 cs101_28 (by decide) dX12_sway_55 rfl ?_
    refine f_iload_n C (j := 3) dX12_sway_58 rfl rfl rfl ?_
    refine f_aload_n C (j := 0) dX12_sway_59 rfl rfl rfl ?_
    refine f_getc C tF_X12_35 rfl o101 cs101_20 (by decide) dX12_sway_60 rfl ?_
    refine f_bipush C (v := 58) dX12_sway_63 kb58 rfl ?_
    refine f_bipush C (v := 12) dX12_sway_65 kb12 rfl ?_
    refine f_iload_n C (j := 1) dX12_sway_67 rfl rfl rfl ?_
    refine f_imul C dX12_sway_68 rfl ?_
    refine f_iadd C dX12_sway_69 rfl ?_
    refine f_iload_n C (j := 3) dX12_sway_70 rfl rfl rfl ?_
    refine f_iadd C dX12_sway_71 rfl ?_
    obtain ⟨hi_33, h⟩ := h
    refine f_iald C (j := tn ((58 + (12 * x1)) + x3)) a106 hi_33 rfl dX12_sway_72 rfl ?_
    obtain ⟨hi_34, h⟩ := h
    refine f_iast C (j := tn x3) a111 hi_34 rfl dX12_sway_73 rfl ?_
    obtain ⟨x3_35, hx_36⟩ : ∃ y : Int32, y = x3 + 1 := ⟨_, rfl⟩
    replace h := h x3_35 hx_36
    refine f_iinc C (j := 3) (v := x3_35) (lv2 := [(3, .int x3_35), (0, .ref (B + 101)), (1, .int x1), (2, .int x2)]) dX12_sway_74 rfl hx_36.symm (by decide) rfl rfl ?_
    refine f_goto C (t := 48) dX12_sway_77 (by decide) ?_
    refine f_lv C (lv2 := [(0, .ref (B + 101)), (1, .int x1), (2, .int x2), (3, .int x3_35)]) [1, 2, 3, 0] rfl ?_
    exact hK48 _ _ h
def w_X12_sway (x1 : Int32) (σ : Sto) (P : Int32 → Sto → Prop) : Prop :=
  w_X12_isVoterAt x1 (si (si σ 101 1 0) 101 0 0) (fun r_2 σ_1 => (if r_2 = 0 then w_X12_refuse 2 σ_1 (fun r_40 σ_39 => P r_40 σ_39) else (if (gi σ_1 106 4) = 2 then w_X12_refuse 9 σ_1 (fun r_38 σ_37 => P r_38 σ_37) else w_X12_inVote σ_1 (fun r_6 σ_5 => Lp (fun (K : Int32 × Sto → Prop) s => w_X12_sway_48 K x1 r_6 s.1 s.2 P) (0, σ_5)))))
theorem s_X12_sway {B : Nat} {E : Nat → List (Nat × Value) → List Value → Sto → Prop} {P : Int32 → Sto → Prop} (C : Cy B E RX12 cX12_sway 6 (some .int) 5 109 (Zm (QFi P))) (x1 : Int32) (σ : Sto) (h : w_X12_sway x1 σ P) : E 0 [(0, .ref (B + 101)), (1, .int x1)] [] σ := by
  unfold w_X12_sway at h
  refine f_aload_n C (j := 0) dX12_sway_0 rfl rfl rfl ?_
  refine f_iconst C (v := 0) dX12_sway_1 kc0 rfl ?_
  refine f_puti C tF_X12_74 fm_12_1 rfl o101 dX12_sway_2 rfl ?_
  refine f_aload_n C (j := 0) dX12_sway_5 rfl rfl rfl ?_
  refine f_iconst C (v := 0) dX12_sway_6 kc0 rfl ?_
  refine f_puti C tF_X12_77 fm_12_0 rfl o101 dX12_sway_7 rfl ?_
  refine f_aload_n C (j := 0) dX12_sway_10 rfl rfl rfl ?_
  refine f_iload_n C (j := 1) dX12_sway_11 rfl rfl rfl ?_
  refine f_callVi C (a := 101) (ci := 12) (As := fun B => [.int x1]) o101 rfl (c_X12_isVoterAt  _ _ _ h) tM_X12_345 tI_X12_isVoterAt tS_X12_isVoterAt tN_X12 tC_X12_isVoterAt 1 dd_X12_isVoterAt rfl (by decide) (by decide) rfl (Nat.le_of_ble_eq_true rfl) dX12_sway_12 rfl (fun r_2 σ_1 h => ?_)
  refine f_if_ne C (t := 24) dX12_sway_15 (by decide) rfl (fun hq_3 => ?_) (fun hq_3 => ?_)
  · replace h := Eq.mp (if_neg hq_3) h
    refine f_aload_n C (j := 0) dX12_sway_24 rfl rfl rfl ?_
    refine f_getc C tF_X12_35 rfl o101 cs101_20 (by decide) dX12_sway_25 rfl ?_
    refine f_iconst C (v := 4) dX12_sway_28 kc4 rfl ?_
    refine f_iald C (j := 4) a106 (vp_lit (by decide)) rfl dX12_sway_29 rfl ?_
    refine f_iconst C (v := 2) dX12_sway_30 kc2 rfl ?_
    refine f_icmp_ne C (t := 41) dX12_sway_31 (by decide) rfl (fun hq_4 => ?_) (fun hq_4 => ?_)
    · replace h := Eq.mp (if_neg hq_4) h
      refine f_aload_n C (j := 0) dX12_sway_41 rfl rfl rfl ?_
      refine f_callVi C (a := 101) (ci := 12) (As := fun B => []) o101 rfl (c_X12_inVote   _ _ h) tM_X12_370 tI_X12_inVote tS_X12_inVote tN_X12 tC_X12_inVote 0 dd_X12_inVote rfl (by decide) (by decide) rfl (Nat.le_of_ble_eq_true rfl) dX12_sway_42 rfl (fun r_6 σ_5 h => ?_)
      refine f_istore_n C (lv2 := [(2, .int r_6), (0, .ref (B + 101)), (1, .int x1)]) dX12_sway_45 rfl (by decide) rfl rfl ?_
      refine f_iconst C (v := 0) dX12_sway_46 kc0 rfl ?_
      refine f_istore_n C (lv2 := [(3, .int 0), (2, .int r_6), (0, .ref (B + 101)), (1, .int x1)]) dX12_sway_47 rfl (by decide) rfl rfl ?_
      refine f_lv C (lv2 := [(0, .ref (B + 101)), (1, .int x1), (2, .int r_6), (3, .int 0)]) [2, 3, 1, 0] rfl ?_
      exact Lp_sound (fun s : Int32 × Sto => E 48 [(0, .ref (B + 101)), (1, .int x1), (2, .int r_6), (3, .int s.1)] [] s.2) h (fun K s hK h => s_X12_sway_48 C x1 r_6 s.1 K (fun x3 σ hk => hK (x3, σ) hk) s.2 h)
    · replace h := Eq.mp (if_pos hq_4) h
      refine f_aload_n C (j := 0) dX12_sway_34 rfl rfl rfl ?_
      refine f_bipush C (v := 9) dX12_sway_35 kb9 rfl ?_
      refine f_callVi C (a := 101) (ci := 12) (As := fun B => [.int 9]) o101 rfl (c_X12_refuse  _ _ _ h) tM_X12_327 tI_X12_refuse tS_X12_refuse tN_X12 tC_X12_refuse 1 dd_X12_refuse rfl (by decide) (by decide) rfl (Nat.le_of_ble_eq_true rfl) dX12_sway_37 rfl (fun r_38 σ_37 h => ?_)
      exact f_iret C dX12_sway_40 h
  · replace h := Eq.mp (if_pos hq_3) h
    refine f_aload_n C (j := 0) dX12_sway_18 rfl rfl rfl ?_
    refine f_iconst C (v := 2) dX12_sway_19 kc2 rfl ?_
    refine f_callVi C (a := 101) (ci := 12) (As := fun B => [.int 2]) o101 rfl (c_X12_refuse  _ _ _ h) tM_X12_327 tI_X12_refuse tS_X12_refuse tN_X12 tC_X12_refuse 1 dd_X12_refuse rfl (by decide) (by decide) rfl (Nat.le_of_ble_eq_true rfl) dX12_sway_20 rfl (fun r_40 σ_39 h => ?_)
    exact f_iret C dX12_sway_23 h
theorem c_X12_sway (x1 : Int32) (σ : Sto) (P : Int32 → Sto → Prop) (h : w_X12_sway x1 σ P) : Ct yX12_sway cX12_sway 6 (some .int) 5 109 (fun B => [.ref (B + 101), .int x1]) σ (QFi P) := Ct.of (by decide) (fun _ => Nat.le_of_ble_eq_true rfl) (fun B E C => s_X12_sway C x1 σ h)
def w_X12_goesYear_46 (x1 : Int32) (σ : Sto) (P : Int32 → Sto → Prop) : Prop :=
  (if x1 < 0 then P 0 σ else P 1 σ)
theorem s_X12_goesYear_46 {B : Nat} {E : Nat → List (Nat × Value) → List Value → Sto → Prop} {P : Int32 → Sto → Prop} (C : Cy B E RX12 cX12_goesYear 2 (some .boolean) 5 118 (Zm (QFi P))) (x1 : Int32) (σ : Sto) (h : w_X12_goesYear_46 x1 σ P) : E 46 [(0, .ref (B + 101)), (1, .int x1)] [] σ := by
  unfold w_X12_goesYear_46 at h
  refine f_iload_n C (j := 1) dX12_goesYear_46 rfl rfl rfl ?_
  refine f_if_lt C (t := 54) dX12_goesYear_47 (by decide) rfl (fun hq_4 => ?_) (fun hq_4 => ?_)
  · replace h := Eq.mp (if_pos hq_4) h
    refine f_iconst C (v := 0) dX12_goesYear_54 kc0 rfl ?_
    exact f_zret C (Or.inl rfl) dX12_goesYear_55 h
  · replace h := Eq.mp (if_neg hq_4) h
    refine f_iconst C (v := 1) dX12_goesYear_50 kc1 rfl ?_
    refine f_goto C (t := 55) dX12_goesYear_51 (by decide) ?_
    exact f_zret C (Or.inr rfl) dX12_goesYear_55 h
def w_X12_goesYear (σ : Sto) (P : Int32 → Sto → Prop) : Prop :=
  w_X12_voted (gi σ 106 6) (gi σ 106 7) σ (fun r_2 σ_1 => (if r_2 < 0 then w_X12_goesYear_46 r_2 (si σ_1 106 5 ((gi σ_1 106 5) + 1)) P else ∀ σ_5 : Sto, σ_5 = si σ_1 106 5 ((gi σ_1 106 5) + 1) → w_X12_goesYear_46 r_2 (si σ_5 106 6 ((gi σ_5 106 6) ||| (1 <<< (r_2 &&& 31)))) P))
theorem s_X12_goesYear {B : Nat} {E : Nat → List (Nat × Value) → List Value → Sto → Prop} {P : Int32 → Sto → Prop} (C : Cy B E RX12 cX12_goesYear 2 (some .boolean) 5 118 (Zm (QFi P))) (σ : Sto) (h : w_X12_goesYear σ P) : E 0 [(0, .ref (B + 101))] [] σ := by
  unfold w_X12_goesYear at h
  refine f_aload_n C (j := 0) dX12_goesYear_0 rfl rfl rfl ?_
  refine f_aload_n C (j := 0) dX12_goesYear_1 rfl rfl rfl ?_
  refine f_getc C tF_X12_35 rfl o101 cs101_20 (by decide) dX12_goesYear_2 rfl ?_
  refine f_bipush C (v := 6) dX12_goesYear_5 kb6 rfl ?_
  refine f_iald C (j := 6) a106 (vp_lit (by decide)) rfl dX12_goesYear_7 rfl ?_
  refine f_aload_n C (j := 0) dX12_goesYear_8 rfl rfl rfl ?_
  refine f_getc C tF_X12_35 rfl o101 cs101_20 (by decide) dX12_goesYear_9 rfl ?_
  refine f_bipush C (v := 7) dX12_goesYear_12 kb7 rfl ?_
  refine f_iald C (j := 7) a106 (vp_lit (by decide)) rfl dX12_goesYear_14 rfl ?_
  refine f_callVi C (a := 101) (ci := 12) (As := fun B => [.int (gi σ 106 6), .int (gi σ 106 7)]) o101 rfl (c_X12_voted  _ _ _ _ h) tM_X12_367 tI_X12_voted tS_X12_voted tN_X12 tC_X12_voted 2 dd_X12_voted rfl (by decide) (by decide) rfl (Nat.le_of_ble_eq_true rfl) dX12_goesYear_15 rfl (fun r_2 σ_1 h => ?_)
  refine f_istore_n C (lv2 := [(1, .int r_2), (0, .ref (B + 101))]) dX12_goesYear_18 rfl (by decide) rfl rfl ?_
  refine f_aload_n C (j := 1) dX12_goesYear_19 rfl rfl rfl ?_
  refine f_getc C tF_X12_35 rfl o101 cs101_20 (by decide) dX12_goesYear_20 rfl ?_
  refine f_iconst C (v := 5) dX12_goesYear_23 kc5 rfl ?_
  refine f_dup2 C dX12_goesYear_24 rfl rfl rfl ?_
  refine f_iald C (j := 5) a106 (vp_lit (by decide)) rfl dX12_goesYear_25 rfl ?_
  refine f_iconst C (v := 1) dX12_goesYear_26 kc1 rfl ?_
  refine f_iadd C dX12_goesYear_27 rfl ?_
  refine f_iast C (j := 5) a106 (vp_lit (by decide)) rfl dX12_goesYear_28 rfl ?_
  refine f_iload_n C (j := 0) dX12_goesYear_29 rfl rfl rfl ?_
  refine f_if_lt C (t := 46) dX12_goesYear_30 (by decide) rfl (fun hq_3 => ?_) (fun hq_3 => ?_)
  · replace h := Eq.mp (if_pos hq_3) h
    refine f_lv C (lv2 := [(0, .ref (B + 101)), (1, .int r_2)]) [1, 0] rfl ?_
    exact s_X12_goesYear_46 C _  _ h
  · replace h := Eq.mp (if_neg hq_3) h
    refine f_aload_n C (j := 1) dX12_goesYear_33 rfl rfl rfl ?_
    refine f_getc C tF_X12_35 rfl o101 cs101_20 (by decide) dX12_goesYear_34 rfl ?_
    refine f_bipush C (v := 6) dX12_goesYear_37 kb6 rfl ?_
    refine f_dup2 C dX12_goesYear_39 rfl rfl rfl ?_
    refine f_names (fun σ_5 hσ_6 => ?_)
    replace h := h σ_5 hσ_6
    refine f_iald C (j := 6) a106 (vp_lit (by decide)) rfl dX12_goesYear_40 rfl ?_
    refine f_iconst C (v := 1) dX12_goesYear_41 kc1 rfl ?_
    refine f_iload_n C (j := 0) dX12_goesYear_42 rfl rfl rfl ?_
    refine f_ishl C dX12_goesYear_43 rfl ?_
    refine f_ior C dX12_goesYear_44 rfl ?_
    refine f_iast C (j := 6) a106 (vp_lit (by decide)) rfl dX12_goesYear_45 rfl ?_
    refine f_lv C (lv2 := [(0, .ref (B + 101)), (1, .int r_2)]) [1, 0] rfl ?_
    exact s_X12_goesYear_46 C _  _ h
theorem c_X12_goesYear (σ : Sto) (P : Int32 → Sto → Prop) (h : w_X12_goesYear σ P) : Ct yX12_goesYear cX12_goesYear 2 (some .boolean) 5 118 (fun B => [.ref (B + 101)]) σ (QFi P) := Ct.of (by decide) (fun _ => Nat.le_of_ble_eq_true rfl) (fun B E C => s_X12_goesYear C σ h)
def w_X12_year_59 (K59 : Int32 × Sto → Prop) (x1 : Int32) (x2 : Int32) (x3 : Int32) (σ : Sto) (P : Int32 → Sto → Prop) : Prop :=
  (if x1 ≤ x3 then P ((gi σ 106 6) &&& (~~~x2)) σ else w_X12_goesYear σ (fun r_9 σ_8 => ∀ x3_10 : Int32, x3_10 = x3 + 1 → K59 (x3_10, σ_8)))
theorem s_X12_year_59 {B : Nat} {E : Nat → List (Nat × Value) → List Value → Sto → Prop} {P : Int32 → Sto → Prop} (C : Cy B E RX12 cX12_year 4 (some .int) 6 139 (Zm (QFi P))) (x1 : Int32) (x2 : Int32) (x3 : Int32) (K59 : Int32 × Sto → Prop) (hK59 : ∀ (x3 : Int32) (σ : Sto), K59 (x3, σ) → E 59 [(0, .ref (B + 101)), (1, .int x1), (2, .int x2), (3, .int x3)] [] σ) (σ : Sto) (h : w_X12_year_59 K59 x1 x2 x3 σ P) : E 59 [(0, .ref (B + 101)), (1, .int x1), (2, .int x2), (3, .int x3)] [] σ := by
  unfold w_X12_year_59 at h
  refine f_iload_n C (j := 3) dX12_year_59 rfl rfl rfl ?_
  refine f_iload_n C (j := 1) dX12_year_60 rfl rfl rfl ?_
  refine f_icmp_ge C (t := 75) dX12_year_61 (by decide) rfl (fun hq_7 => ?_) (fun hq_7 => ?_)
  · replace h := Eq.mp (if_pos hq_7) h
    refine f_aload_n C (j := 0) dX12_year_75 rfl rfl rfl ?_
    refine f_getc C tF_X12_35 rfl o101 cs101_20 (by decide) dX12_year_76 rfl ?_
    refine f_bipush C (v := 6) dX12_year_79 kb6 rfl ?_
    refine f_iald C (j := 6) a106 (vp_lit (by decide)) rfl dX12_year_81 rfl ?_
    refine f_iload_n C (j := 2) dX12_year_82 rfl rfl rfl ?_
    refine f_iconst C (v := (-1)) dX12_year_83 kcm1 rfl ?_
    refine f_inot C dX12_year_84 rfl ?_
    refine f_iand C dX12_year_85 rfl ?_
    exact f_iret C dX12_year_86 h
  · replace h := Eq.mp (if_neg hq_7) h
    refine f_aload_n C (j := 0) dX12_year_64 rfl rfl rfl ?_
    refine f_callVi C (a := 101) (ci := 12) (As := fun B => []) o101 rfl (c_X12_goesYear   _ _ h) tM_X12_377 tI_X12_goesYear tS_X12_goesYear tN_X12 tC_X12_goesYear 0 dd_X12_goesYear rfl (by decide) (by decide) rfl (Nat.le_of_ble_eq_true rfl) dX12_year_65 rfl (fun r_9 σ_8 h => ?_)
    refine f_pop C dX12_year_68 rfl rfl ?_
    obtain ⟨x3_10, hx_11⟩ : ∃ y : Int32, y = x3 + 1 := ⟨_, rfl⟩
    replace h := h x3_10 hx_11
    refine f_iinc C (j := 3) (v := x3_10) (lv2 := [(3, .int x3_10), (0, .ref (B + 101)), (1, .int x1), (2, .int x2)]) dX12_year_69 rfl hx_11.symm (by decide) rfl rfl ?_
    refine f_goto C (t := 59) dX12_year_72 (by decide) ?_
    refine f_lv C (lv2 := [(0, .ref (B + 101)), (1, .int x1), (2, .int x2), (3, .int x3_10)]) [1, 2, 3, 0] rfl ?_
    exact hK59 _ _ h
def w_X12_year (x1 : Int32) (σ : Sto) (P : Int32 → Sto → Prop) : Prop :=
  w_X12_isIn x1.toInt64 1 99 (si (si σ 101 1 0) 101 0 0) (fun r_2 σ_1 => (if r_2 = 0 then w_X12_refuse 5 σ_1 (fun r_15 σ_14 => P r_15 σ_14) else (if ((gi σ_1 106 5) + x1) ≤ 9999 then ∀ x2_5 : Int32, x2_5 = gi σ_1 106 6 → Lp (fun (K : Int32 × Sto → Prop) s => w_X12_year_59 K x1 x2_5 s.1 s.2 P) (0, σ_1) else w_X12_refuse 7 σ_1 (fun r_13 σ_12 => P r_13 σ_12))))
theorem s_X12_year {B : Nat} {E : Nat → List (Nat × Value) → List Value → Sto → Prop} {P : Int32 → Sto → Prop} (C : Cy B E RX12 cX12_year 4 (some .int) 6 139 (Zm (QFi P))) (x1 : Int32) (σ : Sto) (h : w_X12_year x1 σ P) : E 0 [(0, .ref (B + 101)), (1, .int x1)] [] σ := by
  unfold w_X12_year at h
  refine f_aload_n C (j := 0) dX12_year_0 rfl rfl rfl ?_
  refine f_iconst C (v := 0) dX12_year_1 kc0 rfl ?_
  refine f_puti C tF_X12_74 fm_12_1 rfl o101 dX12_year_2 rfl ?_
  refine f_aload_n C (j := 0) dX12_year_5 rfl rfl rfl ?_
  refine f_iconst C (v := 0) dX12_year_6 kc0 rfl ?_
  refine f_puti C tF_X12_77 fm_12_0 rfl o101 dX12_year_7 rfl ?_
  refine f_iload_n C (j := 1) dX12_year_10 rfl rfl rfl ?_
  refine f_i2l C dX12_year_11 rfl ?_
  refine f_lconst C (v := 1) dX12_year_12 (by decide) rfl ?_
  refine f_ldc2_w C tL_X12_375 dX12_year_13 rfl ?_
  refine f_callSi C (As := fun B => [.long x1.toInt64, .long 1, .long 99]) (c_X12_isIn  _ _ _ _ _ h) tM_X12_109 tT_X12_isIn tN_X12 tC_X12_isIn 3 dd_X12_isIn rfl (by decide) (by decide) rfl (Nat.le_of_ble_eq_true rfl) dX12_year_16 rfl (fun r_2 σ_1 h => ?_)
  refine f_if_ne C (t := 28) dX12_year_19 (by decide) rfl (fun hq_3 => ?_) (fun hq_3 => ?_)
  · replace h := Eq.mp (if_neg hq_3) h
    refine f_aload_n C (j := 0) dX12_year_28 rfl rfl rfl ?_
    refine f_getc C tF_X12_35 rfl o101 cs101_20 (by decide) dX12_year_29 rfl ?_
    refine f_iconst C (v := 5) dX12_year_32 kc5 rfl ?_
    refine f_iald C (j := 5) a106 (vp_lit (by decide)) rfl dX12_year_33 rfl ?_
    refine f_iload_n C (j := 1) dX12_year_34 rfl rfl rfl ?_
    refine f_iadd C dX12_year_35 rfl ?_
    refine f_sipush C (v := 9999) dX12_year_36 ks9999 rfl ?_
    refine f_icmp_le C (t := 49) dX12_year_39 (by decide) rfl (fun hq_4 => ?_) (fun hq_4 => ?_)
    · replace h := Eq.mp (if_pos hq_4) h
      refine f_aload_n C (j := 0) dX12_year_49 rfl rfl rfl ?_
      refine f_getc C tF_X12_35 rfl o101 cs101_20 (by decide) dX12_year_50 rfl ?_
      refine f_bipush C (v := 6) dX12_year_53 kb6 rfl ?_
      refine f_iald C (j := 6) a106 (vp_lit (by decide)) rfl dX12_year_55 rfl ?_
      refine f_name (fun x2_5 hx_6 => ?_)
      replace h := h x2_5 hx_6
      refine f_istore_n C (lv2 := [(2, .int x2_5), (0, .ref (B + 101)), (1, .int x1)]) dX12_year_56 rfl (by decide) rfl rfl ?_
      refine f_iconst C (v := 0) dX12_year_57 kc0 rfl ?_
      refine f_istore_n C (lv2 := [(3, .int 0), (2, .int x2_5), (0, .ref (B + 101)), (1, .int x1)]) dX12_year_58 rfl (by decide) rfl rfl ?_
      refine f_lv C (lv2 := [(0, .ref (B + 101)), (1, .int x1), (2, .int x2_5), (3, .int 0)]) [2, 3, 1, 0] rfl ?_
      exact Lp_sound (fun s : Int32 × Sto => E 59 [(0, .ref (B + 101)), (1, .int x1), (2, .int x2_5), (3, .int s.1)] [] s.2) h (fun K s hK h => s_X12_year_59 C x1 x2_5 s.1 K (fun x3 σ hk => hK (x3, σ) hk) s.2 h)
    · replace h := Eq.mp (if_neg hq_4) h
      refine f_aload_n C (j := 0) dX12_year_42 rfl rfl rfl ?_
      refine f_bipush C (v := 7) dX12_year_43 kb7 rfl ?_
      refine f_callVi C (a := 101) (ci := 12) (As := fun B => [.int 7]) o101 rfl (c_X12_refuse  _ _ _ h) tM_X12_327 tI_X12_refuse tS_X12_refuse tN_X12 tC_X12_refuse 1 dd_X12_refuse rfl (by decide) (by decide) rfl (Nat.le_of_ble_eq_true rfl) dX12_year_45 rfl (fun r_13 σ_12 h => ?_)
      exact f_iret C dX12_year_48 h
  · replace h := Eq.mp (if_pos hq_3) h
    refine f_aload_n C (j := 0) dX12_year_22 rfl rfl rfl ?_
    refine f_iconst C (v := 5) dX12_year_23 kc5 rfl ?_
    refine f_callVi C (a := 101) (ci := 12) (As := fun B => [.int 5]) o101 rfl (c_X12_refuse  _ _ _ h) tM_X12_327 tI_X12_refuse tS_X12_refuse tN_X12 tC_X12_refuse 1 dd_X12_refuse rfl (by decide) (by decide) rfl (Nat.le_of_ble_eq_true rfl) dX12_year_24 rfl (fun r_15 σ_14 h => ?_)
    exact f_iret C dX12_year_27 h
theorem c_X12_year (x1 : Int32) (σ : Sto) (P : Int32 → Sto → Prop) (h : w_X12_year x1 σ P) : Ct yX12_year cX12_year 4 (some .int) 6 139 (fun B => [.ref (B + 101), .int x1]) σ (QFi P) := Ct.of (by decide) (fun _ => Nat.le_of_ble_eq_true rfl) (fun B E C => s_X12_year C x1 σ h)
def w_X12_canUnmake (x1 : Int32) (σ : Sto) (P : Int32 → Sto → Prop) : Prop :=
  w_X12_has ((gi σ 106 6) ||| (gi σ 106 7)) x1 σ (fun r_2 σ_1 => (if r_2 = 0 then P 1 σ_1 else P 0 σ_1))
theorem s_X12_canUnmake {B : Nat} {E : Nat → List (Nat × Value) → List Value → Sto → Prop} {P : Int32 → Sto → Prop} (C : Cy B E RX12 cX12_canUnmake 2 (some .boolean) 1 21 (Zm (QFi P))) (x1 : Int32) (σ : Sto) (h : w_X12_canUnmake x1 σ P) : E 0 [(0, .ref (B + 101)), (1, .int x1)] [] σ := by
  unfold w_X12_canUnmake at h
  refine f_aload_n C (j := 0) dX12_canUnmake_0 rfl rfl rfl ?_
  refine f_getc C tF_X12_35 rfl o101 cs101_20 (by decide) dX12_canUnmake_1 rfl ?_
  refine f_bipush C (v := 6) dX12_canUnmake_4 kb6 rfl ?_
  refine f_iald C (j := 6) a106 (vp_lit (by decide)) rfl dX12_canUnmake_6 rfl ?_
  refine f_aload_n C (j := 0) dX12_canUnmake_7 rfl rfl rfl ?_
  refine f_getc C tF_X12_35 rfl o101 cs101_20 (by decide) dX12_canUnmake_8 rfl ?_
  refine f_bipush C (v := 7) dX12_canUnmake_11 kb7 rfl ?_
  refine f_iald C (j := 7) a106 (vp_lit (by decide)) rfl dX12_canUnmake_13 rfl ?_
  refine f_ior C dX12_canUnmake_14 rfl ?_
  refine f_iload_n C (j := 1) dX12_canUnmake_15 rfl rfl rfl ?_
  refine f_callSi C (As := fun B => [.int ((gi σ 106 6) ||| (gi σ 106 7)), .int x1]) (c_X12_has  _ _ _ _ h) tM_X12_113 tT_X12_has tN_X12 tC_X12_has 2 dd_X12_has rfl (by decide) (by decide) rfl (Nat.le_of_ble_eq_true rfl) dX12_canUnmake_16 rfl (fun r_2 σ_1 h => ?_)
  refine f_if_ne C (t := 26) dX12_canUnmake_19 (by decide) rfl (fun hq_3 => ?_) (fun hq_3 => ?_)
  · replace h := Eq.mp (if_neg hq_3) h
    refine f_iconst C (v := 0) dX12_canUnmake_26 kc0 rfl ?_
    exact f_zret C (Or.inl rfl) dX12_canUnmake_27 h
  · replace h := Eq.mp (if_pos hq_3) h
    refine f_iconst C (v := 1) dX12_canUnmake_22 kc1 rfl ?_
    refine f_goto C (t := 27) dX12_canUnmake_23 (by decide) ?_
    exact f_zret C (Or.inr rfl) dX12_canUnmake_27 h
theorem c_X12_canUnmake (x1 : Int32) (σ : Sto) (P : Int32 → Sto → Prop) (h : w_X12_canUnmake x1 σ P) : Ct yX12_canUnmake cX12_canUnmake 2 (some .boolean) 1 21 (fun B => [.ref (B + 101), .int x1]) σ (QFi P) := Ct.of (by decide) (fun _ => Nat.le_of_ble_eq_true rfl) (fun B E C => s_X12_canUnmake C x1 σ h)
def w_X12_unmake (x1 : Int32) (σ : Sto) (P : Int32 → Sto → Prop) : Prop :=
  w_X12_isThingAt x1 (si (si σ 101 1 0) 101 0 0) (fun r_2 σ_1 => (if r_2 = 0 then w_X12_refuse 2 σ_1 (fun r_14 σ_13 => P r_14 σ_13) else w_X12_canUnmake x1 σ_1 (fun r_5 σ_4 => (if r_5 = 0 then w_X12_refuse 9 σ_4 (fun r_12 σ_11 => P r_12 σ_11) else w_X12_now σ_4 (fun r_8 σ_7 => w_X12_now (si σ_7 106 6 ((gi σ_7 106 6) ||| (1 <<< (x1 &&& 31)))) (fun r_10 σ_9 => P (r_8 &&& (~~~r_10)) σ_9))))))
theorem s_X12_unmake {B : Nat} {E : Nat → List (Nat × Value) → List Value → Sto → Prop} {P : Int32 → Sto → Prop} (C : Cy B E RX12 cX12_unmake 3 (some .int) 4 89 (Zm (QFi P))) (x1 : Int32) (σ : Sto) (h : w_X12_unmake x1 σ P) : E 0 [(0, .ref (B + 101)), (1, .int x1)] [] σ := by
  unfold w_X12_unmake at h
  refine f_aload_n C (j := 0) dX12_unmake_0 rfl rfl rfl ?_
  refine f_iconst C (v := 0) dX12_unmake_1 kc0 rfl ?_
  refine f_puti C tF_X12_74 fm_12_1 rfl o101 dX12_unmake_2 rfl ?_
  refine f_aload_n C (j := 0) dX12_unmake_5 rfl rfl rfl ?_
  refine f_iconst C (v := 0) dX12_unmake_6 kc0 rfl ?_
  refine f_puti C tF_X12_77 fm_12_0 rfl o101 dX12_unmake_7 rfl ?_
  refine f_aload_n C (j := 0) dX12_unmake_10 rfl rfl rfl ?_
  refine f_iload_n C (j := 1) dX12_unmake_11 rfl rfl rfl ?_
  refine f_callVi C (a := 101) (ci := 12) (As := fun B => [.int x1]) o101 rfl (c_X12_isThingAt  _ _ _ h) tM_X12_339 tI_X12_isThingAt tS_X12_isThingAt tN_X12 tC_X12_isThingAt 1 dd_X12_isThingAt rfl (by decide) (by decide) rfl (Nat.le_of_ble_eq_true rfl) dX12_unmake_12 rfl (fun r_2 σ_1 h => ?_)
  refine f_if_ne C (t := 24) dX12_unmake_15 (by decide) rfl (fun hq_3 => ?_) (fun hq_3 => ?_)
  · replace h := Eq.mp (if_neg hq_3) h
    refine f_aload_n C (j := 0) dX12_unmake_24 rfl rfl rfl ?_
    refine f_iload_n C (j := 1) dX12_unmake_25 rfl rfl rfl ?_
    refine f_callVi C (a := 101) (ci := 12) (As := fun B => [.int x1]) o101 rfl (c_X12_canUnmake  _ _ _ h) tM_X12_380 tI_X12_canUnmake tS_X12_canUnmake tN_X12 tC_X12_canUnmake 1 dd_X12_canUnmake rfl (by decide) (by decide) rfl (Nat.le_of_ble_eq_true rfl) dX12_unmake_26 rfl (fun r_5 σ_4 h => ?_)
    refine f_if_ne C (t := 39) dX12_unmake_29 (by decide) rfl (fun hq_6 => ?_) (fun hq_6 => ?_)
    · replace h := Eq.mp (if_neg hq_6) h
      refine f_aload_n C (j := 0) dX12_unmake_39 rfl rfl rfl ?_
      refine f_callVi C (a := 101) (ci := 12) (As := fun B => []) o101 rfl (c_X12_now   _ _ h) tM_X12_330 tI_X12_now tS_X12_now tN_X12 tC_X12_now 0 dd_X12_now rfl (by decide) (by decide) rfl (Nat.le_of_ble_eq_true rfl) dX12_unmake_40 rfl (fun r_8 σ_7 h => ?_)
      refine f_istore_n C (lv2 := [(2, .int r_8), (0, .ref (B + 101)), (1, .int x1)]) dX12_unmake_43 rfl (by decide) rfl rfl ?_
      refine f_aload_n C (j := 1) dX12_unmake_44 rfl rfl rfl ?_
      refine f_getc C tF_X12_35 rfl o101 cs101_20 (by decide) dX12_unmake_45 rfl ?_
      refine f_bipush C (v := 6) dX12_unmake_48 kb6 rfl ?_
      refine f_dup2 C dX12_unmake_50 rfl rfl rfl ?_
      refine f_iald C (j := 6) a106 (vp_lit (by decide)) rfl dX12_unmake_51 rfl ?_
      refine f_iconst C (v := 1) dX12_unmake_52 kc1 rfl ?_
      refine f_iload_n C (j := 2) dX12_unmake_53 rfl rfl rfl ?_
      refine f_ishl C dX12_unmake_54 rfl ?_
      refine f_ior C dX12_unmake_55 rfl ?_
      refine f_iast C (j := 6) a106 (vp_lit (by decide)) rfl dX12_unmake_56 rfl ?_
      refine f_iload_n C (j := 0) dX12_unmake_57 rfl rfl rfl ?_
      refine f_aload_n C (j := 1) dX12_unmake_58 rfl rfl rfl ?_
      refine f_callVi C (a := 101) (ci := 12) (As := fun B => []) o101 rfl (c_X12_now   _ _ h) tM_X12_330 tI_X12_now tS_X12_now tN_X12 tC_X12_now 0 dd_X12_now rfl (by decide) (by decide) rfl (Nat.le_of_ble_eq_true rfl) dX12_unmake_59 rfl (fun r_10 σ_9 h => ?_)
      refine f_iconst C (v := (-1)) dX12_unmake_62 kcm1 rfl ?_
      refine f_inot C dX12_unmake_63 rfl ?_
      refine f_iand C dX12_unmake_64 rfl ?_
      exact f_iret C dX12_unmake_65 h
    · replace h := Eq.mp (if_pos hq_6) h
      refine f_aload_n C (j := 0) dX12_unmake_32 rfl rfl rfl ?_
      refine f_bipush C (v := 9) dX12_unmake_33 kb9 rfl ?_
      refine f_callVi C (a := 101) (ci := 12) (As := fun B => [.int 9]) o101 rfl (c_X12_refuse  _ _ _ h) tM_X12_327 tI_X12_refuse tS_X12_refuse tN_X12 tC_X12_refuse 1 dd_X12_refuse rfl (by decide) (by decide) rfl (Nat.le_of_ble_eq_true rfl) dX12_unmake_35 rfl (fun r_12 σ_11 h => ?_)
      exact f_iret C dX12_unmake_38 h
  · replace h := Eq.mp (if_pos hq_3) h
    refine f_aload_n C (j := 0) dX12_unmake_18 rfl rfl rfl ?_
    refine f_iconst C (v := 2) dX12_unmake_19 kc2 rfl ?_
    refine f_callVi C (a := 101) (ci := 12) (As := fun B => [.int 2]) o101 rfl (c_X12_refuse  _ _ _ h) tM_X12_327 tI_X12_refuse tS_X12_refuse tN_X12 tC_X12_refuse 1 dd_X12_refuse rfl (by decide) (by decide) rfl (Nat.le_of_ble_eq_true rfl) dX12_unmake_20 rfl (fun r_14 σ_13 h => ?_)
    exact f_iret C dX12_unmake_23 h
theorem c_X12_unmake (x1 : Int32) (σ : Sto) (P : Int32 → Sto → Prop) (h : w_X12_unmake x1 σ P) : Ct yX12_unmake cX12_unmake 3 (some .int) 4 89 (fun B => [.ref (B + 101), .int x1]) σ (QFi P) := Ct.of (by decide) (fun _ => Nat.le_of_ble_eq_true rfl) (fun B E C => s_X12_unmake C x1 σ h)
def w_X12_remake (x1 : Int32) (σ : Sto) (P : Int32 → Sto → Prop) : Prop :=
  w_X12_isThingAt x1 (si (si σ 101 1 0) 101 0 0) (fun r_2 σ_1 => (if r_2 = 0 then w_X12_refuse 2 σ_1 (fun r_14 σ_13 => P r_14 σ_13) else w_X12_has (gi σ_1 106 6) x1 σ_1 (fun r_5 σ_4 => (if r_5 = 0 then w_X12_refuse 9 σ_4 (fun r_12 σ_11 => P r_12 σ_11) else w_X12_now σ_4 (fun r_8 σ_7 => w_X12_now (si σ_7 106 6 ((gi σ_7 106 6) &&& (~~~(1 <<< (x1 &&& 31))))) (fun r_10 σ_9 => P (r_10 &&& (~~~r_8)) σ_9))))))
theorem s_X12_remake {B : Nat} {E : Nat → List (Nat × Value) → List Value → Sto → Prop} {P : Int32 → Sto → Prop} (C : Cy B E RX12 cX12_remake 3 (some .int) 4 89 (Zm (QFi P))) (x1 : Int32) (σ : Sto) (h : w_X12_remake x1 σ P) : E 0 [(0, .ref (B + 101)), (1, .int x1)] [] σ := by
  unfold w_X12_remake at h
  refine f_aload_n C (j := 0) dX12_remake_0 rfl rfl rfl ?_
  refine f_iconst C (v := 0) dX12_remake_1 kc0 rfl ?_
  refine f_puti C tF_X12_74 fm_12_1 rfl o101 dX12_remake_2 rfl ?_
  refine f_aload_n C (j := 0) dX12_remake_5 rfl rfl rfl ?_
  refine f_iconst C (v := 0) dX12_remake_6 kc0 rfl ?_
  refine f_puti C tF_X12_77 fm_12_0 rfl o101 dX12_remake_7 rfl ?_
  refine f_aload_n C (j := 0) dX12_remake_10 rfl rfl rfl ?_
  refine f_iload_n C (j := 1) dX12_remake_11 rfl rfl rfl ?_
  refine f_callVi C (a := 101) (ci := 12) (As := fun B => [.int x1]) o101 rfl (c_X12_isThingAt  _ _ _ h) tM_X12_339 tI_X12_isThingAt tS_X12_isThingAt tN_X12 tC_X12_isThingAt 1 dd_X12_isThingAt rfl (by decide) (by decide) rfl (Nat.le_of_ble_eq_true rfl) dX12_remake_12 rfl (fun r_2 σ_1 h => ?_)
  refine f_if_ne C (t := 24) dX12_remake_15 (by decide) rfl (fun hq_3 => ?_) (fun hq_3 => ?_)
  · replace h := Eq.mp (if_neg hq_3) h
    refine f_aload_n C (j := 0) dX12_remake_24 rfl rfl rfl ?_
    refine f_getc C tF_X12_35 rfl o101 cs101_20 (by decide) dX12_remake_25 rfl ?_
    refine f_bipush C (v := 6) dX12_remake_28 kb6 rfl ?_
    refine f_iald C (j := 6) a106 (vp_lit (by decide)) rfl dX12_remake_30 rfl ?_
    refine f_iload_n C (j := 1) dX12_remake_31 rfl rfl rfl ?_
    refine f_callSi C (As := fun B => [.int (gi σ_1 106 6), .int x1]) (c_X12_has  _ _ _ _ h) tM_X12_113 tT_X12_has tN_X12 tC_X12_has 2 dd_X12_has rfl (by decide) (by decide) rfl (Nat.le_of_ble_eq_true rfl) dX12_remake_32 rfl (fun r_5 σ_4 h => ?_)
    refine f_if_ne C (t := 45) dX12_remake_35 (by decide) rfl (fun hq_6 => ?_) (fun hq_6 => ?_)
    · replace h := Eq.mp (if_neg hq_6) h
      refine f_aload_n C (j := 0) dX12_remake_45 rfl rfl rfl ?_
      refine f_callVi C (a := 101) (ci := 12) (As := fun B => []) o101 rfl (c_X12_now   _ _ h) tM_X12_330 tI_X12_now tS_X12_now tN_X12 tC_X12_now 0 dd_X12_now rfl (by decide) (by decide) rfl (Nat.le_of_ble_eq_true rfl) dX12_remake_46 rfl (fun r_8 σ_7 h => ?_)
      refine f_istore_n C (lv2 := [(2, .int r_8), (0, .ref (B + 101)), (1, .int x1)]) dX12_remake_49 rfl (by decide) rfl rfl ?_
      refine f_aload_n C (j := 1) dX12_remake_50 rfl rfl rfl ?_
      refine f_getc C tF_X12_35 rfl o101 cs101_20 (by decide) dX12_remake_51 rfl ?_
      refine f_bipush C (v := 6) dX12_remake_54 kb6 rfl ?_
      refine f_dup2 C dX12_remake_56 rfl rfl rfl ?_
      refine f_iald C (j := 6) a106 (vp_lit (by decide)) rfl dX12_remake_57 rfl ?_
      refine f_iconst C (v := 1) dX12_remake_58 kc1 rfl ?_
      refine f_iload_n C (j := 2) dX12_remake_59 rfl rfl rfl ?_
      refine f_ishl C dX12_remake_60 rfl ?_
      refine f_iconst C (v := (-1)) dX12_remake_61 kcm1 rfl ?_
      refine f_inot C dX12_remake_62 rfl ?_
      refine f_iand C dX12_remake_63 rfl ?_
      refine f_iast C (j := 6) a106 (vp_lit (by decide)) rfl dX12_remake_64 rfl ?_
      refine f_aload_n C (j := 1) dX12_remake_65 rfl rfl rfl ?_
      refine f_callVi C (a := 101) (ci := 12) (As := fun B => []) o101 rfl (c_X12_now   _ _ h) tM_X12_330 tI_X12_now tS_X12_now tN_X12 tC_X12_now 0 dd_X12_now rfl (by decide) (by decide) rfl (Nat.le_of_ble_eq_true rfl) dX12_remake_66 rfl (fun r_10 σ_9 h => ?_)
      refine f_iload_n C (j := 0) dX12_remake_69 rfl rfl rfl ?_
      refine f_iconst C (v := (-1)) dX12_remake_70 kcm1 rfl ?_
      refine f_inot C dX12_remake_71 rfl ?_
      refine f_iand C dX12_remake_72 rfl ?_
      exact f_iret C dX12_remake_73 h
    · replace h := Eq.mp (if_pos hq_6) h
      refine f_aload_n C (j := 0) dX12_remake_38 rfl rfl rfl ?_
      refine f_bipush C (v := 9) dX12_remake_39 kb9 rfl ?_
      refine f_callVi C (a := 101) (ci := 12) (As := fun B => [.int 9]) o101 rfl (c_X12_refuse  _ _ _ h) tM_X12_327 tI_X12_refuse tS_X12_refuse tN_X12 tC_X12_refuse 1 dd_X12_refuse rfl (by decide) (by decide) rfl (Nat.le_of_ble_eq_true rfl) dX12_remake_41 rfl (fun r_12 σ_11 h => ?_)
      exact f_iret C dX12_remake_44 h
  · replace h := Eq.mp (if_pos hq_3) h
    refine f_aload_n C (j := 0) dX12_remake_18 rfl rfl rfl ?_
    refine f_iconst C (v := 2) dX12_remake_19 kc2 rfl ?_
    refine f_callVi C (a := 101) (ci := 12) (As := fun B => [.int 2]) o101 rfl (c_X12_refuse  _ _ _ h) tM_X12_327 tI_X12_refuse tS_X12_refuse tN_X12 tC_X12_refuse 1 dd_X12_refuse rfl (by decide) (by decide) rfl (Nat.le_of_ble_eq_true rfl) dX12_remake_20 rfl (fun r_14 σ_13 h => ?_)
    exact f_iret C dX12_remake_23 h
theorem c_X12_remake (x1 : Int32) (σ : Sto) (P : Int32 → Sto → Prop) (h : w_X12_remake x1 σ P) : Ct yX12_remake cX12_remake 3 (some .int) 4 89 (fun B => [.ref (B + 101), .int x1]) σ (QFi P) := Ct.of (by decide) (fun _ => Nat.le_of_ble_eq_true rfl) (fun B E C => s_X12_remake C x1 σ h)
def w_X12_exempt (x1 : Int32) (x2 : Int32) (σ : Sto) (P : Int32 → Sto → Prop) : Prop :=
  w_X12_isThingAt x1 (si (si σ 101 1 0) 101 0 0) (fun r_2 σ_1 => (if r_2 = 0 then w_X12_no 2 σ_1 (fun r_11 σ_10 => (r_11 = 0 ∨ r_11 = 1) ∧ P r_11 σ_10) else w_X12_has (gi σ_1 106 7) x1 σ_1 (fun r_5 σ_4 => (if r_5 = x2 then w_X12_no 9 σ_4 (fun r_8 σ_7 => (r_8 = 0 ∨ r_8 = 1) ∧ P r_8 σ_7) else P 1 (si σ_4 106 7 ((gi σ_4 106 7) ^^^ (1 <<< (x1 &&& 31))))))))
theorem s_X12_exempt {B : Nat} {E : Nat → List (Nat × Value) → List Value → Sto → Prop} {P : Int32 → Sto → Prop} (C : Cy B E RX12 cX12_exempt 3 (some .boolean) 2 46 (Zm (QFi P))) (x1 : Int32) (x2 : Int32) (σ : Sto) (h : w_X12_exempt x1 x2 σ P) : E 0 [(0, .ref (B + 101)), (1, .int x1), (2, .int x2)] [] σ := by
  unfold w_X12_exempt at h
  refine f_aload_n C (j := 0) dX12_exempt_0 rfl rfl rfl ?_
  refine f_iconst C (v := 0) dX12_exempt_1 kc0 rfl ?_
  refine f_puti C tF_X12_74 fm_12_1 rfl o101 dX12_exempt_2 rfl ?_
  refine f_aload_n C (j := 0) dX12_exempt_5 rfl rfl rfl ?_
  refine f_iconst C (v := 0) dX12_exempt_6 kc0 rfl ?_
  refine f_puti C tF_X12_77 fm_12_0 rfl o101 dX12_exempt_7 rfl ?_
  refine f_aload_n C (j := 0) dX12_exempt_10 rfl rfl rfl ?_
  refine f_iload_n C (j := 1) dX12_exempt_11 rfl rfl rfl ?_
  refine f_callVi C (a := 101) (ci := 12) (As := fun B => [.int x1]) o101 rfl (c_X12_isThingAt  _ _ _ h) tM_X12_339 tI_X12_isThingAt tS_X12_isThingAt tN_X12 tC_X12_isThingAt 1 dd_X12_isThingAt rfl (by decide) (by decide) rfl (Nat.le_of_ble_eq_true rfl) dX12_exempt_12 rfl (fun r_2 σ_1 h => ?_)
  refine f_if_ne C (t := 24) dX12_exempt_15 (by decide) rfl (fun hq_3 => ?_) (fun hq_3 => ?_)
  · replace h := Eq.mp (if_neg hq_3) h
    refine f_aload_n C (j := 0) dX12_exempt_24 rfl rfl rfl ?_
    refine f_getc C tF_X12_35 rfl o101 cs101_20 (by decide) dX12_exempt_25 rfl ?_
    refine f_bipush C (v := 7) dX12_exempt_28 kb7 rfl ?_
    refine f_iald C (j := 7) a106 (vp_lit (by decide)) rfl dX12_exempt_30 rfl ?_
    refine f_iload_n C (j := 1) dX12_exempt_31 rfl rfl rfl ?_
    refine f_callSi C (As := fun B => [.int (gi σ_1 106 7), .int x1]) (c_X12_has  _ _ _ _ h) tM_X12_113 tT_X12_has tN_X12 tC_X12_has 2 dd_X12_has rfl (by decide) (by decide) rfl (Nat.le_of_ble_eq_true rfl) dX12_exempt_32 rfl (fun r_5 σ_4 h => ?_)
    refine f_iload_n C (j := 2) dX12_exempt_35 rfl rfl rfl ?_
    refine f_icmp_ne C (t := 46) dX12_exempt_36 (by decide) rfl (fun hq_6 => ?_) (fun hq_6 => ?_)
    · replace h := Eq.mp (if_neg hq_6) h
      refine f_aload_n C (j := 0) dX12_exempt_46 rfl rfl rfl ?_
      refine f_getc C tF_X12_35 rfl o101 cs101_20 (by decide) dX12_exempt_47 rfl ?_
      refine f_bipush C (v := 7) dX12_exempt_50 kb7 rfl ?_
      refine f_dup2 C dX12_exempt_52 rfl rfl rfl ?_
      refine f_iald C (j := 7) a106 (vp_lit (by decide)) rfl dX12_exempt_53 rfl ?_
      refine f_iconst C (v := 1) dX12_exempt_54 kc1 rfl ?_
      refine f_iload_n C (j := 1) dX12_exempt_55 rfl rfl rfl ?_
      refine f_ishl C dX12_exempt_56 rfl ?_
      refine f_ixor C dX12_exempt_57 rfl ?_
      refine f_iast C (j := 7) a106 (vp_lit (by decide)) rfl dX12_exempt_58 rfl ?_
      refine f_iconst C (v := 1) dX12_exempt_59 kc1 rfl ?_
      exact f_zret C (Or.inr rfl) dX12_exempt_60 h
    · replace h := Eq.mp (if_pos hq_6) h
      refine f_aload_n C (j := 0) dX12_exempt_39 rfl rfl rfl ?_
      refine f_bipush C (v := 9) dX12_exempt_40 kb9 rfl ?_
      refine f_callVi C (a := 101) (ci := 12) (As := fun B => [.int 9]) o101 rfl (c_X12_no  _ _ _ h) tM_X12_89 tI_X12_no tS_X12_no tN_X12 tC_X12_no 1 dd_X12_no rfl (by decide) (by decide) rfl (Nat.le_of_ble_eq_true rfl) dX12_exempt_42 rfl (fun r_8 σ_7 h => ?_)
      obtain ⟨hb_9, h⟩ := h
      exact f_zret C hb_9 dX12_exempt_45 h
  · replace h := Eq.mp (if_pos hq_3) h
    refine f_aload_n C (j := 0) dX12_exempt_18 rfl rfl rfl ?_
    refine f_iconst C (v := 2) dX12_exempt_19 kc2 rfl ?_
    refine f_callVi C (a := 101) (ci := 12) (As := fun B => [.int 2]) o101 rfl (c_X12_no  _ _ _ h) tM_X12_89 tI_X12_no tS_X12_no tN_X12 tC_X12_no 1 dd_X12_no rfl (by decide) (by decide) rfl (Nat.le_of_ble_eq_true rfl) dX12_exempt_20 rfl (fun r_11 σ_10 h => ?_)
    obtain ⟨hb_12, h⟩ := h
    exact f_zret C hb_12 dX12_exempt_23 h
theorem c_X12_exempt (x1 : Int32) (x2 : Int32) (σ : Sto) (P : Int32 → Sto → Prop) (h : w_X12_exempt x1 x2 σ P) : Ct yX12_exempt cX12_exempt 3 (some .boolean) 2 46 (fun B => [.ref (B + 101), .int x1, .int x2]) σ (QFi P) := Ct.of (by decide) (fun _ => Nat.le_of_ble_eq_true rfl) (fun B E C => s_X12_exempt C x1 x2 σ h)
def w_X12_grudge_26 (σ : Sto) (P : Int32 → Sto → Prop) : Prop :=
  w_X12_no 2 σ (fun r_5 σ_4 => (r_5 = 0 ∨ r_5 = 1) ∧ P r_5 σ_4)
theorem s_X12_grudge_26 {B : Nat} {E : Nat → List (Nat × Value) → List Value → Sto → Prop} {P : Int32 → Sto → Prop} (C : Cy B E RX12 cX12_grudge 4 (some .boolean) 2 46 (Zm (QFi P))) (σ : Sto) (h : w_X12_grudge_26 σ P) : E 26 [(0, .ref (B + 101))] [] σ := by
  unfold w_X12_grudge_26 at h
  refine f_aload_n C (j := 0) dX12_grudge_26 rfl rfl rfl ?_
  refine f_iconst C (v := 2) dX12_grudge_27 kc2 rfl ?_
  refine f_callVi C (a := 101) (ci := 12) (As := fun B => [.int 2]) o101 rfl (c_X12_no  _ _ _ h) tM_X12_89 tI_X12_no tS_X12_no tN_X12 tC_X12_no 1 dd_X12_no rfl (by decide) (by decide) rfl (Nat.le_of_ble_eq_true rfl) dX12_grudge_28 rfl (fun r_5 σ_4 h => ?_)
  obtain ⟨hb_6, h⟩ := h
  exact f_zret C hb_6 dX12_grudge_31 h
def w_X12_grudge (x1 : Int32) (x2 : Int32) (x3 : Int32) (σ : Sto) (P : Int32 → Sto → Prop) : Prop :=
  w_X12_isVoterAt x1 (si (si σ 101 1 0) 101 0 0) (fun r_2 σ_1 => (if r_2 = 0 then w_X12_grudge_26 σ_1 P else w_X12_isThingAt x2 σ_1 (fun r_8 σ_7 => (if r_8 = 0 then w_X12_grudge_26 σ_7 P else w_X12_isIn x3.toInt64 0 9 σ_7 (fun r_11 σ_10 => (if r_11 = 0 then w_X12_no 5 σ_10 (fun r_15 σ_14 => (r_15 = 0 ∨ r_15 = 1) ∧ P r_15 σ_14) else vp_in ((58 + (12 * x1)) + x2) 2105 ∧ P 1 (si σ_10 106 (tn ((58 + (12 * x1)) + x2)) x3)))))))
theorem s_X12_grudge {B : Nat} {E : Nat → List (Nat × Value) → List Value → Sto → Prop} {P : Int32 → Sto → Prop} (C : Cy B E RX12 cX12_grudge 4 (some .boolean) 2 46 (Zm (QFi P))) (x1 : Int32) (x2 : Int32) (x3 : Int32) (σ : Sto) (h : w_X12_grudge x1 x2 x3 σ P) : E 0 [(0, .ref (B + 101)), (1, .int x1), (2, .int x2), (3, .int x3)] [] σ := by
  unfold w_X12_grudge at h
  refine f_aload_n C (j := 0) dX12_grudge_0 rfl rfl rfl ?_
  refine f_iconst C (v := 0) dX12_grudge_1 kc0 rfl ?_
  refine f_puti C tF_X12_74 fm_12_1 rfl o101 dX12_grudge_2 rfl ?_
  refine f_aload_n C (j := 0) dX12_grudge_5 rfl rfl rfl ?_
  refine f_iconst C (v := 0) dX12_grudge_6 kc0 rfl ?_
  refine f_puti C tF_X12_77 fm_12_0 rfl o101 dX12_grudge_7 rfl ?_
  refine f_aload_n C (j := 0) dX12_grudge_10 rfl rfl rfl ?_
  refine f_iload_n C (j := 1) dX12_grudge_11 rfl rfl rfl ?_
  refine f_callVi C (a := 101) (ci := 12) (As := fun B => [.int x1]) o101 rfl (c_X12_isVoterAt  _ _ _ h) tM_X12_345 tI_X12_isVoterAt tS_X12_isVoterAt tN_X12 tC_X12_isVoterAt 1 dd_X12_isVoterAt rfl (by decide) (by decide) rfl (Nat.le_of_ble_eq_true rfl) dX12_grudge_12 rfl (fun r_2 σ_1 h => ?_)
  refine f_if_eq C (t := 26) dX12_grudge_15 (by decide) rfl (fun hq_3 => ?_) (fun hq_3 => ?_)
  · replace h := Eq.mp (if_pos hq_3) h
    refine f_lv C (lv2 := [(0, .ref (B + 101))]) [0] rfl ?_
    exact s_X12_grudge_26 C  _ h
  · replace h := Eq.mp (if_neg hq_3) h
    refine f_aload_n C (j := 0) dX12_grudge_18 rfl rfl rfl ?_
    refine f_iload_n C (j := 2) dX12_grudge_19 rfl rfl rfl ?_
    refine f_callVi C (a := 101) (ci := 12) (As := fun B => [.int x2]) o101 rfl (c_X12_isThingAt  _ _ _ h) tM_X12_339 tI_X12_isThingAt tS_X12_isThingAt tN_X12 tC_X12_isThingAt 1 dd_X12_isThingAt rfl (by decide) (by decide) rfl (Nat.le_of_ble_eq_true rfl) dX12_grudge_20 rfl (fun r_8 σ_7 h => ?_)
    refine f_if_ne C (t := 32) dX12_grudge_23 (by decide) rfl (fun hq_9 => ?_) (fun hq_9 => ?_)
    · replace h := Eq.mp (if_neg hq_9) h
      refine f_iload_n C (j := 3) dX12_grudge_32 rfl rfl rfl ?_
      refine f_i2l C dX12_grudge_33 rfl ?_
      refine f_lconst C (v := 0) dX12_grudge_34 (by decide) rfl ?_
      refine f_ldc2_w C tL_X12_383 dX12_grudge_35 rfl ?_
      refine f_callSi C (As := fun B => [.long x3.toInt64, .long 0, .long 9]) (c_X12_isIn  _ _ _ _ _ h) tM_X12_109 tT_X12_isIn tN_X12 tC_X12_isIn 3 dd_X12_isIn rfl (by decide) (by decide) rfl (Nat.le_of_ble_eq_true rfl) dX12_grudge_38 rfl (fun r_11 σ_10 h => ?_)
      refine f_if_ne C (t := 50) dX12_grudge_41 (by decide) rfl (fun hq_12 => ?_) (fun hq_12 => ?_)
      · replace h := Eq.mp (if_neg hq_12) h
        refine f_aload_n C (j := 0) dX12_grudge_50 rfl rfl rfl ?_
        refine f_getc C tF_X12_35 rfl o101 cs101_20 (by decide) dX12_grudge_51 rfl ?_
        refine f_bipush C (v := 58) dX12_grudge_54 kb58 rfl ?_
        refine f_bipush C (v := 12) dX12_grudge_56 kb12 rfl ?_
        refine f_iload_n C (j := 1) dX12_grudge_58 rfl rfl rfl ?_
        refine f_imul C dX12_grudge_59 rfl ?_
        refine f_iadd C dX12_grudge_60 rfl ?_
        refine f_iload_n C (j := 2) dX12_grudge_61 rfl rfl rfl ?_
        refine f_iadd C dX12_grudge_62 rfl ?_
        refine f_iload_n C (j := 3) dX12_grudge_63 rfl rfl rfl ?_
        obtain ⟨hi_13, h⟩ := h
        refine f_iast C (j := tn ((58 + (12 * x1)) + x2)) a106 hi_13 rfl dX12_grudge_64 rfl ?_
        refine f_iconst C (v := 1) dX12_grudge_65 kc1 rfl ?_
        exact f_zret C (Or.inr rfl) dX12_grudge_66 h
      · replace h := Eq.mp (if_pos hq_12) h
        refine f_aload_n C (j := 0) dX12_grudge_44 rfl rfl rfl ?_
        refine f_iconst C (v := 5) dX12_grudge_45 kc5 rfl ?_
        refine f_callVi C (a := 101) (ci := 12) (As := fun B => [.int 5]) o101 rfl (c_X12_no  _ _ _ h) tM_X12_89 tI_X12_no tS_X12_no tN_X12 tC_X12_no 1 dd_X12_no rfl (by decide) (by decide) rfl (Nat.le_of_ble_eq_true rfl) dX12_grudge_46 rfl (fun r_15 σ_14 h => ?_)
        obtain ⟨hb_16, h⟩ := h
        exact f_zret C hb_16 dX12_grudge_49 h
    · replace h := Eq.mp (if_pos hq_9) h
      refine f_lv C (lv2 := [(0, .ref (B + 101))]) [0] rfl ?_
      exact s_X12_grudge_26 C  _ h
theorem c_X12_grudge (x1 : Int32) (x2 : Int32) (x3 : Int32) (σ : Sto) (P : Int32 → Sto → Prop) (h : w_X12_grudge x1 x2 x3 σ P) : Ct yX12_grudge cX12_grudge 4 (some .boolean) 2 46 (fun B => [.ref (B + 101), .int x1, .int x2, .int x3]) σ (QFi P) := Ct.of (by decide) (fun _ => Nat.le_of_ble_eq_true rfl) (fun B E C => s_X12_grudge C x1 x2 x3 σ h)
def w_X12_rule (x1 : Int32) (σ : Sto) (P : Int32 → Sto → Prop) : Prop :=
  w_X12_isIn x1.toInt64 0 2 (si (si σ 101 1 0) 101 0 0) (fun r_2 σ_1 => (if r_2 = 0 then w_X12_no 5 σ_1 (fun r_5 σ_4 => (r_5 = 0 ∨ r_5 = 1) ∧ P r_5 σ_4) else P 1 (si σ_1 106 4 x1)))
theorem s_X12_rule {B : Nat} {E : Nat → List (Nat × Value) → List Value → Sto → Prop} {P : Int32 → Sto → Prop} (C : Cy B E RX12 cX12_rule 2 (some .boolean) 1 25 (Zm (QFi P))) (x1 : Int32) (σ : Sto) (h : w_X12_rule x1 σ P) : E 0 [(0, .ref (B + 101)), (1, .int x1)] [] σ := by
  unfold w_X12_rule at h
  refine f_aload_n C (j := 0) dX12_rule_0 rfl rfl rfl ?_
  refine f_iconst C (v := 0) dX12_rule_1 kc0 rfl ?_
  refine f_puti C tF_X12_74 fm_12_1 rfl o101 dX12_rule_2 rfl ?_
  refine f_aload_n C (j := 0) dX12_rule_5 rfl rfl rfl ?_
  refine f_iconst C (v := 0) dX12_rule_6 kc0 rfl ?_
  refine f_puti C tF_X12_77 fm_12_0 rfl o101 dX12_rule_7 rfl ?_
  refine f_iload_n C (j := 1) dX12_rule_10 rfl rfl rfl ?_
  refine f_i2l C dX12_rule_11 rfl ?_
  refine f_lconst C (v := 0) dX12_rule_12 (by decide) rfl ?_
  refine f_ldc2_w C tL_X12_373 dX12_rule_13 rfl ?_
  refine f_callSi C (As := fun B => [.long x1.toInt64, .long 0, .long 2]) (c_X12_isIn  _ _ _ _ _ h) tM_X12_109 tT_X12_isIn tN_X12 tC_X12_isIn 3 dd_X12_isIn rfl (by decide) (by decide) rfl (Nat.le_of_ble_eq_true rfl) dX12_rule_16 rfl (fun r_2 σ_1 h => ?_)
  refine f_if_ne C (t := 28) dX12_rule_19 (by decide) rfl (fun hq_3 => ?_) (fun hq_3 => ?_)
  · replace h := Eq.mp (if_neg hq_3) h
    refine f_aload_n C (j := 0) dX12_rule_28 rfl rfl rfl ?_
    refine f_getc C tF_X12_35 rfl o101 cs101_20 (by decide) dX12_rule_29 rfl ?_
    refine f_iconst C (v := 4) dX12_rule_32 kc4 rfl ?_
    refine f_iload_n C (j := 1) dX12_rule_33 rfl rfl rfl ?_
    refine f_iast C (j := 4) a106 (vp_lit (by decide)) rfl dX12_rule_34 rfl ?_
    refine f_iconst C (v := 1) dX12_rule_35 kc1 rfl ?_
    exact f_zret C (Or.inr rfl) dX12_rule_36 h
  · replace h := Eq.mp (if_pos hq_3) h
    refine f_aload_n C (j := 0) dX12_rule_22 rfl rfl rfl ?_
    refine f_iconst C (v := 5) dX12_rule_23 kc5 rfl ?_
    refine f_callVi C (a := 101) (ci := 12) (As := fun B => [.int 5]) o101 rfl (c_X12_no  _ _ _ h) tM_X12_89 tI_X12_no tS_X12_no tN_X12 tC_X12_no 1 dd_X12_no rfl (by decide) (by decide) rfl (Nat.le_of_ble_eq_true rfl) dX12_rule_24 rfl (fun r_5 σ_4 h => ?_)
    obtain ⟨hb_6, h⟩ := h
    exact f_zret C hb_6 dX12_rule_27 h
theorem c_X12_rule (x1 : Int32) (σ : Sto) (P : Int32 → Sto → Prop) (h : w_X12_rule x1 σ P) : Ct yX12_rule cX12_rule 2 (some .boolean) 1 25 (fun B => [.ref (B + 101), .int x1]) σ (QFi P) := Ct.of (by decide) (fun _ => Nat.le_of_ble_eq_true rfl) (fun B E C => s_X12_rule C x1 σ h)
def w_X12_fallsWith (x1 : Int32) (σ : Sto) (P : Int32 → Sto → Prop) : Prop :=
  w_X12_now σ (fun r_2 σ_1 => w_X12_standing ((gi σ_1 106 6) ||| (1 <<< (x1 &&& 31))) σ_1 (fun r_4 σ_3 => P (r_2 &&& (~~~r_4)) σ_3))
theorem s_X12_fallsWith {B : Nat} {E : Nat → List (Nat × Value) → List Value → Sto → Prop} {P : Int32 → Sto → Prop} (C : Cy B E RX12 cX12_fallsWith 2 (some .int) 4 89 (Zm (QFi P))) (x1 : Int32) (σ : Sto) (h : w_X12_fallsWith x1 σ P) : E 0 [(0, .ref (B + 101)), (1, .int x1)] [] σ := by
  unfold w_X12_fallsWith at h
  refine f_aload_n C (j := 0) dX12_fallsWith_0 rfl rfl rfl ?_
  refine f_callVi C (a := 101) (ci := 12) (As := fun B => []) o101 rfl (c_X12_now   _ _ h) tM_X12_330 tI_X12_now tS_X12_now tN_X12 tC_X12_now 0 dd_X12_now rfl (by decide) (by decide) rfl (Nat.le_of_ble_eq_true rfl) dX12_fallsWith_1 rfl (fun r_2 σ_1 h => ?_)
  refine f_aload_n C (j := 0) dX12_fallsWith_4 rfl rfl rfl ?_
  refine f_aload_n C (j := 0) dX12_fallsWith_5 rfl rfl rfl ?_
  refine f_getc C tF_X12_35 rfl o101 cs101_20 (by decide) dX12_fallsWith_6 rfl ?_
  refine f_bipush C (v := 6) dX12_fallsWith_9 kb6 rfl ?_
  refine f_iald C (j := 6) a106 (vp_lit (by decide)) rfl dX12_fallsWith_11 rfl ?_
  refine f_iconst C (v := 1) dX12_fallsWith_12 kc1 rfl ?_
  refine f_iload_n C (j := 1) dX12_fallsWith_13 rfl rfl rfl ?_
  refine f_ishl C dX12_fallsWith_14 rfl ?_
  refine f_ior C dX12_fallsWith_15 rfl ?_
  refine f_callVi C (a := 101) (ci := 12) (As := fun B => [.int ((gi σ_1 106 6) ||| (1 <<< (x1 &&& 31)))]) o101 rfl (c_X12_standing  _ _ _ h) tM_X12_322 tI_X12_standing tS_X12_standing tN_X12 tC_X12_standing 1 dd_X12_standing rfl (by decide) (by decide) rfl (Nat.le_of_ble_eq_true rfl) dX12_fallsWith_16 rfl (fun r_4 σ_3 h => ?_)
  refine f_iconst C (v := (-1)) dX12_fallsWith_19 kcm1 rfl ?_
  refine f_inot C dX12_fallsWith_20 rfl ?_
  refine f_iand C dX12_fallsWith_21 rfl ?_
  exact f_iret C dX12_fallsWith_22 h
theorem c_X12_fallsWith (x1 : Int32) (σ : Sto) (P : Int32 → Sto → Prop) (h : w_X12_fallsWith x1 σ P) : Ct yX12_fallsWith cX12_fallsWith 2 (some .int) 4 89 (fun B => [.ref (B + 101), .int x1]) σ (QFi P) := Ct.of (by decide) (fun _ => Nat.le_of_ble_eq_true rfl) (fun B E C => s_X12_fallsWith C x1 σ h)
def w_X12_whyNoFall (x1 : Int32) (σ : Sto) (P : Int32 → Sto → Prop) : Prop :=
  w_X12_isThingAt x1 σ (fun r_2 σ_1 => (if r_2 = 0 then P 2 σ_1 else w_X12_now σ_1 (fun r_5 σ_4 => w_X12_has r_5 x1 σ_4 (fun r_7 σ_6 => (if r_7 = 0 then P 9 σ_6 else P 0 σ_6)))))
theorem s_X12_whyNoFall {B : Nat} {E : Nat → List (Nat × Value) → List Value → Sto → Prop} {P : Int32 → Sto → Prop} (C : Cy B E RX12 cX12_whyNoFall 2 (some .int) 4 89 (Zm (QFi P))) (x1 : Int32) (σ : Sto) (h : w_X12_whyNoFall x1 σ P) : E 0 [(0, .ref (B + 101)), (1, .int x1)] [] σ := by
  unfold w_X12_whyNoFall at h
  refine f_aload_n C (j := 0) dX12_whyNoFall_0 rfl rfl rfl ?_
  refine f_iload_n C (j := 1) dX12_whyNoFall_1 rfl rfl rfl ?_
  refine f_callVi C (a := 101) (ci := 12) (As := fun B => [.int x1]) o101 rfl (c_X12_isThingAt  _ _ _ h) tM_X12_339 tI_X12_isThingAt tS_X12_isThingAt tN_X12 tC_X12_isThingAt 1 dd_X12_isThingAt rfl (by decide) (by decide) rfl (Nat.le_of_ble_eq_true rfl) dX12_whyNoFall_2 rfl (fun r_2 σ_1 h => ?_)
  refine f_if_ne C (t := 12) dX12_whyNoFall_5 (by decide) rfl (fun hq_3 => ?_) (fun hq_3 => ?_)
  · replace h := Eq.mp (if_neg hq_3) h
    refine f_aload_n C (j := 0) dX12_whyNoFall_12 rfl rfl rfl ?_
    refine f_callVi C (a := 101) (ci := 12) (As := fun B => []) o101 rfl (c_X12_now   _ _ h) tM_X12_330 tI_X12_now tS_X12_now tN_X12 tC_X12_now 0 dd_X12_now rfl (by decide) (by decide) rfl (Nat.le_of_ble_eq_true rfl) dX12_whyNoFall_13 rfl (fun r_5 σ_4 h => ?_)
    refine f_iload_n C (j := 1) dX12_whyNoFall_16 rfl rfl rfl ?_
    refine f_callSi C (As := fun B => [.int r_5, .int x1]) (c_X12_has  _ _ _ _ h) tM_X12_113 tT_X12_has tN_X12 tC_X12_has 2 dd_X12_has rfl (by decide) (by decide) rfl (Nat.le_of_ble_eq_true rfl) dX12_whyNoFall_17 rfl (fun r_7 σ_6 h => ?_)
    refine f_if_eq C (t := 27) dX12_whyNoFall_20 (by decide) rfl (fun hq_8 => ?_) (fun hq_8 => ?_)
    · replace h := Eq.mp (if_pos hq_8) h
      refine f_bipush C (v := 9) dX12_whyNoFall_27 kb9 rfl ?_
      exact f_iret C dX12_whyNoFall_29 h
    · replace h := Eq.mp (if_neg hq_8) h
      refine f_iconst C (v := 0) dX12_whyNoFall_23 kc0 rfl ?_
      refine f_goto C (t := 29) dX12_whyNoFall_24 (by decide) ?_
      exact f_iret C dX12_whyNoFall_29 h
  · replace h := Eq.mp (if_pos hq_3) h
    refine f_iconst C (v := 2) dX12_whyNoFall_8 kc2 rfl ?_
    refine f_goto C (t := 29) dX12_whyNoFall_9 (by decide) ?_
    exact f_iret C dX12_whyNoFall_29 h
theorem c_X12_whyNoFall (x1 : Int32) (σ : Sto) (P : Int32 → Sto → Prop) (h : w_X12_whyNoFall x1 σ P) : Ct yX12_whyNoFall cX12_whyNoFall 2 (some .int) 4 89 (fun B => [.ref (B + 101), .int x1]) σ (QFi P) := Ct.of (by decide) (fun _ => Nat.le_of_ble_eq_true rfl) (fun B E C => s_X12_whyNoFall C x1 σ h)
def w_X12_falls (x1 : Int32) (σ : Sto) (P : Int32 → Sto → Prop) : Prop :=
  w_X12_whyNoFall x1 (si σ 101 1 0) (fun r_2 σ_1 => ∀ σ_3 : Sto, σ_3 = si σ_1 101 0 r_2 → (if (gi σ_3 101 0) ≤ 0 then w_X12_fallsWith x1 σ_3 (fun r_7 σ_6 => P r_7 σ_6) else P (-1) σ_3))
theorem s_X12_falls {B : Nat} {E : Nat → List (Nat × Value) → List Value → Sto → Prop} {P : Int32 → Sto → Prop} (C : Cy B E RX12 cX12_falls 2 (some .int) 5 110 (Zm (QFi P))) (x1 : Int32) (σ : Sto) (h : w_X12_falls x1 σ P) : E 0 [(0, .ref (B + 101)), (1, .int x1)] [] σ := by
  unfold w_X12_falls at h
  refine f_aload_n C (j := 0) dX12_falls_0 rfl rfl rfl ?_
  refine f_iconst C (v := 0) dX12_falls_1 kc0 rfl ?_
  refine f_puti C tF_X12_74 fm_12_1 rfl o101 dX12_falls_2 rfl ?_
  refine f_aload_n C (j := 0) dX12_falls_5 rfl rfl rfl ?_
  refine f_aload_n C (j := 0) dX12_falls_6 rfl rfl rfl ?_
  refine f_iload_n C (j := 1) dX12_falls_7 rfl rfl rfl ?_
  refine f_callVi C (a := 101) (ci := 12) (As := fun B => [.int x1]) o101 rfl (c_X12_whyNoFall  _ _ _ h) tM_X12_385 tI_X12_whyNoFall tS_X12_whyNoFall tN_X12 tC_X12_whyNoFall 1 dd_X12_whyNoFall rfl (by decide) (by decide) rfl (Nat.le_of_ble_eq_true rfl) dX12_falls_8 rfl (fun r_2 σ_1 h => ?_)
  refine f_puti C tF_X12_77 fm_12_0 rfl o101 dX12_falls_11 rfl ?_
  refine f_aload_n C (j := 0) dX12_falls_14 rfl rfl rfl ?_
  refine f_names (fun σ_3 hσ_4 => ?_)
  replace h := h σ_3 hσ_4
  refine f_geti C tF_X12_77 rfl o101 dX12_falls_15 rfl ?_
  refine f_if_le C (t := 25) dX12_falls_18 (by decide) rfl (fun hq_5 => ?_) (fun hq_5 => ?_)
  · replace h := Eq.mp (if_pos hq_5) h
    refine f_aload_n C (j := 0) dX12_falls_25 rfl rfl rfl ?_
    refine f_iload_n C (j := 1) dX12_falls_26 rfl rfl rfl ?_
    refine f_callVi C (a := 101) (ci := 12) (As := fun B => [.int x1]) o101 rfl (c_X12_fallsWith  _ _ _ h) tM_X12_388 tI_X12_fallsWith tS_X12_fallsWith tN_X12 tC_X12_fallsWith 1 dd_X12_fallsWith rfl (by decide) (by decide) rfl (Nat.le_of_ble_eq_true rfl) dX12_falls_27 rfl (fun r_7 σ_6 h => ?_)
    exact f_iret C dX12_falls_30 h
  · replace h := Eq.mp (if_neg hq_5) h
    refine f_iconst C (v := (-1)) dX12_falls_21 kcm1 rfl ?_
    refine f_goto C (t := 30) dX12_falls_22 (by decide) ?_
    exact f_iret C dX12_falls_30 h
theorem c_X12_falls (x1 : Int32) (σ : Sto) (P : Int32 → Sto → Prop) (h : w_X12_falls x1 σ P) : Ct yX12_falls cX12_falls 2 (some .int) 5 110 (fun B => [.ref (B + 101), .int x1]) σ (QFi P) := Ct.of (by decide) (fun _ => Nat.le_of_ble_eq_true rfl) (fun B E C => s_X12_falls C x1 σ h)
def w_X12_loss (x1 : Int32) (σ : Sto) (P : Int32 → Sto → Prop) : Prop :=
  w_X12_whyNoFall x1 (si σ 101 1 0) (fun r_2 σ_1 => ∀ σ_3 : Sto, σ_3 = si σ_1 101 0 r_2 → (if (gi σ_3 101 0) ≤ 0 then w_X12_fallsWith x1 σ_3 (fun r_7 σ_6 => w_X12_worthOf r_7 σ_6 (fun r_9 σ_8 => P r_9 σ_8)) else P (-1) σ_3))
theorem s_X12_loss {B : Nat} {E : Nat → List (Nat × Value) → List Value → Sto → Prop} {P : Int32 → Sto → Prop} (C : Cy B E RX12 cX12_loss 2 (some .int) 5 110 (Zm (QFi P))) (x1 : Int32) (σ : Sto) (h : w_X12_loss x1 σ P) : E 0 [(0, .ref (B + 101)), (1, .int x1)] [] σ := by
  unfold w_X12_loss at h
  refine f_aload_n C (j := 0) dX12_loss_0 rfl rfl rfl ?_
  refine f_iconst C (v := 0) dX12_loss_1 kc0 rfl ?_
  refine f_puti C tF_X12_74 fm_12_1 rfl o101 dX12_loss_2 rfl ?_
  refine f_aload_n C (j := 0) dX12_loss_5 rfl rfl rfl ?_
  refine f_aload_n C (j := 0) dX12_loss_6 rfl rfl rfl ?_
  refine f_iload_n C (j := 1) dX12_loss_7 rfl rfl rfl ?_
  refine f_callVi C (a := 101) (ci := 12) (As := fun B => [.int x1]) o101 rfl (c_X12_whyNoFall  _ _ _ h) tM_X12_385 tI_X12_whyNoFall tS_X12_whyNoFall tN_X12 tC_X12_whyNoFall 1 dd_X12_whyNoFall rfl (by decide) (by decide) rfl (Nat.le_of_ble_eq_true rfl) dX12_loss_8 rfl (fun r_2 σ_1 h => ?_)
  refine f_puti C tF_X12_77 fm_12_0 rfl o101 dX12_loss_11 rfl ?_
  refine f_aload_n C (j := 0) dX12_loss_14 rfl rfl rfl ?_
  refine f_names (fun σ_3 hσ_4 => ?_)
  replace h := h σ_3 hσ_4
  refine f_geti C tF_X12_77 rfl o101 dX12_loss_15 rfl ?_
  refine f_if_le C (t := 25) dX12_loss_18 (by decide) rfl (fun hq_5 => ?_) (fun hq_5 => ?_)
  · replace h := Eq.mp (if_pos hq_5) h
    refine f_aload_n C (j := 0) dX12_loss_25 rfl rfl rfl ?_
    refine f_aload_n C (j := 0) dX12_loss_26 rfl rfl rfl ?_
    refine f_iload_n C (j := 1) dX12_loss_27 rfl rfl rfl ?_
    refine f_callVi C (a := 101) (ci := 12) (As := fun B => [.int x1]) o101 rfl (c_X12_fallsWith  _ _ _ h) tM_X12_388 tI_X12_fallsWith tS_X12_fallsWith tN_X12 tC_X12_fallsWith 1 dd_X12_fallsWith rfl (by decide) (by decide) rfl (Nat.le_of_ble_eq_true rfl) dX12_loss_28 rfl (fun r_7 σ_6 h => ?_)
    refine f_callVi C (a := 101) (ci := 12) (As := fun B => [.int r_7]) o101 rfl (c_X12_worthOf  _ _ _ h) tM_X12_336 tI_X12_worthOf tS_X12_worthOf tN_X12 tC_X12_worthOf 1 dd_X12_worthOf rfl (by decide) (by decide) rfl (Nat.le_of_ble_eq_true rfl) dX12_loss_31 rfl (fun r_9 σ_8 h => ?_)
    exact f_iret C dX12_loss_34 h
  · replace h := Eq.mp (if_neg hq_5) h
    refine f_iconst C (v := (-1)) dX12_loss_21 kcm1 rfl ?_
    refine f_goto C (t := 34) dX12_loss_22 (by decide) ?_
    exact f_iret C dX12_loss_34 h
theorem c_X12_loss (x1 : Int32) (σ : Sto) (P : Int32 → Sto → Prop) (h : w_X12_loss x1 σ P) : Ct yX12_loss cX12_loss 2 (some .int) 5 110 (fun B => [.ref (B + 101), .int x1]) σ (QFi P) := Ct.of (by decide) (fun _ => Nat.le_of_ble_eq_true rfl) (fun B E C => s_X12_loss C x1 σ h)
